theorem pPr.ro {Rel : pG → Prop} {Mc Mr : Nat} {as : List pV} (h : ∀ G, Rel G → ∃ r, pRuns pMT 59 Mc (pR 0 :: as) Yc G (some (pI r)) G ∧ pRuns pMT 59 Mr (pR 109 :: as) Yc G (some (pI r)) G) : pPr Rel Mc Mr as := fun G hR => by
  obtain ⟨r, h1, h2⟩ := h G hR
  exact ⟨r, G, G, h1, h2, hR, rfl, rfl, rfl, rfl⟩
theorem pPrL.ro {Rel : pG → Prop} {Mc Mr : Nat} {as : List pV} (h : ∀ G, Rel G → ∃ r, pRuns pMT 59 Mc (pR 0 :: as) Yc G (some (pL r)) G ∧ pRuns pMT 59 Mr (pR 109 :: as) Yc G (some (pL r)) G) : pPrL Rel Mc Mr as := fun G hR => by
  obtain ⟨r, h1, h2⟩ := h G hR
  exact ⟨r, G, G, h1, h2, hR, rfl, rfl, rfl, rfl⟩
/-- fault(what) -/
theorem s131 {d : Nat} {G : pG} {x : Int} : pRuns pMT d 131 [pR 0, pI x] Yc G (some (pI (if x = 0 then G 12 3 else if x = 1 then G 12 4 else -1))) G := by
  refine pRuns.of rfl rfl (v131_0 ⟨fun h => ?_, fun h => ⟨fun h1 => ?_, fun h1 => ?_⟩⟩)
  · exact ⟨by rw [if_pos h], rfl⟩
  · exact ⟨by rw [if_neg h, if_pos h1], rfl⟩
  · exact ⟨by rw [if_neg h, if_neg h1], rfl⟩
theorem s190 {d : Nat} {G : pG} {x : Int} : pRuns pMT d 190 [pR 109, pI x] Yc G (some (pI (if x = 0 then G 109 8 else if x = 1 then G 109 9 else -1))) G := by
  refine pRuns.of rfl rfl (v190_0 ⟨fun h => ⟨fun h1 => ?_, fun h1 => ?_⟩, fun h => ?_⟩)
  · exact ⟨by rw [if_neg h, if_neg h1], rfl⟩
  · exact ⟨by rw [if_neg h, if_pos h1], rfl⟩
  · exact ⟨by rw [if_pos h], rfl⟩
/-- the fault, as both hold it -/
def rFlt (G : pG) : Prop := G 12 3 = G 109 8 ∧ G 12 4 = G 109 9
theorem pr_fault {Rel : pG → Prop} (hF : ∀ G, Rel G → rFlt G) (x : Int) : pPr Rel 131 190 [pI x] := pPr.ro fun G hR => ⟨_, s131, by rw [(hF G hR).1, (hF G hR).2]; exact s190⟩
theorem b2i_n0 {P : Prop} [Decidable P] : ¬ b2i P = 0 ↔ P := by unfold b2i; split <;> simp_all
/-- was(k, m) -/
theorem s142 {d : Nat} {G : pG} {x y : Int} (hd : 2 ≤ d) : pRuns pMT d 142 [pR 0, pI x, pI y] Yc G (some (pI (if 0 ≤ x ∧ x ≤ 3 ∧ 0 ≤ y ∧ y ≤ 99 then G (45 + x.toNat) y.toNat else -2))) G := by
  refine pRuns.of rfl rfl (v142_0 ?_)
  refine pC1.of (by omega) (s123 (by omega)) ⟨fun h => ?_, fun h => ?_⟩
  · have h := b2i_0.mp h
    exact ⟨by rw [if_neg (by omega)], rfl⟩
  · have h := b2i_n0.mp h
    refine pC1.of (by omega) (s122 (by omega)) ⟨fun h2 => ?_, fun h2 => ?_⟩
    · have h2 := b2i_0.mp h2
      exact ⟨by rw [if_neg (by omega)], rfl⟩
    · have h2 := b2i_n0.mp h2
      refine ⟨by omega, by omega, ?_⟩
      rw [if_pos (by omega)]
      have h4 : x = 0 ∨ x = 1 ∨ x = 2 ∨ x = 3 := by omega
      rcases h4 with rfl | rfl | rfl | rfl
      · exact ⟨45, rfl, by omega, by show y < (100 : Int); omega, rfl, rfl⟩
      · exact ⟨46, rfl, by omega, by show y < (100 : Int); omega, rfl, rfl⟩
      · exact ⟨47, rfl, by omega, by show y < (100 : Int); omega, rfl, rfl⟩
      · exact ⟨48, rfl, by omega, by show y < (100 : Int); omega, rfl, rfl⟩
theorem s219 {d : Nat} {G : pG} {x y : Int} (hd : 2 ≤ d) : pRuns pMT d 219 [pR 109, pI x, pI y] Yc G (some (pI (if 0 ≤ x ∧ x ≤ 3 ∧ 0 ≤ y ∧ y ≤ 99 then G 155 (100 * x + y).toNat else -2))) G := by
  refine pRuns.of rfl rfl (v219_0 ?_)
  refine pC1.of (by omega) (s217 (by omega)) ⟨fun h => ?_, fun h => ?_⟩
  · have h := b2i_0.mp h
    exact ⟨by rw [if_neg (by omega)], rfl⟩
  · have h := b2i_n0.mp h
    refine pC1.of (by omega) (s210 (by omega)) ⟨fun h2 => ?_, fun h2 => ?_⟩
    · have h2 := b2i_0.mp h2
      exact ⟨by rw [if_neg (by omega)], rfl⟩
    · have h2 := b2i_n0.mp h2
      have e1 : w32 (100 * x) = 100 * x := w32_id (by omega) (by omega)
      have e2 : w32 (100 * x + y) = 100 * x + y := w32_id (by omega) (by omega)
      rw [e1, e2, if_pos (by omega)]
      exact ⟨by omega, by omega, rfl, rfl⟩
/-- the old discs, as both hold them -/
def rOld (G : pG) : Prop := ∀ k m : Nat, k < 4 → m < 100 → G (45 + k) m = G 155 (100 * k + m) ∧ 0 ≤ G 155 (100 * k + m) ∧ G 155 (100 * k + m) ≤ 999
theorem pr_was {Rel : pG → Prop} (hO : ∀ G, Rel G → rOld G) (x y : Int) : pPr Rel 142 219 [pI x, pI y] := pPr.ro fun G hR => ⟨_, s142 (by omega), by
  have e : (if 0 ≤ x ∧ x ≤ 3 ∧ 0 ≤ y ∧ y ≤ 99 then G (45 + x.toNat) y.toNat else -2) = (if 0 ≤ x ∧ x ≤ 3 ∧ 0 ≤ y ∧ y ≤ 99 then G 155 (100 * x + y).toNat else -2) := by
    by_cases h : 0 ≤ x ∧ x ≤ 3 ∧ 0 ≤ y ∧ y ≤ 99
    · rw [if_pos h, if_pos h, (hO G hR x.toNat y.toNat (by omega) (by omega)).1, show (100 * x + y).toNat = 100 * x.toNat + y.toNat by omega]
    · rw [if_neg h, if_neg h]
  rw [e]
  exact s219 (by omega)⟩
/-- the part that holds, as both hold it -/
def rPart (G : pG) : Prop := (0 ≤ G 109 10) ∧ (G 109 10 ≤ 6) ∧ (0 ≤ G 109 11) ∧ (G 109 11 ≤ 7) ∧ (0 ≤ G 109 12) ∧ (G 109 12 ≤ 40) ∧ (G 3 1 = G 109 10) ∧ (G 3 2 = G 109 11) ∧ (G 3 3 = G 109 12) ∧ (G 3 0 = G 109 13) ∧ (∀ t : Nat, (t : Int) < G 109 10 → G 5 t = G 112 t ∧ G 6 t = G 113 t ∧ G 7 t = G 114 t ∧ 1 ≤ G 112 t ∧ G 112 t ≤ 50 ∧ 1 ≤ G 113 t ∧ G 113 t ≤ 60 ∧ 0 ≤ G 114 t ∧ G 114 t ≤ 63) ∧ (∀ k : Nat, (k : Int) < G 109 11 → G 8 k = G 115 k ∧ G 9 k = G 116 k ∧ G 10 k = G 117 k ∧ G 11 k = G 118 k ∧ 0 ≤ G 115 k ∧ G 115 k < G 109 10 ∧ 1 ≤ G 116 k ∧ G 116 k ≤ 400 ∧ 0 ≤ G 117 k ∧ G 117 k ≤ 99 ∧ 0 ≤ G 118 k ∧ G 118 k < 2 ^ k)
theorem rPart.t0 {G : pG} (h : rPart G) : 0 ≤ G 109 10 := h.1
theorem rPart.t1 {G : pG} (h : rPart G) : G 109 10 ≤ 6 := h.2.1
theorem rPart.n0 {G : pG} (h : rPart G) : 0 ≤ G 109 11 := h.2.2.1
theorem rPart.n1 {G : pG} (h : rPart G) : G 109 11 ≤ 7 := h.2.2.2.1
theorem rPart.i0 {G : pG} (h : rPart G) : 0 ≤ G 109 12 := h.2.2.2.2.1
theorem rPart.i1 {G : pG} (h : rPart G) : G 109 12 ≤ 40 := h.2.2.2.2.2.1
theorem rPart.tools {G : pG} (h : rPart G) : G 3 1 = G 109 10 := h.2.2.2.2.2.2.1
theorem rPart.steps {G : pG} (h : rPart G) : G 3 2 = G 109 11 := h.2.2.2.2.2.2.2.1
theorem rPart.idle {G : pG} (h : rPart G) : G 3 3 = G 109 12 := h.2.2.2.2.2.2.2.2.1
theorem rPart.clauses {G : pG} (h : rPart G) : G 3 0 = G 109 13 := h.2.2.2.2.2.2.2.2.2.1
theorem rPart.tool {G : pG} (h : rPart G) : ∀ t : Nat, (t : Int) < G 109 10 → G 5 t = G 112 t ∧ G 6 t = G 113 t ∧ G 7 t = G 114 t ∧ 1 ≤ G 112 t ∧ G 112 t ≤ 50 ∧ 1 ≤ G 113 t ∧ G 113 t ≤ 60 ∧ 0 ≤ G 114 t ∧ G 114 t ≤ 63 := h.2.2.2.2.2.2.2.2.2.2.1
theorem rPart.step {G : pG} (h : rPart G) : ∀ k : Nat, (k : Int) < G 109 11 → G 8 k = G 115 k ∧ G 9 k = G 116 k ∧ G 10 k = G 117 k ∧ G 11 k = G 118 k ∧ 0 ≤ G 115 k ∧ G 115 k < G 109 10 ∧ 1 ≤ G 116 k ∧ G 116 k ≤ 400 ∧ 0 ≤ G 117 k ∧ G 117 k ≤ 99 ∧ 0 ≤ G 118 k ∧ G 118 k < 2 ^ k := h.2.2.2.2.2.2.2.2.2.2.2
theorem s120 {d : Nat} {G : pG} {x : Int} (hP : rPart G) (hd : 1 ≤ d) : pRuns pMT d 120 [pR 0, pI x] Yc G (some (pI (b2i (0 ≤ x ∧ x ≤ G 109 10 - 1)))) G := by
  refine pRuns.of rfl rfl (v120_0 ?_)
  have := hP.t0
  have := hP.t1
  rw [hP.tools, w32_id (x := G 109 10 - 1) (by omega) (by omega)]
  exact pC1.of hd s118 ⟨b2i_01, rfl, rfl⟩
theorem s121 {d : Nat} {G : pG} {x : Int} (hP : rPart G) (hd : 1 ≤ d) : pRuns pMT d 121 [pR 0, pI x] Yc G (some (pI (b2i (0 ≤ x ∧ x ≤ G 109 11 - 1)))) G := by
  refine pRuns.of rfl rfl (v121_0 ?_)
  have := hP.n0
  have := hP.n1
  rw [hP.steps, w32_id (x := G 109 11 - 1) (by omega) (by omega)]
  exact pC1.of hd s118 ⟨b2i_01, rfl, rfl⟩
theorem s199 {d : Nat} {G : pG} {x : Int} (hP : rPart G) (hd : 1 ≤ d) : pRuns pMT d 199 [pR 109, pI x] Yc G (some (pI (b2i (0 ≤ x ∧ x ≤ G 109 10 - 1)))) G := by
  refine pRuns.of rfl rfl (v199_0 ?_)
  have := hP.t0
  have := hP.t1
  rw [w64_id (x := G 109 10 - 1) (by omega) (by omega)]
  exact pC1.of hd s166 ⟨b2i_01, rfl, rfl⟩
theorem s198 {d : Nat} {G : pG} {x : Int} (hP : rPart G) (hd : 1 ≤ d) : pRuns pMT d 198 [pR 109, pI x] Yc G (some (pI (b2i (0 ≤ x ∧ x ≤ G 109 11 - 1)))) G := by
  refine pRuns.of rfl rfl (v198_0 ?_)
  have := hP.n0
  have := hP.n1
  rw [w64_id (x := G 109 11 - 1) (by omega) (by omega)]
  exact pC1.of hd s166 ⟨b2i_01, rfl, rfl⟩
/-- shared(t) -/
theorem s146 {d : Nat} {G : pG} {x : Int} (hP : rPart G) (hd : 2 ≤ d) : pRuns pMT d 146 [pR 0, pI x] Yc G (some (pI (if 0 ≤ x ∧ x ≤ G 109 10 - 1 then G 49 x.toNat else -1))) G := by
  have := hP.t1
  refine pRuns.of rfl rfl (v146_0 ?_)
  refine pC1.of (by omega) (s120 hP (by omega)) ⟨fun h => ?_, fun h => ?_⟩
  · have h := b2i_0.mp h
    exact ⟨by rw [if_neg h], rfl⟩
  · have h := b2i_n0.mp h
    exact ⟨by omega, by omega, by rw [if_pos h], rfl⟩
theorem s226 {d : Nat} {G : pG} {x : Int} (hP : rPart G) (hd : 2 ≤ d) : pRuns pMT d 226 [pR 109, pI x] Yc G (some (pI (if 0 ≤ x ∧ x ≤ G 109 10 - 1 then G 157 x.toNat else -1))) G := by
  have := hP.t1
  refine pRuns.of rfl rfl (v226_0 ?_)
  refine pC1.of (by omega) (s199 hP (by omega)) ⟨fun h => ?_, fun h => ?_⟩
  · have h := b2i_0.mp h
    exact ⟨by rw [if_neg h], rfl⟩
  · have h := b2i_n0.mp h
    exact ⟨by omega, by omega, by rw [if_pos h], rfl⟩
/-- what the tools get, as both hold it -/
def rGets (G : pG) : Prop := ∀ t : Nat, (t : Int) < G 109 10 → G 49 t = G 157 t
theorem pr_shared {Rel : pG → Prop} (hP : ∀ G, Rel G → rPart G) (hS : ∀ G, Rel G → rGets G) (x : Int) : pPr Rel 146 226 [pI x] := pPr.ro fun G hR => ⟨_, s146 (hP G hR) (by omega), by
  have e : (if 0 ≤ x ∧ x ≤ G 109 10 - 1 then G 49 x.toNat else -1) = (if 0 ≤ x ∧ x ≤ G 109 10 - 1 then G 157 x.toNat else -1) := by
    by_cases h : 0 ≤ x ∧ x ≤ G 109 10 - 1
    · rw [if_pos h, if_pos h, hS G hR x.toNat (by omega)]
    · rw [if_neg h, if_neg h]
  rw [e]
  exact s226 (hP G hR) (by omega)⟩
/-- begin(k) -/
theorem s134 {d : Nat} {G : pG} {x : Int} (hP : rPart G) (hd : 2 ≤ d) : pRuns pMT d 134 [pR 0, pI x] Yc G (some (pI (if 0 ≤ x ∧ x ≤ G 109 11 - 1 then G 23 x.toNat else -2))) G := by
  have := hP.n1
  refine pRuns.of rfl rfl (v134_0 ?_)
  refine pC1.of (by omega) (s121 hP (by omega)) ⟨fun h => ?_, fun h => ?_⟩
  · have h := b2i_0.mp h
    exact ⟨by rw [if_neg h], rfl⟩
  · have h := b2i_n0.mp h
    exact ⟨by omega, by omega, by rw [if_pos h], rfl⟩
theorem s200 {d : Nat} {G : pG} {x : Int} (hP : rPart G) (hd : 2 ≤ d) : pRuns pMT d 200 [pR 109, pI x] Yc G (some (pI (if 0 ≤ x ∧ x ≤ G 109 11 - 1 then G 152 x.toNat else -2))) G := by
  have := hP.n1
  refine pRuns.of rfl rfl (v200_0 ?_)
  refine pC1.of (by omega) (s198 hP (by omega)) ⟨fun h => ?_, fun h => ?_⟩
  · have h := b2i_0.mp h
    exact ⟨by rw [if_neg h], rfl⟩
  · have h := b2i_n0.mp h
    exact ⟨by omega, by omega, by rw [if_pos h], rfl⟩
/-- the plan, as both hold it -/
def rPlan (G : pG) : Prop := G 22 2 = G 109 34 ∧ ∀ k : Nat, (k : Int) < G 109 11 → G 23 k = G 152 k
theorem pr_begin {Rel : pG → Prop} (hP : ∀ G, Rel G → rPart G) (hS : ∀ G, Rel G → rPlan G) (x : Int) : pPr Rel 134 200 [pI x] := pPr.ro fun G hR => ⟨_, s134 (hP G hR) (by omega), by
  have e : (if 0 ≤ x ∧ x ≤ G 109 11 - 1 then G 23 x.toNat else -2) = (if 0 ≤ x ∧ x ≤ G 109 11 - 1 then G 152 x.toNat else -2) := by
    by_cases h : 0 ≤ x ∧ x ≤ G 109 11 - 1
    · rw [if_pos h, if_pos h, (hS G hR).2 x.toNat (by omega)]
    · rw [if_neg h, if_neg h]
  rw [e]
  exact s200 (hP G hR) (by omega)⟩
/-- count(what) -/
theorem s65 {d : Nat} {G : pG} (hP : rPart G) : pRuns pMT d 65 [pR 3] Yc G (some (pI (1 + 60 * G 109 10))) G := by
  have := hP.t0
  have := hP.t1
  refine pRuns.of rfl rfl (v65_0 ?_)
  rw [hP.tools, w32_id (x := G 109 10 * 12) (by omega) (by omega), w32_id (x := G 109 10 * 12 * 5) (by omega) (by omega), w32_id (by omega) (by omega)]
  exact rI (by omega) rfl
theorem s66 {d : Nat} {G : pG} (hP : rPart G) : pRuns pMT d 66 [pR 3] Yc G (some (pI (1 + 4 * G 109 11))) G := by
  have := hP.n0
  have := hP.n1
  refine pRuns.of rfl rfl (v66_0 ?_)
  rw [hP.steps, w32_id (x := G 109 11 * 4) (by omega) (by omega), w32_id (by omega) (by omega)]
  exact rI (by omega) rfl
theorem s244 {d : Nat} {G : pG} (hP : rPart G) : pRuns pMT d 244 [pR 109] Yc G (some (pI (1 + 60 * G 109 10))) G := by
  have := hP.t0
  have := hP.t1
  refine pRuns.of rfl rfl (v244_0 ?_)
  rw [w32_id (x := 60 * G 109 10) (by omega) (by omega), w32_id (by omega) (by omega)]
  exact rI rfl rfl
theorem s245 {d : Nat} {G : pG} (hP : rPart G) : pRuns pMT d 245 [pR 109] Yc G (some (pI (1 + 4 * G 109 11))) G := by
  have := hP.n0
  have := hP.n1
  refine pRuns.of rfl rfl (v245_0 ?_)
  rw [w32_id (x := 4 * G 109 11) (by omega) (by omega), w32_id (by omega) (by omega)]
  exact rI rfl rfl
/-- how many causes there are -/
def vCau (G : pG) : Int := w32 (w32 (5 * (1 + 60 * G 109 10)) * (1 + 4 * G 109 11))
theorem s67 {d : Nat} {G : pG} (hP : rPart G) (hd : 1 ≤ d) : pRuns pMT d 67 [pR 3] Yc G (some (pI (vCau G))) G :=
  pRuns.of rfl rfl (v67_0 (pC1.of hd (s65 hP) (pC1.of hd (s66 hP) (rI rfl rfl))))
theorem s246 {d : Nat} {G : pG} (hP : rPart G) (hd : 1 ≤ d) : pRuns pMT d 246 [pR 109] Yc G (some (pI (vCau G))) G :=
  pRuns.of rfl rfl (v246_0 (pC1.of hd (s244 hP) (pC1.of hd (s245 hP) (rI rfl rfl))))
theorem s165 {d : Nat} {G : pG} {x : Int} (hP : rPart G) (hd : 2 ≤ d) : pRuns pMT d 165 [pR 0, pI x] Yc G (some (pI (if x = 0 then G 3 0 else if x = 1 then G 80 0 else if x = 2 then G 80 1 else if x = 3 then G 1 2 else if x = 4 then vCau G else -1))) G := by
  refine pRuns.of rfl rfl (v165_0 ⟨fun h => ?_, fun h => ⟨fun h0 => ?_, fun h0 => ⟨fun h1 => ?_, fun h1 => ⟨fun h2 => ?_, fun h2 => ⟨fun h3 => ?_, fun h3 => ⟨fun h4 => ?_, fun h4 => by omega⟩⟩⟩⟩⟩⟩)
  · exact rI (by rw [if_neg (by omega), if_neg (by omega), if_neg (by omega), if_neg (by omega), if_neg (by omega)]) rfl
  · exact rI (by rw [if_pos h0]) rfl
  · exact rI (by rw [if_neg h0, if_pos h1]) rfl
  · exact rI (by rw [if_neg h0, if_neg h1, if_pos h2]) rfl
  · exact rI (by rw [if_neg h0, if_neg h1, if_neg h2, if_pos h3]) rfl
  · exact pC1.of (by omega) (s67 hP (by omega)) (rI (by rw [if_neg h0, if_neg h1, if_neg h2, if_neg h3, if_pos h4]) rfl)
theorem s266 {d : Nat} {G : pG} {x : Int} (hP : rPart G) (hd : 2 ≤ d) : pRuns pMT d 266 [pR 109, pI x] Yc G (some (pI (if x = 0 then G 109 13 else if x = 1 then G 109 60 else if x = 2 then G 109 61 else if x = 3 then G 109 1 else if x = 4 then vCau G else -1))) G := by
  refine pRuns.of rfl rfl (v266_0 ⟨fun h => ?_, fun h => ⟨fun h0 => ?_, fun h0 => ⟨fun h1 => ?_, fun h1 => ⟨fun h2 => ?_, fun h2 => ⟨fun h3 => ?_, fun h3 => ⟨fun h4 => ?_, fun h4 => by omega⟩⟩⟩⟩⟩⟩)
  · exact rI (by rw [if_neg (by omega), if_neg (by omega), if_neg (by omega), if_neg (by omega), if_neg (by omega)]) rfl
  · exact rI (by rw [if_pos h0]) rfl
  · exact rI (by rw [if_neg h0, if_pos h1]) rfl
  · exact rI (by rw [if_neg h0, if_neg h1, if_pos h2]) rfl
  · exact rI (by rw [if_neg h0, if_neg h1, if_neg h2, if_pos h3]) rfl
  · exact pC1.of (by omega) (s246 hP (by omega)) (rI (by rw [if_neg h0, if_neg h1, if_neg h2, if_neg h3, if_pos h4]) rfl)
theorem pr_count {Rel : pG → Prop} (hP : ∀ G, Rel G → rPart G) (hC : ∀ G, Rel G → G 80 0 = G 109 60 ∧ G 80 1 = G 109 61 ∧ G 1 2 = G 109 1) (x : Int) : pPr Rel 165 266 [pI x] := pPr.ro fun G hR => ⟨_, s165 (hP G hR) (by omega), by
  rw [(hP G hR).clauses, (hC G hR).1, (hC G hR).2.1, (hC G hR).2.2]
  exact s266 (hP G hR) (by omega)⟩
