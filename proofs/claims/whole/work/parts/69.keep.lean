/-! what depends on the plan -/
def dLc : List Nat := [112, 113, 115, 116, 117, 152]
def dLf : List Nat := [11, 12, 34]
theorem vHt_c {G G' : pG} (hc : ∀ c ∈ dLc, G' c = G c) (hf : ∀ j ∈ dLf, G' 109 j = G 109 j) (k : Nat) (m : Int) : vHt G' k m = vHt G k m ∧ vUp G' k = vUp G k ∧ vTop G' k = vTop G k ∧ vDn G' k = vDn G k := by
  unfold vHt vUp vTop vDn vMk vTn
  rw [hc 112 (by decide), hc 113 (by decide), hc 115 (by decide), hc 116 (by decide), hc 117 (by decide), hc 152 (by decide), hf 12 (by decide), hf 34 (by decide)]
  exact ⟨rfl, rfl, rfl, rfl⟩
theorem vDsc_c {G G' : pG} (hc : ∀ c ∈ dLc, G' c = G c) (hf : ∀ j ∈ dLf, G' 109 j = G 109 j) (t m : Int) : vDsc G' t m = vDsc G t m := by
  have key : ∀ n : Nat, vDh G' t m n = vDh G t m n := by
    intro n
    induction n with
    | zero => rfl
    | succ n ih => unfold vDh; rw [ih, hc 115 (by decide), (vHt_c hc hf n m).1]
  unfold vDsc
  rw [key, hf 11 (by decide)]
theorem rPl_dep : dep [112, 115, 116, 117, 152] [11, 34] rPl := by
  intro G G' h1 h2 h
  unfold rPl vTn at *
  rw [h1 112 (by decide), h1 115 (by decide), h1 116 (by decide), h1 117 (by decide), h1 152 (by decide), h2 11 (by decide), h2 34 (by decide)]
  exact h
theorem rDisc_dep : dep [40, 41, 42, 112, 115, 116, 117, 152] [11, 12, 34] rDisc := by
  intro G G' h1 h2 h
  unfold rDisc vUp vTop vDn vMk vTn at *
  rw [h1 40 (by decide), h1 41 (by decide), h1 42 (by decide), h1 112 (by decide), h1 115 (by decide), h1 116 (by decide), h1 117 (by decide), h1 152 (by decide), h2 11 (by decide), h2 12 (by decide), h2 34 (by decide)]
  exact h
theorem fr.dsc {W F : List Nat} {G G' : pG} (h : fr W F G G') (hW : ∀ c ∈ dLc, c ∉ W ∧ c ≠ 109) (hF : ∀ j ∈ dLf, j ∉ F) (t m : Int) : vDsc G' t m = vDsc G t m := vDsc_c (fun c hc => h.1 c (hW c hc).1 (hW c hc).2) (fun j hj => h.2 j (hF j hj)) t m
theorem vDsc_bd {G : pG} (hP : rPart G) (hL : rPl G) (t m : Int) : 0 ≤ vDsc G t m ∧ vDsc G t m ≤ 400 := vDh_bd hP hL t m _ (by have := hP.n0; omega)
/-- the greatest of the first n, and 0 -/
def vMx (f : Nat → Int) : Nat → Int
  | 0 => 0
  | n + 1 => max (vMx f n) (f n)
def vKp (G : pG) (t b : Int) (m : Nat) : Int := vDsc G t (m : Int) + b
theorem s47 {d : Nat} {G : pG} {t b : Int} {k : Nat} (hP : rPart G) (hL : rPl G) (hD : rDisc G) (hk : k < 4) (hb0 : 0 ≤ b) (hb : b ≤ 500) (hd : 2 ≤ d) : ∃ G', pRuns pMT d 47 [pR 43, pI t, pI (k : Int), pI b] Yc G (some (pI (vMx (vKp G t b) 100))) G' ∧ fr [45, 46, 47, 48, 52, 53, 54, 55, 56, 57] [] G G' ∧ (∀ t : Nat, t < 6 → G' (52 + t) k = -2 ∧ ∀ j : Nat, j ≠ k → G' (52 + t) j = G (52 + t) j) ∧ (∀ j : Nat, j < 4 → j ≠ k → G' (45 + j) = G (45 + j)) ∧ ∀ m : Nat, m < 100 → G' (45 + k) m = vKp G t b m := by
  have H2 : ∀ (n i : Nat) (g : pG), i + n = 100 → fr [45, 46, 47, 48] [] G g → (∀ j : Nat, j < 4 → j ≠ k → g (45 + j) = G (45 + j)) → (∀ m : Nat, m < i → g (45 + k) m = vKp G t b m) → pEnds pMT d 47 Yc (fun r g => ∃ v : Int, r = some (pI v) ∧ (v = vMx (vKp G t b) 100 ∧ fr [45, 46, 47, 48, 52, 53, 54, 55, 56, 57] [] G g ∧ (∀ t : Nat, t < 6 → g (52 + t) k = -2 ∧ ∀ j : Nat, j ≠ k → g (52 + t) j = G (52 + t) j) ∧ (∀ j : Nat, j < 4 → j ≠ k → g (45 + j) = G (45 + j)) ∧ ∀ m : Nat, m < 100 → g (45 + k) m = vKp G t b m)) 6 [pR 43, pI t, pI (k : Int), pI b, pI (vMx (vKp G t b) i), pI (i : Int)] [] g := by
    intro n
    induction n with
    | zero =>
      intro i g hi f1 f2 f3
      obtain rfl : i = 100 := by omega
      refine v47_6 ⟨fun _ => pC0.ox (by omega) (s44 hk) fun A hA => ⟨_, rfl, rfl, (f1.mono (by decide) (by decide)).trans (hA.1.mono (by decide) (by decide)), fun t ht => ⟨(hA.2 t ht).1, fun j hj => ?_⟩, fun j hj hj2 => ?_, fun m hm => ?_⟩, fun h => by omega⟩
      · rw [(hA.2 t ht).2 j hj, f1.c (52 + t) ⟨by simp; omega, by omega⟩]
      · rw [hA.1.c (45 + j) ⟨by simp; omega, by omega⟩, f2 j hj hj2]
      · rw [hA.1.c (45 + k) ⟨by simp; omega, by omega⟩, f3 m (by omega)]
    | succ n ih =>
      intro i g hi f1 f2 f3
      obtain ⟨r1, r2, r3⟩ := row44 k hk
      have hPg : rPart g := f1.mv rPart_dep (by decide) (by decide) hP
      have hLg : rPl g := f1.mv rPl_dep (by decide) (by decide) hL
      have hDg : rDisc g := f1.mv rDisc_dep (by decide) (by decide) hD
      have bd := vDsc_bd hP hL t (i : Int)
      refine v47_6 ⟨fun h => by omega, fun h => ⟨by omega, by omega, 45 + k, by rw [Int.toNat_natCast]; exact r1, pC1.of (by omega) (s14 hPg hLg hDg (by omega) (by omega) (by omega)) (bif_t r2 ⟨by omega, by rw [r3]; omega, by omega, by omega, 45 + k, by rw [Int.toNat_natCast]; exact r1, bif_t r2 ⟨by omega, by rw [r3]; omega, ?_⟩⟩)⟩⟩
      rw [w32_id (x := (i : Int) + 1) (by omega) (by omega), Int.toNat_natCast, f1.dsc (by decide) (by decide), w32_id (by omega) (by omega), pset_eq, pmx_eq]
      rintro _ rfl _ rfl
      refine ih (i + 1) _ (by omega) (f1.trans (fr.set (by simp; omega) (by omega) _ _ _)) (fun j hj hj2 => ?_) (fun m hm => ?_)
      · rw [pset_cl _ _ (by omega)]; exact f2 j hj hj2
      · by_cases e : m = i
        · subst e; rw [pset_eq]; rfl
        · rw [pset_ne _ _ e]; exact f3 m (by omega)
  obtain ⟨v, G', h1, rfl, h2⟩ := pX1 (MT := pMT) (d := d) (m := 47) (as := [pR 43, pI t, pI (k : Int), pI b]) (Y := Yc) (G := G) rfl rfl (v47_0 (by
    rintro _ rfl _ rfl
    exact H2 100 0 G rfl (fr.refl _ _ _) (fun _ _ _ => rfl) (fun m hm => by omega)))
  exact ⟨G', h1, h2⟩
theorem l220 {d : Nat} {G : pG} {t b : Int} {k : Nat} (hP : rPart G) (hL : rPl G) (hk : k < 4) (hb0 : 0 ≤ b) (hb : b ≤ 500) (hd : 4 ≤ d) {R : Option pV → pG → Prop} (hR : ∀ g, fr [155] [] G g → (∀ j m : Nat, j < 4 → m < 100 → j ≠ k → g 155 (100 * j + m) = G 155 (100 * j + m)) → (∀ m : Nat, m < 100 → g 155 (100 * k + m) = vKp G t b m) → R (some (pI (vMx (vKp G t b) 100))) g) : pEnds pMT d 220 Yc R 36 [pR 109, pI t, pI (k : Int), pI b, pI 0, pI 0] [] G := by
  have H2 : ∀ (n i : Nat) (g : pG), i + n = 100 → fr [155] [] G g → (∀ j m : Nat, j < 4 → m < 100 → j ≠ k → g 155 (100 * j + m) = G 155 (100 * j + m)) → (∀ m : Nat, m < i → g 155 (100 * k + m) = vKp G t b m) → pEnds pMT d 220 Yc R 36 [pR 109, pI t, pI (k : Int), pI b, pI (vMx (vKp G t b) i), pI (i : Int)] [] g := by
    intro n
    induction n with
    | zero =>
      intro i g hi f1 f2 f3
      obtain rfl : i = 100 := by omega
      exact v220_36 ⟨fun _ => hR g f1 f2 f3, fun h => by omega⟩
    | succ n ih =>
      intro i g hi f1 f2 f3
      have hPg : rPart g := f1.mv rPart_dep (by decide) (by decide) hP
      have hLg : rPl g := f1.mv rPl_dep (by decide) (by decide) hL
      have bd := vDsc_bd hP hL t (i : Int)
      have e1 : w32 (w32 (100 * (k : Int)) + (i : Int)) = ((100 * k + i : Nat) : Int) := by rw [w32_id (x := 100 * (k : Int)) (by omega) (by omega), w32_id (by omega) (by omega)]; omega
      refine v220_36 ⟨fun h => by omega, fun h => pC1.of (by omega) (s209 hPg hLg (by omega) (by omega) (by omega)) ?_⟩
      rw [e1, w32_id (x := (i : Int) + 1) (by omega) (by omega), Int.toNat_natCast, f1.dsc (by decide) (by decide), w32_id (x := vDsc G t (i : Int) + b) (by omega) (by omega), pset_eq, pmx_eq]
      refine ⟨by omega, by omega, by omega, by omega, ?_⟩
      rintro _ rfl _ rfl
      refine ih (i + 1) _ (by omega) (f1.trans (fr.set (by decide) (by omega) _ _ _)) (fun j m hj hm hj2 => by rw [pset_ne _ _ (by omega)]; exact f2 j m hj hm hj2) (fun m hm => ?_)
      by_cases e : m = i
      · subst e; rw [pset_eq]; rfl
      · rw [pset_ne _ _ (by omega)]; exact f3 m (by omega)
  exact H2 100 0 G rfl (fr.refl _ _ _) (fun j m _ _ _ => rfl) (fun m hm => by omega)
theorem pr_keep (t x b : Int) : pPx [45, 46, 47, 48, 52, 53, 54, 55, 56, 57, 155] [] (fun G => rPart G ∧ rPl G ∧ rDisc G ∧ rOld G) (fun G G' => rOld G' ∧ caMv G G') 143 220 [pI t, pI x, pI b] := by
  rintro G ⟨hP, hL, hD, hO⟩
  by_cases hok : (0 ≤ t ∧ t ≤ G 109 10 - 1) ∧ (0 ≤ x ∧ x ≤ 3) ∧ (0 ≤ b ∧ b ≤ 500)
  · obtain ⟨o1, o2, o3⟩ := hok
    obtain ⟨k, rfl⟩ : ∃ k : Nat, x = (k : Int) := ⟨x.toNat, by omega⟩
    obtain ⟨A, a1, a2, a3, a4, a5⟩ := s47 (d := 58) (G := G) (t := t) (b := b) (k := k) hP hL hD (by omega) o3.1 o3.2 (by omega)
    have hPA : rPart A := a2.mv rPart_dep (by decide) (by decide) hP
    have hLA : rPl A := a2.mv rPl_dep (by decide) (by decide) hL
    have eK : vKp A t b = vKp G t b := by funext m; unfold vKp; rw [a2.dsc (by decide) (by decide)]
    have r2 : ∃ v G', pRuns pMT 59 220 [pR 109, pI t, pI (k : Int), pI b] Yc A (some (pI v)) G' ∧ (v = vMx (vKp G t b) 100 ∧ fr [155] [] A G' ∧ (∀ j m : Nat, j < 4 → m < 100 → j ≠ k → G' 155 (100 * j + m) = A 155 (100 * j + m)) ∧ (∀ m : Nat, m < 100 → G' 155 (100 * k + m) = vKp G t b m)) := by
      refine pX1 rfl rfl (v220_0 ?_)
      refine pC1.of (by omega) (s199 hPA (by omega)) ⟨fun q => absurd (by rw [a2.f 10 (by decide)]; exact o1) (b2i_0.mp q), fun _ => ?_⟩
      refine pC1.of (by omega) (s217 (by omega)) ⟨fun q => absurd o2 (b2i_0.mp q), fun _ => ?_⟩
      refine pC1.of (by omega) s166 ⟨fun _ => ?_, fun q => absurd o3 (b2i_0.mp q)⟩
      rintro _ rfl _ rfl
      refine l220 hPA hLA (by omega) o3.1 o3.2 (by omega) (fun g h1 h2 h3 => ?_)
      rw [eK] at h3 ⊢
      exact ⟨_, rfl, rfl, h1, h2, h3⟩
    obtain ⟨v, C, c2, rfl, f2, m1, m2⟩ := r2
    have FD : fr [45, 46, 47, 48, 52, 53, 54, 55, 56, 57, 155] [] G C := (a2.mono (by decide) (by decide)).trans (f2.mono (by decide) (by decide))
    refine ⟨_, A, C, pRuns.of rfl rfl (v143_0 ?_), c2, a2.mono (by decide) (by decide), FD, ?_, Or.inr ⟨k, by omega, ?_, ?_⟩⟩
    · refine pC1.of (by omega) (s120 hP (by omega)) ⟨fun q => absurd o1 (b2i_0.mp q), fun _ => ?_⟩
      refine pC1.of (by omega) (s123 (by omega)) ⟨fun q => absurd o2 (b2i_0.mp q), fun _ => ?_⟩
      exact pC1.of (by omega) s118 ⟨fun _ => pC1.of (by omega) a1 (rI rfl rfl), fun q => absurd o3 (b2i_0.mp q)⟩
    · intro j m hj hm
      rw [f2.c (45 + j) ⟨by simp; omega, by omega⟩]
      by_cases e : j = k
      · subst e
        rw [a5 m hm, m2 m hm]
        have := vDsc_bd hP hL t (m : Int)
        unfold vKp
        omega
      · rw [a4 j hj e, m1 j m hj hm e, a2.c 155 (by decide)]
        exact hO j m hj hm
    · intro t ht
      rw [f2.c (52 + t) ⟨by simp; omega, by omega⟩]
      exact a3 t ht
    · intro j m hj hm e
      rw [m1 j m hj hm e, a2.c 155 (by decide)]
  · refine ⟨-2, G, G, pRuns.of rfl rfl (v143_0 ?_), pRuns.of rfl rfl (v220_0 ?_), fr.refl _ _ _, fr.refl _ _ _, hO, Or.inl ⟨rfl, fun _ _ => rfl⟩⟩
    · refine pC1.of (by omega) (s120 hP (by omega)) ⟨fun q => rI rfl rfl, fun z1 => ?_⟩
      refine pC1.of (by omega) (s123 (by omega)) ⟨fun q => rI rfl rfl, fun z2 => ?_⟩
      exact pC1.of (by omega) s118 ⟨fun z3 => absurd ⟨b2i_n0.mp z1, b2i_n0.mp z2, b2i_n0.mp z3⟩ hok, fun q => rI rfl rfl⟩
    · refine pC1.of (by omega) (s199 hP (by omega)) ⟨fun q => rI rfl rfl, fun z1 => ?_⟩
      refine pC1.of (by omega) (s217 (by omega)) ⟨fun q => rI rfl rfl, fun z2 => ?_⟩
      exact pC1.of (by omega) s166 ⟨fun z3 => absurd ⟨b2i_n0.mp z1, b2i_n0.mp z2, b2i_n0.mp z3⟩ hok, fun q => rI rfl rfl⟩
