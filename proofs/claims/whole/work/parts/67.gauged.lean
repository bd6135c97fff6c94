/-- what was gauged and put right, as both hold it -/
def rGau (G : pG) : Prop := (0 ≤ G 109 60 ∧ G 109 60 ≤ 16 ∧ G 80 0 = G 109 60) ∧ (0 ≤ G 109 61 ∧ G 109 61 ≤ 20 ∧ G 80 1 = G 109 61) ∧ (0 ≤ G 109 62 ∧ G 109 62 ≤ 999 ∧ G 80 2 = G 109 62) ∧ (∀ k : Nat, (k : Int) < G 109 60 → G 81 k = G 168 k ∧ G 82 k = G 165 k ∧ G 83 k = G 166 k ∧ G 84 k = G 167 k ∧ 0 ≤ G 165 k ∧ G 165 k ≤ 39 ∧ 0 ≤ G 166 k ∧ G 166 k < G 109 11 ∧ -99 ≤ G 167 k ∧ G 167 k ≤ 99) ∧ (∀ n : Nat, (n : Int) < G 109 61 → G 85 n = G 171 n ∧ G 86 n = G 169 n ∧ G 87 n = G 170 n ∧ -99 ≤ G 170 n ∧ G 170 n ≤ 99)
/-- the class' part of gauge -/
def vGaC (G : pG) (n : Nat) (a b c e : Int) : pG := pset (pset (pset (pset (pset (pset G 80 2 a) 81 n a) 82 n b) 83 n c) 84 n e) 80 0 ((n : Int) + 1)
def vGaR (G : pG) (n : Nat) (a b c e : Int) : pG := pset (pset (pset (pset (pset (pset G 109 62 a) 165 n b) 166 n c) 167 n e) 168 n a) 109 60 ((n : Int) + 1)
theorem vGaC_fr (G : pG) (n : Nat) (a b c e : Int) : fr [80, 81, 82, 83, 84] [] G (vGaC G n a b c e) := (fr.set (by decide) (by decide) _ _ _).trans ((fr.set (by decide) (by decide) _ _ _).trans ((fr.set (by decide) (by decide) _ _ _).trans ((fr.set (by decide) (by decide) _ _ _).trans ((fr.set (by decide) (by decide) _ _ _).trans (fr.set (by decide) (by decide) _ _ _)))))
theorem vGaR_fr (G : pG) (n : Nat) (a b c e : Int) : fr [165, 166, 167, 168] [60, 62] G (vGaR G n a b c e) := (fr.setF (by decide) _ _).trans ((fr.set (by decide) (by decide) _ _ _).trans ((fr.set (by decide) (by decide) _ _ _).trans ((fr.set (by decide) (by decide) _ _ _).trans ((fr.set (by decide) (by decide) _ _ _).trans (fr.setF (by decide) _ _)))))
theorem s19 {d : Nat} {G : pG} : pRuns pMT d 19 [pR 92] Yc G none (pset G 92 2 (-1)) := pRuns.of rfl rfl (v19_0 ⟨rfl, rfl⟩)
theorem s33 {d : Nat} {G : pG} {a b c e : Int} {n : Nat} (hn : G 80 0 = (n : Int)) (h : n ≤ 16) : pRuns pMT d 33 [pR 80, pI a, pI b, pI c, pI e] Yc G (some (pI (if n < 16 then (n : Int) else -3))) (if n < 16 then vGaC G n a b c e else G) := by
  refine pRuns.of rfl rfl (v33_0 ⟨fun h => ?_, fun h => rI (by rw [if_neg (by omega)]) (by rw [if_neg (by omega)])⟩)
  rw [if_pos (by omega), if_pos (by omega)]
  have e1 : w32 ((n : Int) + 1) = (n : Int) + 1 := w32_id (by omega) (by omega)
  have e2 : w32 (n : Int) = (n : Int) := w32_id (by omega) (by omega)
  simp [pset_at, hn, e1, e2, vGaC]
  omega
/-- gauge: when it is taken -/
def vGaOk (G : pG) (a b c e : Int) : Prop := (0 ≤ a ∧ a ≤ 999) ∧ G 109 62 ≤ a ∧ (0 ≤ c ∧ c ≤ G 109 11 - 1) ∧ (0 ≤ b ∧ b ≤ 39) ∧ (-99 ≤ e ∧ e ≤ 99)
theorem pr_gauge (a b c e : Int) : pPx [80, 81, 82, 83, 84, 92, 165, 166, 167, 168] [60, 62] (fun G => rPart G ∧ rGau G) (fun G G' => G' = G ∨ (rGau G' ∧ G' 92 2 = -1)) 155 241 [pI a, pI b, pI c, pI e] := by
  rintro G ⟨hP, hG⟩
  have hG' := hG
  obtain ⟨⟨g1, g2, g3⟩, g4, ⟨g5, g6, g7⟩, g8, g9⟩ := hG
  obtain ⟨n, hn⟩ : ∃ n : Nat, G 109 60 = (n : Int) := ⟨(G 109 60).toNat, by omega⟩
  by_cases hok : vGaOk G a b c e
  · obtain ⟨o1, o2, o3, o4, o5⟩ := hok
    have f0 : fr [92] [] G (pset G 92 2 (-1)) := fr.set (by decide) (by decide) _ _ _
    have e80 : pset G 92 2 (-1) 80 0 = (n : Int) := by rw [f0.c 80 (by decide), g3, hn]
    have c33 := s33 (d := 58) (G := pset G 92 2 (-1)) (a := a) (b := b) (c := c) (e := e) e80 (by omega)
    by_cases hf : n < 16
    · rw [if_pos hf, if_pos hf] at c33
      have f1 := vGaC_fr (pset G 92 2 (-1)) n a b c e
      have F1 : fr [80, 81, 82, 83, 84, 92, 165, 166, 167, 168] [60, 62] G (vGaC (pset G 92 2 (-1)) n a b c e) := (f0.mono (by decide) (by decide)).trans (f1.mono (by decide) (by decide))
      generalize hC : vGaC (pset G 92 2 (-1)) n a b c e = C at *
      have f01 : fr [80, 81, 82, 83, 84, 92] [] G C := (f0.mono (by decide) (by decide)).trans (f1.mono (by decide) (by decide))
      have hPC : rPart C := f01.mv rPart_dep (by decide) (by decide) hP
      have f2 := vGaR_fr C n a b c e
      refine ⟨n, C, vGaR C n a b c e, pRuns.of rfl rfl (v155_0 ?_), pRuns.of rfl rfl (v241_0 ?_), F1, F1.trans (f2.mono (by decide) (by decide)), Or.inr ⟨?_, ?_⟩⟩
      · refine pC1.of (by omega) (s124 (by omega)) ⟨fun q => absurd o1 (b2i_0.mp q), fun _ => ⟨fun q => by omega, fun _ => ?_⟩⟩
        refine pC1.of (by omega) (s121 hP (by omega)) ⟨fun q => absurd o3 (b2i_0.mp q), fun _ => ?_⟩
        refine pC1.of (by omega) (s125 (by omega)) ⟨fun q => absurd o4 (b2i_0.mp q), fun _ => ?_⟩
        refine pC1.of (by omega) (s126 (by omega)) ⟨fun _ => ?_, fun q => absurd o5 (b2i_0.mp q)⟩
        exact pC0.of (by omega) s19 (pC1.of (by omega) c33 (rI rfl rfl))
      · rw [f01.f 62 (by decide)]
        refine pC1.of (by omega) s166 ⟨fun q => absurd ⟨o2, o1.2⟩ (b2i_0.mp q), fun _ => ?_⟩
        refine pC1.of (by omega) (s239 (by omega)) ⟨fun q => absurd o4 (b2i_0.mp q), fun _ => ?_⟩
        refine pC1.of (by omega) (s198 hPC (by omega)) ⟨fun q => absurd (by rw [f01.f 11 (by decide)]; exact o3) (b2i_0.mp q), fun _ => ?_⟩
        refine pC1.of (by omega) (s240 (by omega)) ⟨fun _ => ?_, fun q => absurd o5 (b2i_0.mp q)⟩
        have e60 : C 109 60 = (n : Int) := by rw [f01.f 60 (by decide), hn]
        have e1 : w32 ((n : Int) + 1) = (n : Int) + 1 := w32_id (by omega) (by omega)
        have e2 : w32 (n : Int) = (n : Int) := w32_id (by omega) (by omega)
        refine ⟨fun _ => ?_, fun q => by omega⟩
        simp [pset_at, e60, e1, e2, vGaR]
        omega
      · unfold rGau
        have k60 : vGaR C n a b c e 109 60 = (n : Int) + 1 := by unfold vGaR; rw [pset_eq]
        have k62 : vGaR C n a b c e 109 62 = a := by simp [vGaR, pset_at]
        rw [k60, k62, f2.f 61 (by decide), f2.f 11 (by decide), f01.f 61 (by decide), f01.f 11 (by decide), f2.c 80 (by decide), f2.c 81 (by decide), f2.c 82 (by decide), f2.c 83 (by decide), f2.c 84 (by decide), f2.c 85 (by decide), f2.c 86 (by decide), f2.c 87 (by decide), f2.c 169 (by decide), f2.c 170 (by decide), f2.c 171 (by decide), f01.c 85 (by decide), f01.c 86 (by decide), f01.c 87 (by decide), f01.c 169 (by decide), f01.c 170 (by decide), f01.c 171 (by decide)]
        have q80 : C 80 0 = (n : Int) + 1 ∧ C 80 1 = G 80 1 ∧ C 80 2 = a := by rw [← hC]; simp [vGaC, pset_at]
        refine ⟨⟨by omega, by omega, q80.1⟩, ⟨g4.1, g4.2.1, by rw [q80.2.1, g4.2.2]⟩, ⟨by omega, by omega, q80.2.2⟩, fun k hk => ?_, g9⟩
        have r1 : ∀ k : Nat, C 81 k = if k = n then a else G 81 k := by intro k; rw [← hC]; simp [vGaC, pset_at]
        have r2 : ∀ k : Nat, C 82 k = if k = n then b else G 82 k := by intro k; rw [← hC]; simp [vGaC, pset_at]
        have r3 : ∀ k : Nat, C 83 k = if k = n then c else G 83 k := by intro k; rw [← hC]; simp [vGaC, pset_at]
        have r4 : ∀ k : Nat, C 84 k = if k = n then e else G 84 k := by intro k; rw [← hC]; simp [vGaC, pset_at]
        have r5 : ∀ k : Nat, vGaR C n a b c e 168 k = if k = n then a else G 168 k := by intro k; rw [← f01.c 168 (by decide)]; simp [vGaR, pset_at]
        have r6 : ∀ k : Nat, vGaR C n a b c e 165 k = if k = n then b else G 165 k := by intro k; rw [← f01.c 165 (by decide)]; simp [vGaR, pset_at]
        have r7 : ∀ k : Nat, vGaR C n a b c e 166 k = if k = n then c else G 166 k := by intro k; rw [← f01.c 166 (by decide)]; simp [vGaR, pset_at]
        have r8 : ∀ k : Nat, vGaR C n a b c e 167 k = if k = n then e else G 167 k := by intro k; rw [← f01.c 167 (by decide)]; simp [vGaR, pset_at]
        rw [r1, r2, r3, r4, r5, r6, r7, r8]
        by_cases ek : k = n
        · simp only [if_pos ek]
          exact ⟨trivial, trivial, trivial, trivial, by omega, by omega, by omega, by omega, by omega, by omega⟩
        · simp only [if_neg ek]
          exact g8 k (by omega)
      · rw [f2.c 92 (by decide), f1.c 92 (by decide), pset_eq]
    · rw [if_neg hf, if_neg hf] at c33
      have hPC : rPart (pset G 92 2 (-1)) := f0.mv rPart_dep (by decide) (by decide) hP
      refine ⟨-3, pset G 92 2 (-1), pset G 92 2 (-1), pRuns.of rfl rfl (v155_0 ?_), pRuns.of rfl rfl (v241_0 ?_), f0.mono (by decide) (by decide), f0.mono (by decide) (by decide), Or.inr ⟨?_, by rw [pset_eq]⟩⟩
      · refine pC1.of (by omega) (s124 (by omega)) ⟨fun q => absurd o1 (b2i_0.mp q), fun _ => ⟨fun q => by omega, fun _ => ?_⟩⟩
        refine pC1.of (by omega) (s121 hP (by omega)) ⟨fun q => absurd o3 (b2i_0.mp q), fun _ => ?_⟩
        refine pC1.of (by omega) (s125 (by omega)) ⟨fun q => absurd o4 (b2i_0.mp q), fun _ => ?_⟩
        refine pC1.of (by omega) (s126 (by omega)) ⟨fun _ => ?_, fun q => absurd o5 (b2i_0.mp q)⟩
        exact pC0.of (by omega) s19 (pC1.of (by omega) c33 (rI rfl rfl))
      · rw [f0.f 62 (by decide)]
        refine pC1.of (by omega) s166 ⟨fun q => absurd ⟨o2, o1.2⟩ (b2i_0.mp q), fun _ => ?_⟩
        refine pC1.of (by omega) (s239 (by omega)) ⟨fun q => absurd o4 (b2i_0.mp q), fun _ => ?_⟩
        refine pC1.of (by omega) (s198 hPC (by omega)) ⟨fun q => absurd (by rw [f0.f 11 (by decide)]; exact o3) (b2i_0.mp q), fun _ => ?_⟩
        refine pC1.of (by omega) (s240 (by omega)) ⟨fun _ => ⟨fun q => ?_, fun _ => rI rfl rfl⟩, fun q => absurd o5 (b2i_0.mp q)⟩
        rw [f0.f 60 (by decide)] at q
        omega
      · unfold rGau at *
        rw [f0.f 60 (by decide), f0.f 61 (by decide), f0.f 62 (by decide), f0.f 11 (by decide), f0.c 80 (by decide), f0.c 81 (by decide), f0.c 82 (by decide), f0.c 83 (by decide), f0.c 84 (by decide), f0.c 85 (by decide), f0.c 86 (by decide), f0.c 87 (by decide), f0.c 165 (by decide), f0.c 166 (by decide), f0.c 167 (by decide), f0.c 168 (by decide), f0.c 169 (by decide), f0.c 170 (by decide), f0.c 171 (by decide)]
        exact hG'
  · have hok' : ∀ P1 : Prop, (0 ≤ a ∧ a ≤ 999) → G 109 62 ≤ a → (0 ≤ c ∧ c ≤ G 109 11 - 1) → (0 ≤ b ∧ b ≤ 39) → (-99 ≤ e ∧ e ≤ 99) → P1 := fun P1 h1 h2 h3 h4 h5 => absurd ⟨h1, h2, h3, h4, h5⟩ hok
    refine ⟨-2, G, G, pRuns.of rfl rfl (v155_0 ?_), pRuns.of rfl rfl (v241_0 ?_), fr.refl _ _ _, fr.refl _ _ _, Or.inl rfl⟩
    · refine pC1.of (by omega) (s124 (by omega)) ⟨fun q => rI rfl rfl, fun z1 => ⟨fun q => rI rfl rfl, fun z2 => ?_⟩⟩
      refine pC1.of (by omega) (s121 hP (by omega)) ⟨fun q => rI rfl rfl, fun z3 => ?_⟩
      refine pC1.of (by omega) (s125 (by omega)) ⟨fun q => rI rfl rfl, fun z4 => ?_⟩
      refine pC1.of (by omega) (s126 (by omega)) ⟨fun z5 => ?_, fun q => rI rfl rfl⟩
      exact hok' _ (b2i_n0.mp z1) (by omega) (b2i_n0.mp z3) (b2i_n0.mp z4) (b2i_n0.mp z5)
    · have no : pEnds pMT 59 241 Yc (fun r' g => r' = some (pI (-2)) ∧ g = G) 39 [pU, pU, pU, pU, pU] [] G := v241_39 ⟨rfl, rfl⟩
      refine pC1.of (by omega) s166 ⟨fun _ => no, fun z1 => ?_⟩
      refine pC1.of (by omega) (s239 (by omega)) ⟨fun _ => no, fun z2 => ?_⟩
      refine pC1.of (by omega) (s198 hP (by omega)) ⟨fun _ => no, fun z3 => ?_⟩
      refine pC1.of (by omega) (s240 (by omega)) ⟨fun z4 => ?_, fun _ => no⟩
      have y1 := b2i_n0.mp z1
      exact hok' _ ⟨by omega, y1.2⟩ y1.1 (b2i_n0.mp z3) (b2i_n0.mp z2) (b2i_n0.mp z4)
/-- how many of the first n are x -/
def vCnt (f : Nat → Int) (x : Int) : Nat → Int
  | 0 => 0
  | n + 1 => vCnt f x n + (if f n = x then 1 else 0)
theorem vCnt_bd (f : Nat → Int) (x : Int) : ∀ n : Nat, 0 ≤ vCnt f x n ∧ vCnt f x n ≤ (n : Int)
  | 0 => by unfold vCnt; omega
  | n + 1 => by have := vCnt_bd f x n; unfold vCnt; split <;> omega
theorem vCnt_c {f g : Nat → Int} {x : Int} : ∀ n : Nat, (∀ k, k < n → f k = g k) → vCnt f x n = vCnt g x n
  | 0, _ => rfl
  | n + 1, h => by unfold vCnt; rw [vCnt_c n (fun k hk => h k (by omega)), h n (by omega)]
theorem l34 {d : Nat} {G : pG} {k : Int} {n : Nat} (hn : G 80 1 = (n : Int)) (h : n ≤ 20) {R : Option pV → pG → Prop} (hR : R (some (pI (vCnt (G 86) k n))) G) : ∀ (j i : Nat), i + j = n → pEnds pMT d 34 Yc R 63 [pR 80, pU, pI k, pU, pI (vCnt (G 86) k i), pI (i : Int)] [] G := by
  intro j
  induction j with
  | zero =>
    intro i hi
    obtain rfl : i = n := by omega
    exact v34_63 ⟨fun _ => hR, fun h => by omega⟩
  | succ j ih =>
    intro i hi
    have nx := ih (i + 1) (by omega)
    have bd := vCnt_bd (G 86) k i
    have e : w32 ((i : Int) + 1) = ((i + 1 : Nat) : Int) := by rw [w32_id (by omega) (by omega)]; rfl
    refine v34_63 ⟨fun h => by omega, fun h => ⟨by omega, by omega, ?_⟩⟩
    rw [e, Int.toNat_natCast]
    refine ⟨fun g => ?_, fun g => ?_⟩
    · rintro _ rfl
      rwa [show vCnt (G 86) k (i + 1) = vCnt (G 86) k i by rw [vCnt, if_neg g]; omega] at nx
    · rw [w32_id (by omega) (by omega)]
      rintro _ rfl _ rfl
      rwa [show vCnt (G 86) k (i + 1) = vCnt (G 86) k i + 1 by rw [vCnt, if_pos g]] at nx
theorem l242 {d : Nat} {G : pG} {k : Int} {n : Nat} (hn : G 109 61 = (n : Int)) (h : n ≤ 20) {R : Option pV → pG → Prop} (hR : R (some (pI (vCnt (G 169) k n))) G) : ∀ (j i : Nat), i + j = n → pEnds pMT d 242 Yc R 105 [pR 109, pU, pI k, pU, pI (vCnt (G 169) k i), pI (i : Int)] [] G := by
  intro j
  induction j with
  | zero =>
    intro i hi
    obtain rfl : i = n := by omega
    exact v242_105 ⟨fun _ => hR, fun h => by omega⟩
  | succ j ih =>
    intro i hi
    have nx := ih (i + 1) (by omega)
    have bd := vCnt_bd (G 169) k i
    have e : w32 ((i : Int) + 1) = ((i + 1 : Nat) : Int) := by rw [w32_id (by omega) (by omega)]; rfl
    refine v242_105 ⟨fun h => by omega, fun h => ⟨by omega, by omega, ?_⟩⟩
    rw [e, Int.toNat_natCast, w32_id (x := vCnt (G 169) k i + 0) (by omega) (by omega), w32_id (x := vCnt (G 169) k i + 1) (by omega) (by omega)]
    refine ⟨fun g => ?_, fun g => ?_⟩
    · rintro _ rfl _ rfl
      rwa [show vCnt (G 169) k (i + 1) = vCnt (G 169) k i + 0 by rw [vCnt, if_neg g]] at nx
    · rintro _ rfl _ rfl
      rwa [show vCnt (G 169) k (i + 1) = vCnt (G 169) k i + 1 by rw [vCnt, if_pos g]] at nx
def vRiC (G : pG) (n : Nat) (a k e : Int) : pG := pset (pset (pset (pset (pset G 80 2 a) 85 n a) 86 n k) 87 n e) 80 1 ((n : Int) + 1)
def vRiR (G : pG) (n : Nat) (a k e : Int) : pG := pset (pset (pset (pset (pset G 109 62 a) 169 n k) 170 n e) 171 n a) 109 61 ((n : Int) + 1)
theorem vRiC_fr (G : pG) (n : Nat) (a b c : Int) : fr [80, 85, 86, 87] [] G (vRiC G n a b c) := (fr.set (by decide) (by decide) _ _ _).trans ((fr.set (by decide) (by decide) _ _ _).trans ((fr.set (by decide) (by decide) _ _ _).trans ((fr.set (by decide) (by decide) _ _ _).trans (fr.set (by decide) (by decide) _ _ _))))
theorem vRiR_fr (G : pG) (n : Nat) (a b c : Int) : fr [169, 170, 171] [61, 62] G (vRiR G n a b c) := (fr.setF (by decide) _ _).trans ((fr.set (by decide) (by decide) _ _ _).trans ((fr.set (by decide) (by decide) _ _ _).trans ((fr.set (by decide) (by decide) _ _ _).trans (fr.setF (by decide) _ _))))
theorem s34 {d : Nat} {G : pG} {a k e : Int} {n : Nat} (hn : G 80 1 = (n : Int)) (h : n ≤ 20) : pRuns pMT d 34 [pR 80, pI a, pI k, pI e] Yc G (some (pI (if n < 20 then vCnt (vRiC G n a k e 86) k (n + 1) else -3))) (if n < 20 then vRiC G n a k e else G) := by
  refine pRuns.of rfl rfl (v34_0 ⟨fun h => ?_, fun h => rI (by rw [if_neg (by omega)]) (by rw [if_neg (by omega)])⟩)
  rw [if_pos (by omega), if_pos (by omega)]
  have e1 : w32 ((n : Int) + 1) = (n : Int) + 1 := w32_id (by omega) (by omega)
  have key := l34 (d := d) (G := vRiC G n a k e) (k := k) (n := n + 1) (by unfold vRiC; rw [pset_eq]; rfl) (by omega) (R := fun r' g => r' = some (pI (vCnt (vRiC G n a k e 86) k (n + 1))) ∧ g = vRiC G n a k e) ⟨rfl, rfl⟩ (n + 1) 0 (by omega)
  rw [show vCnt (vRiC G n a k e 86) k 0 = 0 from rfl] at key
  generalize vCnt (vRiC G n a k e 86) k (n + 1) = V at key ⊢
  unfold vRiC at key ⊢
  simp [pset_at, hn, e1] at key ⊢
  exact ⟨by omega, key⟩
theorem pr_right (a k e : Int) : pPx [80, 85, 86, 87, 92, 169, 170, 171] [61, 62] rGau (fun G G' => G' = G ∨ (rGau G' ∧ G' 92 2 = -1)) 156 242 [pI a, pI k, pI e] := by
  rintro G hG
  have hG' := hG
  obtain ⟨⟨g1, g2, g3⟩, ⟨r1, r2, r3⟩, ⟨g5, g6, g7⟩, g8, g9⟩ := hG
  obtain ⟨n, hn⟩ : ∃ n : Nat, G 109 61 = (n : Int) := ⟨(G 109 61).toNat, by omega⟩
  by_cases hok : (0 ≤ a ∧ a ≤ 999) ∧ G 109 62 ≤ a ∧ (0 ≤ k ∧ k ≤ G 109 60 - 1) ∧ (-99 ≤ e ∧ e ≤ 99)
  · obtain ⟨o1, o2, o3, o5⟩ := hok
    have f0 : fr [92] [] G (pset G 92 2 (-1)) := fr.set (by decide) (by decide) _ _ _
    have e80 : pset G 92 2 (-1) 80 1 = (n : Int) := by rw [f0.c 80 (by decide), r3, hn]
    have c34 := s34 (d := 58) (G := pset G 92 2 (-1)) (a := a) (k := k) (e := e) e80 (by omega)
    by_cases hf : n < 20
    · rw [if_pos hf, if_pos hf] at c34
      have f1 := vRiC_fr (pset G 92 2 (-1)) n a k e
      have F1 : fr [80, 85, 86, 87, 92, 169, 170, 171] [61, 62] G (vRiC (pset G 92 2 (-1)) n a k e) := (f0.mono (by decide) (by decide)).trans (f1.mono (by decide) (by decide))
      generalize hC : vRiC (pset G 92 2 (-1)) n a k e = C at *
      have f01 : fr [80, 85, 86, 87, 92] [] G C := (f0.mono (by decide) (by decide)).trans (f1.mono (by decide) (by decide))
      have f2 := vRiR_fr C n a k e
      have q86 : ∀ j : Nat, C 86 j = if j = n then k else G 86 j := by intro j; rw [← hC]; simp [vRiC, pset_at]
      have q169 : ∀ j : Nat, vRiR C n a k e 169 j = if j = n then k else G 169 j := by intro j; rw [← f01.c 169 (by decide)]; simp [vRiR, pset_at]
      have ec : vCnt (C 86) k (n + 1) = vCnt (vRiR C n a k e 169) k (n + 1) := vCnt_c (n + 1) (fun j hj => by
        rw [q86, q169]
        by_cases ej : j = n
        · rw [if_pos ej, if_pos ej]
        · rw [if_neg ej, if_neg ej, (g9 j (by omega)).2.1])
      rw [ec] at c34
      refine ⟨vCnt (vRiR C n a k e 169) k (n + 1), C, vRiR C n a k e, pRuns.of rfl rfl (v156_0 ?_), pRuns.of rfl rfl (v242_0 ?_), F1, F1.trans (f2.mono (by decide) (by decide)), Or.inr ⟨?_, ?_⟩⟩
      · rw [g3, w32_id (by omega) (by omega)]
        refine pC1.of (by omega) s118 ?_
        rw [b2i_t o3]
        rintro _ rfl
        refine pC1.of (by omega) (s124 (by omega)) ⟨fun q => absurd o1 (b2i_0.mp q), fun _ => ⟨fun q => by omega, fun _ => ⟨fun q => by omega, fun _ => ?_⟩⟩⟩
        refine pC1.of (by omega) (s126 (by omega)) ⟨fun _ => ?_, fun q => absurd o5 (b2i_0.mp q)⟩
        exact pC0.of (by omega) s19 (pC1.of (by omega) c34 (rI rfl rfl))
      · rw [f01.f 62 (by decide)]
        refine pC1.of (by omega) s166 ⟨fun q => absurd ⟨o2, o1.2⟩ (b2i_0.mp q), fun _ => ?_⟩
        rw [f01.f 60 (by decide), w64_id (by omega) (by omega)]
        refine pC1.of (by omega) s166 ⟨fun q => absurd o3 (b2i_0.mp q), fun _ => ?_⟩
        refine pC1.of (by omega) (s240 (by omega)) ⟨fun _ => ?_, fun q => absurd o5 (b2i_0.mp q)⟩
        have e61 : C 109 61 = (n : Int) := by rw [f01.f 61 (by decide), hn]
        have e1 : w32 ((n : Int) + 1) = (n : Int) + 1 := w32_id (by omega) (by omega)
        refine ⟨fun _ => ?_, fun q => by omega⟩
        have key := l242 (d := 59) (G := vRiR C n a k e) (k := k) (n := n + 1) (by unfold vRiR; rw [pset_eq]; rfl) (by omega) (R := fun r' g => r' = some (pI (vCnt (vRiR C n a k e 169) k (n + 1))) ∧ g = vRiR C n a k e) ⟨rfl, rfl⟩ (n + 1) 0 (by omega)
        rw [show vCnt (vRiR C n a k e 169) k 0 = 0 from rfl] at key
        generalize vCnt (vRiR C n a k e 169) k (n + 1) = V at key ⊢
        unfold vRiR at key ⊢
        simp [pset_at, e61, e1] at key ⊢
        exact ⟨by omega, key⟩
      · unfold rGau
        have k61 : vRiR C n a k e 109 61 = (n : Int) + 1 := by unfold vRiR; rw [pset_eq]
        have k62 : vRiR C n a k e 109 62 = a := by simp [vRiR, pset_at]
        rw [k61, k62, f2.f 60 (by decide), f2.f 11 (by decide), f01.f 60 (by decide), f01.f 11 (by decide), f2.c 80 (by decide), f2.c 81 (by decide), f2.c 82 (by decide), f2.c 83 (by decide), f2.c 84 (by decide), f2.c 85 (by decide), f2.c 86 (by decide), f2.c 87 (by decide), f2.c 165 (by decide), f2.c 166 (by decide), f2.c 167 (by decide), f2.c 168 (by decide), f01.c 81 (by decide), f01.c 82 (by decide), f01.c 83 (by decide), f01.c 84 (by decide), f01.c 165 (by decide), f01.c 166 (by decide), f01.c 167 (by decide), f01.c 168 (by decide)]
        have q80 : C 80 0 = G 80 0 ∧ C 80 1 = (n : Int) + 1 ∧ C 80 2 = a := by rw [← hC]; simp [vRiC, pset_at]
        refine ⟨⟨g1, g2, by rw [q80.1, g3]⟩, ⟨by omega, by omega, q80.2.1⟩, ⟨by omega, by omega, q80.2.2⟩, g8, fun j hj => ?_⟩
        have r1 : ∀ j : Nat, C 85 j = if j = n then a else G 85 j := by intro j; rw [← hC]; simp [vRiC, pset_at]
        have r3 : ∀ j : Nat, C 87 j = if j = n then e else G 87 j := by intro j; rw [← hC]; simp [vRiC, pset_at]
        have r5 : ∀ j : Nat, vRiR C n a k e 170 j = if j = n then e else G 170 j := by intro j; rw [← f01.c 170 (by decide)]; simp [vRiR, pset_at]
        have r6 : ∀ j : Nat, vRiR C n a k e 171 j = if j = n then a else G 171 j := by intro j; rw [← f01.c 171 (by decide)]; simp [vRiR, pset_at]
        rw [r1, q86, r3, q169, r5, r6]
        by_cases ek : j = n
        · simp only [if_pos ek]
          exact ⟨trivial, trivial, trivial, by omega, by omega⟩
        · simp only [if_neg ek]
          exact g9 j (by omega)
      · rw [f2.c 92 (by decide), f1.c 92 (by decide), pset_eq]
    · rw [if_neg hf, if_neg hf] at c34
      refine ⟨-3, pset G 92 2 (-1), pset G 92 2 (-1), pRuns.of rfl rfl (v156_0 ?_), pRuns.of rfl rfl (v242_0 ?_), f0.mono (by decide) (by decide), f0.mono (by decide) (by decide), Or.inr ⟨?_, by rw [pset_eq]⟩⟩
      · rw [g3, w32_id (by omega) (by omega)]
        refine pC1.of (by omega) s118 ?_
        rw [b2i_t o3]
        rintro _ rfl
        refine pC1.of (by omega) (s124 (by omega)) ⟨fun q => absurd o1 (b2i_0.mp q), fun _ => ⟨fun q => by omega, fun _ => ⟨fun q => by omega, fun _ => ?_⟩⟩⟩
        refine pC1.of (by omega) (s126 (by omega)) ⟨fun _ => ?_, fun q => absurd o5 (b2i_0.mp q)⟩
        exact pC0.of (by omega) s19 (pC1.of (by omega) c34 (rI rfl rfl))
      · rw [f0.f 62 (by decide)]
        refine pC1.of (by omega) s166 ⟨fun q => absurd ⟨o2, o1.2⟩ (b2i_0.mp q), fun _ => ?_⟩
        rw [f0.f 60 (by decide), w64_id (by omega) (by omega)]
        refine pC1.of (by omega) s166 ⟨fun q => absurd o3 (b2i_0.mp q), fun _ => ?_⟩
        refine pC1.of (by omega) (s240 (by omega)) ⟨fun _ => ⟨fun q => ?_, fun _ => rI rfl rfl⟩, fun q => absurd o5 (b2i_0.mp q)⟩
        rw [f0.f 61 (by decide)] at q
        omega
      · unfold rGau at *
        rw [f0.f 60 (by decide), f0.f 61 (by decide), f0.f 62 (by decide), f0.f 11 (by decide), f0.c 80 (by decide), f0.c 81 (by decide), f0.c 82 (by decide), f0.c 83 (by decide), f0.c 84 (by decide), f0.c 85 (by decide), f0.c 86 (by decide), f0.c 87 (by decide), f0.c 165 (by decide), f0.c 166 (by decide), f0.c 167 (by decide), f0.c 168 (by decide), f0.c 169 (by decide), f0.c 170 (by decide), f0.c 171 (by decide)]
        exact hG'
  · have hok' : ∀ P1 : Prop, (0 ≤ a ∧ a ≤ 999) → G 109 62 ≤ a → (0 ≤ k ∧ k ≤ G 109 60 - 1) → (-99 ≤ e ∧ e ≤ 99) → P1 := fun P1 h1 h2 h3 h5 => absurd ⟨h1, h2, h3, h5⟩ hok
    refine ⟨-2, G, G, pRuns.of rfl rfl (v156_0 ?_), pRuns.of rfl rfl (v242_0 ?_), fr.refl _ _ _, fr.refl _ _ _, Or.inl rfl⟩
    · rw [g3, w32_id (by omega) (by omega)]
      refine pC1.of (by omega) s118 ?_
      intro x4 hx4
      refine pC1.of (by omega) (s124 (by omega)) ⟨fun q => rI rfl rfl, fun z1 => ⟨fun q => rI rfl rfl, fun z2 => ⟨fun q => rI rfl rfl, fun z3 => ?_⟩⟩⟩
      refine pC1.of (by omega) (s126 (by omega)) ⟨fun z5 => ?_, fun q => rI rfl rfl⟩
      rw [hx4] at z3
      exact hok' _ (b2i_n0.mp z1) (by omega) (b2i_n0.mp z3) (b2i_n0.mp z5)
    · refine pC1.of (by omega) s166 ⟨fun _ => rI rfl rfl, fun z1 => ?_⟩
      rw [w64_id (by omega) (by omega)]
      refine pC1.of (by omega) s166 ⟨fun _ => rI rfl rfl, fun z2 => ?_⟩
      refine pC1.of (by omega) (s240 (by omega)) ⟨fun z4 => ?_, fun _ => rI rfl rfl⟩
      have y1 := b2i_n0.mp z1
      exact hok' _ ⟨by omega, y1.2⟩ y1.1 (b2i_n0.mp z2) (b2i_n0.mp z4)
