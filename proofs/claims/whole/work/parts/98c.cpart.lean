/-! the class' part() -/
theorem plF_ap {S : Nat} {t : Nat → Int} {W F : Nat → Nat → Bool} {b : Nat → Int} : plF S t W (fun k j => decide (j ≠ k) && F k j) b ↔ plF S t W F b := by
  unfold plF
  refine ⟨fun h => ⟨h.1, h.2.1, fun k l hk hl hne hf => h.2.2 k l hk hl hne ?_⟩, fun h => ⟨h.1, h.2.1, fun k l hk hl hne hf => h.2.2 k l hk hl hne ?_⟩⟩
  · show (decide (l ≠ k) && F k l) = true
    rw [decide_eq_true (Ne.symm hne), hf]
    rfl
  · have hf : (decide (l ≠ k) && F k l) = true := hf
    rw [Bool.and_eq_true] at hf
    exact hf.2
theorem bst_ap {S : Nat} {t : Nat → Int} {W F : Nat → Nat → Bool} {l : Int} {b : Nat → Int} (h : bst S t W F l b) : bst S t W (fun k j => decide (j ≠ k) && F k j) l b := ⟨plF_ap.mpr h.1, h.2.1, fun b' hb' => h.2.2 b' (plF_ap.mp hb')⟩
/-- the class' part, put where the reference holds its own -/
def gX (G : pG) : pG := fun c j => if c = 109 then (if j = 10 then G 3 1 else if j = 11 then G 3 2 else if j = 12 then G 3 3 else if j = 13 then G 3 0 else G 109 j) else if c = 112 then G 5 j else if c = 113 then G 6 j else if c = 114 then G 7 j else if c = 115 then G 8 j else if c = 116 then G 9 j else if c = 117 then G 10 j else if c = 118 then G 11 j else G c j
theorem bstX {G : pG} {S : Nat} (h : cpt G S) : ∃ (l : Int) (b : Nat → Int), bst S (tnC G) (wtC G) (apC G) l b ∧ 0 ≤ l ∧ l ≤ 140693 := by
  have hsy := fun (k l : Nat) (hk : k < S) (hl : l < S) => (apC_sy h hk hl).2
  obtain ⟨⟨h1, h2⟩, h3, h4, h5, h6⟩ := h
  have hP : rPart (gX G) := by
    show (0 ≤ G 3 1) ∧ (G 3 1 ≤ 6) ∧ (0 ≤ G 3 2) ∧ (G 3 2 ≤ 7) ∧ (0 ≤ G 3 3) ∧ (G 3 3 ≤ 40) ∧ (G 3 1 = G 3 1) ∧ (G 3 2 = G 3 2) ∧ (G 3 3 = G 3 3) ∧ (G 3 0 = G 3 0) ∧ (∀ t : Nat, (t : Int) < G 3 1 → G 5 t = G 5 t ∧ G 6 t = G 6 t ∧ G 7 t = G 7 t ∧ 1 ≤ G 5 t ∧ G 5 t ≤ 50 ∧ 1 ≤ G 6 t ∧ G 6 t ≤ 60 ∧ 0 ≤ G 7 t ∧ G 7 t ≤ 63) ∧ (∀ k : Nat, (k : Int) < G 3 2 → G 8 k = G 8 k ∧ G 9 k = G 9 k ∧ G 10 k = G 10 k ∧ G 11 k = G 11 k ∧ 0 ≤ G 8 k ∧ G 8 k < G 3 1 ∧ 1 ≤ G 9 k ∧ G 9 k ≤ 400 ∧ 0 ≤ G 10 k ∧ G 10 k ≤ 99 ∧ 0 ≤ G 11 k ∧ G 11 k < 2 ^ k)
    refine ⟨h3.1, h3.2, by omega, by omega, h4.1, h4.2, rfl, rfl, rfl, rfl, fun t ht => ?_, fun k hk => ?_⟩
    · obtain ⟨a1, a2, a3, a4, a5, a6, -⟩ := h5 t ht
      exact ⟨rfl, rfl, rfl, a1, a2, a3, a4, a5, a6⟩
    · exact ⟨rfl, rfl, rfl, rfl, h6 k (by omega)⟩
  obtain ⟨G', -, -, hb, b0, b1⟩ := s197 (d := 26) (G := gX G) (S := S) hP h1 hsy (by omega)
  exact ⟨_, _, bst_ap hb, b0, b1⟩
/-- the draft, as the class' part holds it -/
def qcN (D : pG) (n : Int) (G : pG) : Prop := (G 3 0 = n ∧ G 3 1 = D 0 0 ∧ G 3 2 = D 0 1 ∧ G 3 3 = D 0 2) ∧ (∀ t : Nat, (t : Int) < D 0 0 → G 5 t = D 2 t ∧ G 6 t = D 3 t ∧ G 7 t = D 4 t) ∧ ∀ k : Nat, (k : Int) < D 0 1 → G 8 k = D 5 k ∧ G 9 k = D 6 k ∧ G 10 k = D 7 k ∧ G 11 k = D 8 k
theorem qcN_c {D : pG} {n : Int} {G G' : pG} (h : qcN D n G) (hc : ∀ c ∈ cL, G' c = G c) : qcN D n G' := by
  unfold qcN at *
  rw [hc 3 (by decide), hc 5 (by decide), hc 6 (by decide), hc 7 (by decide), hc 8 (by decide), hc 9 (by decide), hc 10 (by decide), hc 11 (by decide)]
  exact h
theorem qcN_cpt {u : Nat → Int} {L : Nat} {D : pG} {n : Int} {G : pG} (h : qcN D n G) (hb : bD u L D) : cpt G (D 0 1).toNat := by
  obtain ⟨⟨a0, a1, a2, a3⟩, h1, h2⟩ := h
  obtain ⟨b1, b2, b3, -, b4, b5⟩ := hb
  refine ⟨⟨by omega, by omega⟩, by omega, by omega, fun t ht => ?_, fun k hk => ?_⟩
  · rw [a1] at ht
    obtain ⟨e1, e2, e3⟩ := h1 t ht
    obtain ⟨-, c1, c2, c3, c4, c5, c6, -, c7⟩ := b4 t ht
    rw [e1, e2, e3]
    refine ⟨c1, c2, c3, c4, c5, c6, fun t' ht' => ?_⟩
    rw [a1] at ht'
    rw [(h1 t' ht').2.2]
    exact c7 t' ht'
  · obtain ⟨e1, e2, e3, e4⟩ := h2 k (by omega)
    rw [e1, e2, e3, e4, a1]
    exact b5 k (by omega)
def kW : List Nat := [1, 3, 4, 5, 6, 7, 8, 9, 10, 11, 12, 13, 14, 15, 16, 17, 18, 19, 20, 21, 22, 23, 24, 25, 26, 27, 28, 29, 31, 32, 33, 34, 35, 36, 37, 38, 40, 41, 42, 49, 52, 53, 54, 55, 56, 57, 80, 92]
/-- all that the class has of a new part -/
def kN (S : Nat) (g : pG) : Prop := plC g S ∧ (∀ k : Nat, k < S → g 24 k = tnC g k ∧ g 26 k = vBits (apC g k) S) ∧ (∀ (b : Nat → Int) (l : Int), bst S (tnC g) (wtC g) (apC g) l b → g 22 2 = l ∧ eqS S (g 23) b) ∧ (∀ k : Nat, k < S → g 40 k = mkC g (g 23 k) ∧ g 41 k = mkC g (g 23 k + g 9 k * g 5 (g 8 k).toNat) ∧ g 42 k = mkC g (g 23 k + tnC g k)) ∧ (∀ t : Nat, t < 6 → g 49 t = -1) ∧ (∀ t k : Nat, t < 6 → k < 4 → g (52 + t) k = -2) ∧ (g 80 0 = 0 ∧ g 80 1 = 0 ∧ g 80 2 = 0) ∧ g 92 2 = -1
def kPost (u : Nat → Int) (L : Nat) (G : pG) (q : pRs) (v : Int) (g : pG) : Prop := match q with
    | Sum.inl f => v = -1 ∧ fr cW [] G g ∧ g 12 3 = f.1 ∧ g 12 4 = f.2
    | Sum.inr (n, D) => v = (n : Int) ∧ g 12 3 = 0 ∧ g 12 4 = -1 ∧ qcN D (n : Int) g ∧ bD u L D ∧ kN (D 0 1).toNat g
theorem z32 {d : Nat} {G : pG} : pRuns pMT d 32 [pR 80] Yc G none (pset (pset (pset G 80 0 0) 80 1 0) 80 2 0) := pRuns.of rfl rfl (v32_0 ⟨rfl, rfl⟩)
theorem z130 {d : Nat} {u : Nat → Int} {L : Nat} {G : pG} (h : tpC G u L) (hd : 16 ≤ d) : ∃ v G', pRuns pMT d 130 [pR 0] Yc G (some (pI v)) G' ∧ (fr kW [] G G' ∧ G' 1 2 = 0 ∧ kPost u L G (prs u L 801 0 0 dNil) v G') := by
  obtain ⟨Q, E⟩ : ∃ Q, Q = prs u L 801 0 0 dNil := ⟨_, rfl⟩
  rw [← E]
  refine pX1 rfl rfl (v130_0 ?_)
  refine pC1.ox (by omega) (x69 h (d := d - 1) (by omega)) (fun v A hA => ?_)
  rw [← E] at hA
  obtain ⟨fA, tA⟩ := hA
  rintro _ rfl
  have f1 : fr [1] [] A (pset A 1 2 0) := fr.set (by decide) (by decide) _ _ _
  obtain ⟨B, hB⟩ : ∃ B, B = pset A 1 2 0 := ⟨_, rfl⟩
  have B12 : B 1 2 = 0 := by rw [hB, pset_eq]
  rw [← hB] at f1 ⊢
  have fB : fr cW [] G B := fA.trans (f1.mono (by decide) (by decide))
  match Q, tA with
  | Sum.inl f, tA =>
    obtain ⟨t1, t2, t3⟩ := tA
    refine ⟨fun z => absurd t1 z, fun _ => ⟨-1, rfl, fB.mono (by decide) (by decide), B12, rfl, fB, ?_, ?_⟩⟩
    · rw [f1.c 12 (by decide)]; exact t2
    · rw [f1.c 12 (by decide)]; exact t3
  | Sum.inr (n, D), tA =>
    obtain ⟨t1, t2, t3, t4, t5, t6⟩ := tA
    refine ⟨fun _ => ?_, fun z => by omega⟩
    refine pC0.ox (by omega) (z58 (d := d - 1) (G := B)) (fun C hC => ?_)
    obtain ⟨fC, c1, c2, c3⟩ := hC
    obtain ⟨p1, p2, p3, p4, p5, p6⟩ := t5
    have b6 := t6.1
    have b7 := t6.2.1
    have nC : qcN D (n : Int) C := by
      have e13 : B 13 = A 13 := f1.c 13 (by decide)
      refine ⟨⟨?_, ?_, ?_, ?_⟩, fun t ht => ?_, fun k hk => ?_⟩
      · rw [c1.1, e13]; exact t4
      · rw [c1.2.1, e13]; exact p1
      · rw [c1.2.2.1, e13]; exact p2
      · rw [c1.2.2.2, e13]; exact p3
      · obtain ⟨x1, x2, x3⟩ := c2 t (by omega)
        rw [x1, x2, x3, f1.c 15 (by decide), f1.c 16 (by decide), f1.c 17 (by decide)]
        exact (p5 t ht).2
      · obtain ⟨x1, x2, x3, x4⟩ := c3 k (by omega)
        rw [x1, x2, x3, x4, f1.c 18 (by decide), f1.c 19 (by decide), f1.c 20 (by decide), f1.c 21 (by decide)]
        exact p6 k hk
    have cC := qcN_cpt nC t6
    obtain ⟨S, hS⟩ : ∃ S, S = (D 0 1).toNat := ⟨_, rfl⟩
    rw [← hS] at cC
    obtain ⟨l, b, hb, l0, l1⟩ := bstX cC
    refine pC0.ox (by omega) (z83 (d := d - 1) cC (by omega)) (fun M hM => ?_)
    obtain ⟨fM, m1, m2⟩ := hM
    obtain ⟨g1, g2⟩ := m2 b l hb
    have keep : ∀ {W : List Nat} {g : pG}, fr W [] C g → (∀ c ∈ cL, c ∉ W ∧ c ≠ 109) → cpt g S ∧ tnC g = tnC C ∧ apC g = apC C ∧ wtC g = wtC C ∧ qcN D (n : Int) g := fun {W} {g} f hc => by
      have hh : ∀ c ∈ cL, g c = C c := fun c h => f.1 c (hc c h).1 (hc c h).2
      obtain ⟨a, b, -, e, w⟩ := cpt_c (S := S) hh
      exact ⟨a cC, b, e, w, qcN_c nC hh⟩
    obtain ⟨cM, eM1, -, -, -⟩ := keep fM (by decide)
    have pM : plC M S := by
      refine ⟨by omega, by omega, fun k hk => ?_⟩
      rw [eM1, g2 k hk, g1]
      refine ⟨hb.1.1 k hk, ?_⟩
      rw [hb.2.1]
      exact (plL_ge S (tnC C) b).2 k hk
    refine pC0.ox (by omega) (z11 (d := d - 1) cM pM (by omega)) (fun N hN => ?_)
    obtain ⟨fN, n1⟩ := hN
    refine pC0.ox (by omega) (z43 (d := d - 1) (G := N) (by omega)) (fun O hO => ?_)
    obtain ⟨fO, o1, o2⟩ := hO
    refine pC0.of (by omega) (z32 (d := d - 1) (G := O)) ?_
    obtain ⟨P, hP⟩ : ∃ P, P = pset (pset (pset O 80 0 0) 80 1 0) 80 2 0 := ⟨_, rfl⟩
    rw [← hP]
    have fP : fr [80] [] O P := by rw [hP]; exact (fr.set (by decide) (by decide) _ _ _).trans ((fr.set (by decide) (by decide) _ _ _).trans (fr.set (by decide) (by decide) _ _ _))
    refine pC0.of (by omega) (s19 (d := d - 1) (G := P)) ?_
    obtain ⟨T, hT⟩ : ∃ T, T = pset P 92 2 (-1) := ⟨_, rfl⟩
    rw [← hT]
    have fT : fr [92] [] P T := by rw [hT]; exact fr.set (by decide) (by decide) _ _ _
    have fOT : fr [80, 92] [] O T := (fP.mono (by decide) (by decide)).trans (fT.mono (by decide) (by decide))
    have fNT : fr [49, 52, 53, 54, 55, 56, 57, 80, 92] [] N T := (fO.mono (by decide) (by decide)).trans (fOT.mono (by decide) (by decide))
    have fMT : fr [40, 41, 42, 49, 52, 53, 54, 55, 56, 57, 80, 92] [] M T := (fN.mono (by decide) (by decide)).trans (fNT.mono (by decide) (by decide))
    have fCT : fr [22, 23, 24, 25, 26, 27, 28, 29, 31, 32, 33, 34, 35, 36, 37, 38, 40, 41, 42, 49, 52, 53, 54, 55, 56, 57, 80, 92] [] C T := (fM.mono (by decide) (by decide)).trans (fMT.mono (by decide) (by decide))
    obtain ⟨cT, eT1, eT2, eT3, nT⟩ := keep fCT (by decide)
    have fBT : fr [3, 4, 5, 6, 7, 8, 9, 10, 11, 22, 23, 24, 25, 26, 27, 28, 29, 31, 32, 33, 34, 35, 36, 37, 38, 40, 41, 42, 49, 52, 53, 54, 55, 56, 57, 80, 92] [] B T := (fC.mono (by decide) (by decide)).trans (fCT.mono (by decide) (by decide))
    have mk : mkC T = mkC M := by
      funext x
      unfold mkC
      rw [fMT.c 22 (by decide), fMT.c 3 (by decide)]
    refine ⟨_, rfl, (fB.mono (by decide) (by decide)).trans (fBT.mono (by decide) (by decide)), by rw [fBT.c 1 (by decide)]; exact B12, ?_⟩
    refine ⟨nT.1.1, ?_, ?_, nT, t6, ?_⟩
    · rw [fBT.c 12 (by decide), f1.c 12 (by decide)]; exact t2
    · rw [fBT.c 12 (by decide), f1.c 12 (by decide)]; exact t3
    · rw [← hS]
      refine ⟨?_, fun k hk => ?_, fun b' l' hb' => ?_, fun k hk => ?_, fun t ht => ?_, fun t k ht hk => ?_, ?_, ?_⟩
      · unfold plC at *
        rw [eT1, fMT.c 22 (by decide), fMT.c 23 (by decide), ← eM1]
        exact pM
      · rw [eT1, eT2, fMT.c 24 (by decide), fMT.c 26 (by decide)]
        exact m1 k hk
      · rw [eT1, eT2, eT3] at hb'
        rw [fMT.c 22 (by decide), fMT.c 23 (by decide)]
        exact m2 b' l' hb'
      · rw [mk, eT1, ← eM1, fNT.c 40 (by decide), fNT.c 41 (by decide), fNT.c 42 (by decide), fMT.c 23 (by decide), fMT.c 9 (by decide), fMT.c 5 (by decide), fMT.c 8 (by decide)]
        exact n1 k hk
      · rw [fOT.c 49 (by decide)]
        exact o1 t ht
      · rw [fOT.c (52 + t) ⟨by simp; omega, by omega⟩]
        exact o2 t k ht hk
      · rw [fT.c 80 (by decide), hP]
        simp [pset_at]
      · rw [hT, pset_eq]
