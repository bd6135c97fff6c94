/-! the reference's part() -/
theorem plF_cg {S : Nat} {t t' : Nat → Int} {W W' F F' : Nat → Nat → Bool} {b : Nat → Int} (ht : ∀ k, k < S → t k = t' k) (hW : ∀ k l, k < S → l < S → W k l = W' k l) (hF : ∀ k l, k < S → l < S → F k l = F' k l) (h : plF S t W F b) : plF S t' W' F' b :=
  ⟨h.1, fun k l hk hl hw => by rw [← ht k hk]; exact h.2.1 k l hk hl (by rw [hW l k hl hk]; exact hw), fun k l hk hl hne hf => by rw [← ht k hk, ← ht l hl]; exact h.2.2 k l hk hl hne (by rw [hF k l hk hl]; exact hf)⟩
theorem plL_cg {S : Nat} {t t' : Nat → Int} (ht : ∀ k, k < S → t k = t' k) (b : Nat → Int) : plL S t b = plL S t' b := mxN_c S (fun v hv => by show b v + t v = b v + t' v; rw [ht v hv])
theorem bst_cg {S : Nat} {t t' : Nat → Int} {W W' F F' : Nat → Nat → Bool} {l : Int} {b : Nat → Int} (ht : ∀ k, k < S → t k = t' k) (hW : ∀ k l, k < S → l < S → W k l = W' k l) (hF : ∀ k l, k < S → l < S → F k l = F' k l) (h : bst S t W F l b) : bst S t' W' F' l b :=
  ⟨plF_cg ht hW hF h.1, by rw [← plL_cg ht b]; exact h.2.1, fun c hc => by rw [← plL_cg ht c]; exact h.2.2 c (plF_cg (fun k hk => (ht k hk).symm) (fun k l hk hl => (hW k l hk hl).symm) (fun k l hk hl => (hF k l hk hl).symm) hc)⟩
theorem pl_cc {G G' : pG} (h : ∀ c ∈ [112, 114, 115, 116, 117, 118], G' c = G c) : vTn G' = vTn G ∧ vWt G' = vWt G ∧ vFi G' = vFi G := by
  refine ⟨?_, ?_, ?_⟩
  · funext k; unfold vTn; rw [h 116 (by decide), h 112 (by decide), h 115 (by decide), h 117 (by decide)]
  · funext l k; unfold vWt; rw [h 118 (by decide)]
  · funext k l; unfold vFi; rw [h 114 (by decide), h 115 (by decide)]
/-- the draft, as the reference's part holds it -/
def qrN (D : pG) (n : Int) (G : pG) : Prop := (G 109 13 = n ∧ G 109 10 = D 0 0 ∧ G 109 11 = D 0 1 ∧ G 109 12 = D 0 2) ∧ (∀ t : Nat, (t : Int) < D 0 0 → G 112 t = D 2 t ∧ G 113 t = D 3 t ∧ G 114 t = D 4 t) ∧ ∀ k : Nat, (k : Int) < D 0 1 → G 115 k = D 5 k ∧ G 116 k = D 6 k ∧ G 117 k = D 7 k ∧ G 118 k = D 8 k
theorem rPart_of {u : Nat → Int} {L : Nat} {D G : pG} {n : Int} (hb : bD u L D) (hc : qcN D n G) (hr : qrN D n G) : rPart G := by
  obtain ⟨⟨c0, c1, c2, c3⟩, c4, c5⟩ := hc
  obtain ⟨⟨r0, r1, r2, r3⟩, r4, r5⟩ := hr
  obtain ⟨b1, b2, b3, -, b4, b5⟩ := hb
  refine ⟨by omega, by omega, by omega, by omega, by omega, by omega, by omega, by omega, by omega, by omega, fun t ht => ?_, fun k hk => ?_⟩
  · rw [r1] at ht
    obtain ⟨x1, x2, x3⟩ := c4 t ht
    obtain ⟨y1, y2, y3⟩ := r4 t ht
    obtain ⟨-, z1, z2, z3, z4, z5, z6, -⟩ := b4 t ht
    rw [x1, x2, x3, y1, y2, y3]
    exact ⟨rfl, rfl, rfl, z1, z2, z3, z4, z5, z6⟩
  · rw [r2] at hk
    obtain ⟨x1, x2, x3, x4⟩ := c5 k hk
    obtain ⟨y1, y2, y3, y4⟩ := r5 k hk
    rw [x1, x2, x3, x4, y1, y2, y3, y4, r1]
    exact ⟨rfl, rfl, rfl, rfl, b5 k hk⟩
theorem vFi_sy {u : Nat → Int} {L : Nat} {D G : pG} {n : Int} (hb : bD u L D) (hr : qrN D n G) {k l : Nat} (hk : (k : Int) < D 0 1) (hl : (l : Int) < D 0 1) : vFi G k l = vFi G l k := by
  obtain ⟨-, r4, r5⟩ := hr
  obtain ⟨-, -, -, -, b4, b5⟩ := hb
  obtain ⟨e1, -⟩ := r5 k hk
  obtain ⟨e2, -⟩ := r5 l hl
  obtain ⟨a1, a2, -⟩ := b5 k hk
  obtain ⟨a3, a4, -⟩ := b5 l hl
  have hkt : (((D 5 k).toNat : Nat) : Int) < D 0 0 := by omega
  have hlt : (((D 5 l).toNat : Nat) : Int) < D 0 0 := by omega
  have s := (b4 _ hkt).2.2.2.2.2.2.2.2 _ hlt
  unfold vFi
  rw [e1, e2, (r4 _ hkt).2.2, (r4 _ hlt).2.2, s]
  by_cases e : D 5 k = D 5 l
  · rw [decide_eq_true e, decide_eq_true e.symm]
  · rw [decide_eq_false e, decide_eq_false (Ne.symm e)]
def jW9 : List Nat := [111, 112, 113, 114, 115, 116, 117, 118, 119, 120, 121, 122, 123, 124, 125, 127, 128, 129, 130, 131, 132, 133, 134, 135, 136, 137, 138, 139, 140, 141, 142, 143, 144, 145, 146, 147, 148, 149, 150, 151, 152, 157]
def jF9 : List Nat := [1, 2, 3, 4, 5, 6, 7, 8, 9, 10, 11, 12, 13, 14, 15, 16, 17, 18, 34, 60, 61, 62]
def jF0 : List Nat := [1, 2, 3, 4, 5, 6, 7, 8, 9, 14, 15, 16, 17, 18]
def jN9 (S : Nat) (g : pG) : Prop := (∀ t : Nat, (t : Int) < g 109 10 → g 157 t = -1) ∧ bst S (vTn g) (vWt g) (vFi g) (g 109 34) (g 152) ∧ (0 ≤ g 109 34 ∧ g 109 34 ≤ 140693) ∧ g 109 60 = 0 ∧ g 109 61 = 0 ∧ g 109 62 = 0
def jPost (u : Nat → Int) (L : Nat) (G : pG) (q : pRs) (v : Int) (g : pG) : Prop := match q with
    | Sum.inl f => v = -1 ∧ fr rW9 jF0 G g ∧ g 109 8 = f.1 ∧ g 109 9 = f.2
    | Sum.inr (n, D) => v = (n : Int) ∧ g 109 8 = 0 ∧ g 109 9 = -1 ∧ qcN D (n : Int) g ∧ qrN D (n : Int) g ∧ bD u L D ∧ jN9 (D 0 1).toNat g
theorem y189 {d : Nat} {u : Nat → Int} {L : Nat} {G : pG} (h1 : G 109 1 = (L : Int)) (hL : L ≤ 800) (hu : (∀ i : Nat, i < 800 → pand (G 110 i) 255 = u i ∧ (G 110 i = 32 ↔ u i = 32) ∧ (G 110 i = 10 ↔ u i = 10)) ∧ ∀ i : Nat, i < 800 → 0 ≤ u i ∧ u i ≤ 255) (hB : ∀ i : Nat, i < 800 → -128 ≤ G 110 i ∧ G 110 i ≤ 127) (hq : ∀ (n : Nat) (D : pG), prs u L 801 0 0 dNil = Sum.inr (n, D) → qcN D (n : Int) G) (hd : 28 ≤ d) : ∃ v G', pRuns pMT d 189 [pR 109] Yc G (some (pI v)) G' ∧ (fr jW9 jF9 G G' ∧ G' 109 1 = 0 ∧ jPost u L G (prs u L 801 0 0 dNil) v G') := by
  obtain ⟨Q, E⟩ : ∃ Q, Q = prs u L 801 0 0 dNil := ⟨_, rfl⟩
  rw [← E] at hq ⊢
  refine pX1 rfl rfl (v189_0 ?_)
  obtain ⟨A, hA⟩ : ∃ A, A = pset (pset G 109 8 0) 109 9 (-1) := ⟨_, rfl⟩
  rw [← hA]
  have fA : fr [] [8, 9] G A := by rw [hA]; exact (fr.setF (by decide) _ _).trans (fr.setF (by decide) _ _)
  have A8 : A 109 8 = 0 := by rw [hA]; simp [pset_at]
  have A9 : A 109 9 = -1 := by rw [hA]; simp [pset_at]
  refine pC0.ox (by omega) (s175 (d := d - 1) (G := A) (u := u) (L := L) (by rw [fA.f 1 (by decide)]; exact h1) hL (by rw [fA.c 110 (by decide)]; exact hu) (by omega)) (fun B hBB => ?_)
  obtain ⟨fB, B1, tB, B4, B3, B5, B6⟩ := hBB
  refine pC1.ox (by omega) (y184 (d := d - 1) tB (by rw [fB.c 110 (by decide), fA.c 110 (by decide)]; exact hB) B4 B3 B5 B6 (by rw [fB.f 8 (by decide)]; exact A8) (by rw [fB.f 9 (by decide)]; exact A9) (by omega)) (fun v C hC => ?_)
  rw [← E] at hC
  obtain ⟨fC, tC⟩ := hC
  have fGC : fr rW9 jF0 G C := ((fA.mono (by decide) (by decide)).trans (fB.mono (by decide) (by decide))).trans (fC.mono (by decide) (by decide))
  have C1 : C 109 1 = 0 := by rw [fC.f 1 (by decide)]; exact B1
  match Q, hq, tC with
  | Sum.inl f, hq, tC =>
    obtain ⟨t1, t2, t3⟩ := tC
    exact ⟨fun z => absurd t1 z, fun _ => ⟨-1, rfl, fGC.mono (by decide) (by decide), C1, rfl, fGC, t2, t3⟩⟩
  | Sum.inr (n, D), hq, tC =>
    obtain ⟨t1, t2, t3, t4, t5, t6⟩ := tC
    have nG := hq n D rfl
    obtain ⟨p1, p2, p3, -, p5, p6⟩ := t5
    have b6 := t6.1
    have b7 := t6.2.1
    refine ⟨fun _ => ?_, fun z => by omega⟩
    obtain ⟨K, hK⟩ : ∃ K, K = pset (pset (pset (pset C 109 10 (C 109 14)) 109 11 ((pset C 109 10 (C 109 14)) 109 15)) 109 12 ((pset (pset C 109 10 (C 109 14)) 109 11 ((pset C 109 10 (C 109 14)) 109 15)) 109 16)) 109 13 ((pset (pset (pset C 109 10 (C 109 14)) 109 11 ((pset C 109 10 (C 109 14)) 109 15)) 109 12 ((pset (pset C 109 10 (C 109 14)) 109 11 ((pset C 109 10 (C 109 14)) 109 15)) 109 16)) 109 17) := ⟨_, rfl⟩
    rw [← hK]
    have fK : fr [] [10, 11, 12, 13] C K := by rw [hK]; exact (fr.setF (by decide) _ _).trans ((fr.setF (by decide) _ _).trans ((fr.setF (by decide) _ _).trans (fr.setF (by decide) _ _)))
    have K10 : K 109 10 = D 0 0 := by rw [hK, ← p1]; simp [pset_at]
    have K11 : K 109 11 = D 0 1 := by rw [hK, ← p2]; simp [pset_at]
    have K12 : K 109 12 = D 0 2 := by rw [hK, ← p3]; simp [pset_at]
    have K13 : K 109 13 = (n : Int) := by rw [hK, ← t4]; simp [pset_at]
    have fGK : fr rW9 [1, 2, 3, 4, 5, 6, 7, 8, 9, 10, 11, 12, 13, 14, 15, 16, 17, 18] G K := (fGC.mono (by decide) (by decide)).trans (fK.mono (by decide) (by decide))
    obtain ⟨S, hS⟩ : ∃ S, S = (D 0 1).toNat := ⟨_, rfl⟩
    obtain ⟨N, hN⟩ : ∃ N, N = (D 0 0).toNat := ⟨_, rfl⟩
    obtain ⟨R, hR⟩ : ∃ R : Option pV → pG → Prop, R = (fun r g => ∃ v : Int, r = some (pI v) ∧ (fr jW9 jF9 G g ∧ g 109 1 = 0 ∧ jPost u L G (Sum.inr (n, D)) v g)) := ⟨_, rfl⟩
    rw [← hR]
    have H2 : ∀ (m k : Nat) (g : pG), k + m = S → fr [112, 113, 114, 115, 116, 117, 118, 157] [] K g → (∀ t : Nat, t < N → g 112 t = D 2 t ∧ g 113 t = D 3 t ∧ g 114 t = D 4 t ∧ g 157 t = -1) → (∀ j : Nat, j < k → g 115 j = D 5 j ∧ g 116 j = D 6 j ∧ g 117 j = D 7 j ∧ g 118 j = D 8 j) → pEnds pMT d 189 Yc R 116 [pR 109, pI (k : Int)] [] g := by
      intro m
      induction m with
      | zero =>
        intro k g hk f hv hw
        obtain rfl : k = S := by omega
        have nc : qcN D (n : Int) g := qcN_c nG (fun c hc => by rw [f.1 c (by revert hc; revert c; decide) (by revert hc; revert c; decide), fGK.1 c (by revert hc; revert c; decide) (by revert hc; revert c; decide)])
        have nr : qrN D (n : Int) g := ⟨⟨by rw [f.f 13 (by decide)]; exact K13, by rw [f.f 10 (by decide)]; exact K10, by rw [f.f 11 (by decide)]; exact K11, by rw [f.f 12 (by decide)]; exact K12⟩, fun t ht => by have q := hv t (by omega); exact ⟨q.1, q.2.1, q.2.2.1⟩, fun j hj => hw j (by omega)⟩
        have hP := rPart_of t6 nc nr
        refine v189_116 ⟨fun _ => ?_, fun z => by rw [f.f 11 (by decide), K11] at z; omega⟩
        refine pC0.ox (by omega) (s197 (d := d - 1) (G := g) (S := k) hP (by rw [nr.1.2.2.1]; omega) (fun i j hi hj => vFi_sy t6 nr (by omega) (by omega)) (by omega)) (fun P hPP => ?_)
        obtain ⟨fP, bP, l0, l1⟩ := hPP
        obtain ⟨T, hT⟩ : ∃ T, T = pset (pset (pset P 109 60 0) 109 61 0) 109 62 0 := ⟨_, rfl⟩
        rw [← hT]
        have fT : fr [] [60, 61, 62] P T := by rw [hT]; exact (fr.setF (by decide) _ _).trans ((fr.setF (by decide) _ _).trans (fr.setF (by decide) _ _))
        have fgT : fr W96 [34, 60, 61, 62] g T := (fP.mono (by decide) (by decide)).trans (fT.mono (by decide) (by decide))
        have fKT : fr jW9 [34, 60, 61, 62] K T := (f.mono (by decide) (by decide)).trans (fgT.mono (by decide) (by decide))
        obtain ⟨e1, e2, e3⟩ := pl_cc (G := g) (G' := T) (fun c hc => fgT.1 c (by revert hc; revert c; decide) (by revert hc; revert c; decide))
        rw [hR]
        refine ⟨_, rfl, (fGK.mono (by decide) (by decide)).trans (fKT.mono (by decide) (by decide)), ?_, ?_, ?_, ?_, ?_, ?_, t6, ?_⟩
        · rw [fKT.f 1 (by decide), fK.f 1 (by decide)]; exact C1
        · rw [fKT.f 13 (by decide)]; exact K13
        · rw [fKT.f 8 (by decide), fK.f 8 (by decide)]; exact t2
        · rw [fKT.f 9 (by decide), fK.f 9 (by decide)]; exact t3
        · exact qcN_c nc (fun c hc => fgT.1 c (by revert hc; revert c; decide) (by revert hc; revert c; decide))
        · unfold qrN at *
          rw [fgT.f 13 (by decide), fgT.f 10 (by decide), fgT.f 11 (by decide), fgT.f 12 (by decide), fgT.c 112 (by decide), fgT.c 113 (by decide), fgT.c 114 (by decide), fgT.c 115 (by decide), fgT.c 116 (by decide), fgT.c 117 (by decide), fgT.c 118 (by decide)]
          exact nr
        · rw [← hS]
          refine ⟨fun t ht => ?_, ?_, ?_, ?_⟩
          · rw [fgT.f 10 (by decide), nr.1.2.1] at ht
            rw [fgT.c 157 (by decide)]
            exact (hv t (by omega)).2.2.2
          · rw [e1, e2, e3, fT.f 34 (by decide), fT.c 152 (by decide)]
            exact bP
          · rw [fT.f 34 (by decide)]
            exact ⟨l0, l1⟩
          · rw [hT]
            simp [pset_at]
      | succ m ih =>
        intro k g hk f hv hw
        have g11 : g 109 11 = D 0 1 := by rw [f.f 11 (by decide)]; exact K11
        refine v189_116 ⟨fun z => by omega, fun _ => ⟨by omega, by omega, by omega, by omega, by omega, by omega, by omega, by omega, by omega, by omega, by omega, by omega, by omega, by omega, by omega, by omega, ?_⟩⟩
        rw [Int.toNat_natCast, w32_id (by omega) (by omega)]
        rintro _ rfl
        obtain ⟨w1, w2, w3, w4⟩ := p6 k (by omega)
        have c1 : g 122 = C 122 := by rw [f.c 122 (by decide), fK.c 122 (by decide)]
        have c2 : g 123 = C 123 := by rw [f.c 123 (by decide), fK.c 123 (by decide)]
        have c3 : g 124 = C 124 := by rw [f.c 124 (by decide), fK.c 124 (by decide)]
        have c4 : g 125 = C 125 := by rw [f.c 125 (by decide), fK.c 125 (by decide)]
        refine ih (k + 1) _ (by omega) (f.trans ((fr.set (by decide) (by decide) _ _ _).trans ((fr.set (by decide) (by decide) _ _ _).trans ((fr.set (by decide) (by decide) _ _ _).trans (fr.set (by decide) (by decide) _ _ _))))) (fun t ht => ?_) (fun j hj => ?_)
        · simp [pset_at]
          exact hv t ht
        · simp [pset_at]
          rw [c1, c2, c3, c4, w1, w2, w3, w4]
          by_cases e : j = k
          · subst e
            simp
          · simp [e]
            exact hw j (by omega)
    have H1 : ∀ (m t : Nat) (g : pG), t + m = N → fr [112, 113, 114, 157] [] K g → (∀ j : Nat, j < t → g 112 j = D 2 j ∧ g 113 j = D 3 j ∧ g 114 j = D 4 j ∧ g 157 j = -1) → pEnds pMT d 189 Yc R 57 [pR 109, pI (t : Int)] [] g := by
      intro m
      induction m with
      | zero =>
        intro t g ht f hv
        obtain rfl : t = N := by omega
        refine v189_57 ⟨fun _ => ?_, fun z => by rw [f.f 10 (by decide), K10] at z; omega⟩
        rintro _ rfl
        exact H2 S 0 g (by omega) (f.mono (by decide) (by decide)) hv (fun j hj => by omega)
      | succ m ih =>
        intro t g ht f hv
        have g10 : g 109 10 = D 0 0 := by rw [f.f 10 (by decide)]; exact K10
        refine v189_57 ⟨fun z => by omega, fun _ => ⟨by omega, by omega, by omega, by omega, by omega, by omega, by omega, by omega, by omega, by omega, by omega, by omega, by omega, by omega, ?_⟩⟩
        rw [Int.toNat_natCast, w32_id (by omega) (by omega)]
        rintro _ rfl
        obtain ⟨-, w1, w2, w3⟩ := p5 t (by omega)
        have c1 : g 119 = C 119 := by rw [f.c 119 (by decide), fK.c 119 (by decide)]
        have c2 : g 120 = C 120 := by rw [f.c 120 (by decide), fK.c 120 (by decide)]
        have c3 : g 121 = C 121 := by rw [f.c 121 (by decide), fK.c 121 (by decide)]
        refine ih (t + 1) _ (by omega) (f.trans ((fr.set (by decide) (by decide) _ _ _).trans ((fr.set (by decide) (by decide) _ _ _).trans ((fr.set (by decide) (by decide) _ _ _).trans (fr.set (by decide) (by decide) _ _ _))))) (fun j hj => ?_)
        simp [pset_at]
        rw [c1, c2, c3, w1, w2, w3]
        by_cases e : j = t
        · subst e
          simp
        · simp [e]
          exact hv j (by omega)
    rintro _ rfl
    exact H1 N 0 K (by omega) (fr.refl _ _ _) (fun j hj => by omega)
