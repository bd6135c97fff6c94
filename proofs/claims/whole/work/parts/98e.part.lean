/-! part(), both ways -/
theorem vBits_cg {P Q : Nat → Bool} : ∀ n : Nat, (∀ j, j < n → P j = Q j) → vBits P n = vBits Q n
  | 0, _ => rfl
  | n + 1, h => by rw [vBits, vBits, vBits_cg n (fun j hj => h j (by omega)), h n (by omega)]
theorem cr_eq {G : pG} {S : Nat} (hP : rPart G) (hS : G 109 11 = (S : Int)) : (∀ k, k < S → tnC G k = vTn G k ∧ G 9 k * G 5 (G 8 k).toNat = G 116 k * G 112 (G 115 k).toNat) ∧ (∀ k l, k < S → l < S → wtC G k l = vWt G k l) ∧ ∀ k l, k < S → l < S → fiC G k l = vFi G k l := by
  refine ⟨fun k hk => ?_, fun k l hk hl => ?_, fun k l hk hl => ?_⟩
  · obtain ⟨e1, e2, e3, e4, e5, e6, -⟩ := hP.step k (by omega)
    obtain ⟨f1, -⟩ := hP.tool (G 115 k).toNat (by omega)
    unfold tnC vTn
    rw [e1, e2, e3, f1]
    exact ⟨rfl, rfl⟩
  · obtain ⟨e1, e2, e3, e4, -⟩ := hP.step k (by omega)
    unfold wtC vWt
    rw [e4]
  · obtain ⟨e1, -, -, -, e5, e6, -⟩ := hP.step k (by omega)
    obtain ⟨g1, -⟩ := hP.step l (by omega)
    obtain ⟨-, -, f3, -⟩ := hP.tool (G 115 k).toNat (by omega)
    unfold fiC vFi
    rw [e1, g1, f3]
def kNL : List Nat := [3, 5, 6, 7, 8, 9, 10, 11, 22, 23, 24, 26, 40, 41, 42, 49, 52, 53, 54, 55, 56, 57, 80, 92]
theorem kN_c {S : Nat} {G G' : pG} (h : kN S G) (hc : ∀ c ∈ kNL, G' c = G c) : kN S G' := by
  obtain ⟨-, e1, -, e2, e3⟩ := cpt_c (S := S) (G := G) (G' := G') (fun c h => hc c (by revert h; revert c; decide))
  have em : mkC G' = mkC G := by
    funext x
    unfold mkC
    rw [hc 22 (by decide), hc 3 (by decide)]
  have e5 : ∀ t : Nat, t < 6 → G' (52 + t) = G (52 + t) := fun t ht => hc (52 + t) (by unfold kNL; simp; omega)
  obtain ⟨h1, h2, h3, h4, h5, h6, h7, h8⟩ := h
  refine ⟨?_, ?_, ?_, ?_, ?_, ?_, ?_, ?_⟩
  · unfold plC at *
    rw [e1, hc 22 (by decide), hc 23 (by decide)]
    exact h1
  · rw [e1, e2, hc 24 (by decide), hc 26 (by decide)]
    exact h2
  · rw [e1, e2, e3, hc 22 (by decide), hc 23 (by decide)]
    exact h3
  · rw [e1, em, hc 40 (by decide), hc 41 (by decide), hc 42 (by decide), hc 23 (by decide), hc 9 (by decide), hc 5 (by decide), hc 8 (by decide)]
    exact h4
  · rw [hc 49 (by decide)]
    exact h5
  · intro t k ht hk
    rw [e5 t ht]
    exact h6 t k ht hk
  · rw [hc 80 (by decide)]
    exact h7
  · rw [hc 92 (by decide)]
    exact h8
def pNew (G : pG) : Prop := rPart G ∧ rPl G ∧ rPlan G ∧ rDisc G ∧ rCch G ∧ rFea G ∧ rCa G ∧ rGets G ∧ rGau G ∧ rFit G
theorem pNew_of {u : Nat → Int} {L : Nat} {D B : pG} {n : Int} (hb : bD u L D) (hc : qcN D n B) (hr : qrN D n B) (hk : kN (D 0 1).toNat B) (hj : jN9 (D 0 1).toNat B) : pNew B := by
  have hP := rPart_of hb hc hr
  have d1 := hb.2.1
  have t6 := hP.t1
  obtain ⟨S, hS⟩ : ∃ S, S = (D 0 1).toNat := ⟨_, rfl⟩
  rw [← hS] at hk hj
  have h11 : B 109 11 = (S : Int) := by rw [hr.1.2.2.1]; omega
  have h11' : (B 109 11).toNat = S := by rw [h11]; rfl
  obtain ⟨q1, q2, q3⟩ := cr_eq hP h11
  obtain ⟨k1, k2, k3, k4, k5, k6, k7, k8⟩ := hk
  obtain ⟨j1, j2, j3, j4, j5, j6⟩ := hj
  obtain ⟨m1, m2⟩ := k3 _ _ (bst_ap (bst_cg (fun k hk => ((q1 k hk).1).symm) (fun k l hk hl => (q2 k l hk hl).symm) (fun k l hk hl => (q3 k l hk hl).symm) j2))
  have em : mkC B = vMk B := by
    funext x
    unfold mkC vMk
    rw [m1, hP.idle]
  refine ⟨hP, ⟨j3.1, j3.2, fun k hk => ?_⟩, ⟨m1, fun k hk => m2 k (by omega)⟩, fun k hk => ?_, fun k hk => ?_, fun k l hk hl => ?_, fun t k ht6 _ hk => Or.inl (k6 t k ht6 hk), fun t ht => ?_, ?_, Or.inl k8⟩
  · refine ⟨j2.1.1 k (by omega), ?_⟩
    rw [j2.2.1]
    exact (plL_ge S (vTn B) (B 152)).2 k (by omega)
  · obtain ⟨a1, a2, a3⟩ := k4 k (by omega)
    rw [a1, a2, a3, em, m2 k (by omega), (q1 k (by omega)).1, (q1 k (by omega)).2]
    exact ⟨rfl, rfl, rfl⟩
  · obtain ⟨a1, a2⟩ := k2 k (by omega)
    rw [a1, a2, (q1 k (by omega)).1, h11']
    refine ⟨rfl, vBits_cg S (fun j hj => ?_)⟩
    unfold apC vAp
    rw [q3 k j (by omega) hj]
  · exact ⟨fun hw => j2.1.2.1 k l (by omega) (by omega) hw, fun hne hf => j2.1.2.2 k l (by omega) (by omega) hne hf⟩
  · rw [k5 t (by omega), j1 t ht]
  · obtain ⟨k71, k72, k73⟩ := k7
    refine ⟨by omega, by omega, by omega, fun k hk => by omega, fun k hk => by omega⟩
def ptW0 : List Nat := [1, 12, 13, 14, 15, 16, 17, 18, 19, 20, 21, 111, 119, 120, 121, 122, 123, 124, 125]
theorem pr_part : pPx (kW ++ jW9) jF9 rTape (fun G G' => rTape G' ∧ rFlt G' ∧ (fr ptW0 jF0 G G' ∨ pNew G')) 130 189 [] := by
  intro G hT
  have hu := rTape_u hT
  obtain ⟨t1, t2, t3, t4⟩ := hT
  obtain ⟨L, hL⟩ : ∃ L : Nat, G 109 1 = (L : Int) := ⟨(G 109 1).toNat, by omega⟩
  have hG : tpC G (uOf G) L := ⟨by rw [t1, hL], by omega, hu.1, hu.2.2⟩
  obtain ⟨v, A, a1, fA, a2, a3⟩ := z130 (d := 59) hG (by omega)
  obtain ⟨w, B, b1, fB, b2, b3⟩ := y189 (d := 59) (G := A) (u := uOf G) (L := L) (by rw [fA.f 1 (by decide), hL]) (by omega) (by rw [fA.c 110 (by decide)]; exact hu.2) (by rw [fA.c 110 (by decide)]; exact fun i hi => (t4 i hi).2) (fun n D e => by rw [e] at a3; obtain ⟨-, -, -, q, -⟩ := a3; exact q) (by omega)
  have FB : fr (kW ++ jW9) jF9 G B := (fA.mono (by decide) (by decide)).trans (fB.mono (by decide) (by decide))
  have rT : rTape B := by
    refine ⟨by rw [fB.c 1 (by decide), a2, b2], by omega, by omega, fun i hi => ?_⟩
    rw [FB.c 2 (by decide), FB.c 110 (by decide)]
    exact t4 i hi
  generalize prs (uOf G) L 801 0 0 dNil = Q at a3 b3
  match Q, a3, b3 with
  | Sum.inl f, a3, b3 =>
    obtain ⟨x1, x2, x3, x4⟩ := a3
    obtain ⟨y1, y2, y3, y4⟩ := b3
    subst x1; subst y1
    exact ⟨-1, A, B, a1, b1, fA.mono (by decide) (by decide), FB, rT, ⟨by rw [fB.c 12 (by decide), x3, y3], by rw [fB.c 12 (by decide), x4, y4]⟩, Or.inl ((x2.mono (by decide) (by decide)).trans (y2.mono (by decide) (by decide)))⟩
  | Sum.inr (n, D), a3, b3 =>
    obtain ⟨x1, x2, x3, x4, x5, x6⟩ := a3
    obtain ⟨y1, y2, y3, y4, y5, y6, y7⟩ := b3
    subst x1; subst y1
    exact ⟨(n : Int), A, B, a1, b1, fA.mono (by decide) (by decide), FB, rT, ⟨by rw [fB.c 12 (by decide), x2, y2], by rw [fB.c 12 (by decide), x3, y3]⟩, Or.inr (pNew_of x5 y4 y5 (kN_c x6 (fun c hc => fB.1 c (by revert hc; revert c; decide) (by revert hc; revert c; decide))) y7)⟩
