/-! bins -/
def oB (f : Nat → Bool) : Nat → Bool
  | 0 => false
  | n + 1 => oB f n || f n
theorem oB_iff (f : Nat → Bool) : ∀ n : Nat, oB f n = true ↔ ∃ s : Nat, s < n ∧ f s = true
  | 0 => by simp [oB]
  | n + 1 => by
    show (oB f n || f n) = true ↔ _
    rw [Bool.or_eq_true, oB_iff f n]
    constructor
    · rintro (⟨s, h1, h2⟩ | h)
      · exact ⟨s, by omega, h2⟩
      · exact ⟨n, by omega, h⟩
    · rintro ⟨s, h1, h2⟩
      by_cases e : s = n
      · subst e; exact Or.inr h2
      · exact Or.inl ⟨s, by omega, h2⟩
theorem fN_c {G G' : pG} (hc : ∀ c ∈ [115, 165, 166, 167, 168, 169, 170, 171], G' c = G c) (hf : ∀ j ∈ [10, 11, 60, 61], G' 109 j = G 109 j) (K : Int) : fN G' K = fN G K ∧ vCau G' = vCau G := by
  have ev := vAll_c hc hf K
  constructor
  · funext n
    unfold fN
    rw [ev.2.1, ev.2.2]
    unfold vH vW vD cDw cWw
    rw [hf 10 (by decide), hf 11 (by decide)]
  · unfold vCau
    rw [hf 10 (by decide), hf 11 (by decide)]
def upB (G : pG) (n i L : Int) (s : Nat) : Bool := decide (L < vTel G n i s)
def dnB (G : pG) (n i L : Int) (s : Nat) : Bool := decide (vTel G n i s < -L)
def vBin (G : pG) (n i L : Int) : Int := (if oB (upB G n i L) (G 109 11).toNat = true then 1 else 0) + (if oB (dnB G n i L) (G 109 11).toNat = true then 2 else 0)
theorem por01 (b : Bool) : por (b2i (b = true)) 0 = b2i (b = true) ∧ por (b2i (b = true)) 1 = 1 := by
  cases b <;> exact ⟨by decide, by decide⟩
theorem s9 {d : Nat} {G : pG} {n i L : Int} (hP : rPart G) (h0 : 0 ≤ n) (h1 : n ≤ vCau G - 1) (h3 : 0 ≤ i) (h4 : i ≤ 39) (hL : 0 ≤ L) (hL2 : L ≤ 99) (hd : 2 ≤ d) : pRuns pMT d 9 [pR 91, pI i, pI L] Yc (vLd G n) (some (pI (vBin G n i L))) (vLd G n) := by
  have hPL : rPart (vLd G n) := (vLd_fr G n).mv rPart_dep (by decide) (by decide) hP
  have e2 : vLd G n 3 2 = G 109 11 := by rw [hPL.steps, (vLd_fr G n).f 11 (by decide)]
  have n1 := hP.n1
  have n0 := hP.n0
  refine pRuns.of rfl rfl (v9_0 ?_)
  suffices H : ∀ (m s : Nat), s + m = (G 109 11).toNat → pEnds pMT d 9 Yc (fun r' g => r' = some (pI (vBin G n i L)) ∧ g = vLd G n) 8 [pR 91, pI i, pI L, pI (b2i (oB (upB G n i L) s = true)), pI (b2i (oB (dnB G n i L) s = true)), pI (s : Int), pU] [] (vLd G n) by
    rintro _ rfl _ rfl _ rfl
    exact H (G 109 11).toNat 0 (by omega)
  intro m
  induction m with
  | zero =>
    intro s hs
    obtain rfl : s = (G 109 11).toNat := by omega
    refine v9_8 ⟨fun _ => ?_, fun z => by rw [e2] at z; omega⟩
    unfold vBin
    cases oB (upB G n i L) (G 109 11).toNat <;> cases oB (dnB G n i L) (G 109 11).toNat
    · exact ⟨fun _ => ⟨fun _ => rI (by decide) rfl, fun z => absurd (by decide) z⟩, fun z => absurd (by decide) z⟩
    · exact ⟨fun _ => ⟨fun z => absurd z (by decide), fun _ => rI (by decide) rfl⟩, fun z => absurd (by decide) z⟩
    · exact ⟨fun z => absurd z (by decide), fun _ => ⟨fun _ => rI (by decide) rfl, fun z => absurd (by decide) z⟩⟩
    · exact ⟨fun z => absurd z (by decide), fun _ => ⟨fun z => absurd z (by decide), fun _ => rI (by decide) rfl⟩⟩
  | succ m ih =>
    intro s hs
    have nx := ih (s + 1) (by omega)
    have hs2 : (s : Int) < G 109 11 := by omega
    refine v9_8 ⟨fun z => by rw [e2] at z; omega, fun _ => pC1.of (by omega) (s8n hP h0 h1 h3 h4 hs2 (by omega)) ?_⟩
    rw [w32_id (x := -L) (by omega) (by omega), w32_id (x := (s : Int) + 1) (by omega) (by omega), (por01 _).1, (por01 _).2, (por01 _).1, (por01 _).2]
    have u : oB (upB G n i L) (s + 1) = (oB (upB G n i L) s || upB G n i L s) := rfl
    have w : oB (dnB G n i L) (s + 1) = (oB (dnB G n i L) s || dnB G n i L s) := rfl
    rw [u, w] at nx
    unfold upB dnB at nx
    intro x hx
    rw [hx]
    refine ⟨fun z => ?_, fun z => ?_⟩
    · rw [show decide (L < vTel G n i s) = false from decide_eq_false (by omega), Bool.or_false] at nx
      intro y hy
      refine ⟨fun z2 => ?_, fun z2 => ?_⟩
      · rw [show decide (vTel G n i s < -L) = false from decide_eq_false (by omega), Bool.or_false] at nx
        rintro _ rfl _ rfl
        rw [hy]
        exact nx
      · rw [show decide (vTel G n i s < -L) = true from decide_eq_true (by omega), Bool.or_true] at nx
        rintro _ rfl _ rfl
        rw [hy]
        exact nx
    · rw [show decide (L < vTel G n i s) = true from decide_eq_true (by omega), Bool.or_true] at nx
      intro y hy
      refine ⟨fun z2 => ?_, fun z2 => ?_⟩
      · rw [show decide (vTel G n i s < -L) = false from decide_eq_false (by omega), Bool.or_false] at nx
        rintro _ rfl _ rfl
        rw [hy]
        exact nx
      · rw [show decide (vTel G n i s < -L) = true from decide_eq_true (by omega), Bool.or_true] at nx
        rintro _ rfl _ rfl
        rw [hy]
        exact nx
theorem por12 (a b : Bool) : por (b2i (a = true) + 2 * b2i (b = true)) 1 = 1 + 2 * b2i (b = true) ∧ por (b2i (a = true) + 2 * b2i (b = true)) 2 = b2i (a = true) + 2 ∧ por (1 + 2 * b2i (b = true)) 2 = 1 + 2 := by
  cases a <;> cases b <;> exact ⟨by decide, by decide, by decide⟩
theorem l265 {d : Nat} {G : pG} {n i L : Int} (hP : rPart G) (hn : G 109 72 = n) (h0 : 0 ≤ n) (h1 : n ≤ vCau G - 1) (h3 : 0 ≤ i) (h4 : i ≤ 39) (hL : 0 ≤ L) (hL2 : L ≤ 99) (hd : 3 ≤ d) : pEnds pMT d 265 Yc (fun r' g => r' = some (pI (vBin G n i L)) ∧ g = G) 45 [pR 109, pI i, pI L, pU, pI 0, pI 0, pU] [] G := by
  have n1 := hP.n1
  have n0 := hP.n0
  have H : ∀ (m s : Nat), s + m = (G 109 11).toNat → pEnds pMT d 265 Yc (fun r' g => r' = some (pI (vBin G n i L)) ∧ g = G) 45 [pR 109, pI i, pI L, pU, pI (b2i (oB (upB G n i L) s = true) + 2 * b2i (oB (dnB G n i L) s = true)), pI (s : Int), pU] [] G := by
    intro m
    induction m with
    | zero =>
      intro s hs
      obtain rfl : s = (G 109 11).toNat := by omega
      refine v265_45 ⟨fun _ => rI ?_ rfl, fun z => by omega⟩
      unfold vBin
      cases oB (upB G n i L) (G 109 11).toNat <;> cases oB (dnB G n i L) (G 109 11).toNat <;> decide
    | succ m ih =>
      intro s hs
      have nx := ih (s + 1) (by omega)
      have hs2 : (s : Int) < G 109 11 := by omega
      refine v265_45 ⟨fun z => by omega, fun _ => ?_⟩
      rw [hn]
      refine pC1.of (by omega) (s250 hP h0 h1 h3 h4 hs2 (by omega)) ?_
      rw [w32_id (x := -L) (by omega) (by omega), w32_id (x := (s : Int) + 1) (by omega) (by omega)]
      have u : oB (upB G n i L) (s + 1) = (oB (upB G n i L) s || upB G n i L s) := rfl
      have w : oB (dnB G n i L) (s + 1) = (oB (dnB G n i L) s || dnB G n i L s) := rfl
      obtain ⟨p1, p2, p3⟩ := por12 (oB (upB G n i L) s) (oB (dnB G n i L) s)
      rw [p1, p2]
      rw [u, w] at nx
      rw [show upB G n i L s = decide (L < vTel G n i s) from rfl, show dnB G n i L s = decide (vTel G n i s < -L) from rfl] at nx
      intro x hx
      rw [hx]
      refine ⟨fun z => ?_, fun z => ?_⟩
      · rw [show decide (L < vTel G n i s) = false from decide_eq_false (by omega), Bool.or_false] at nx
        refine ⟨fun z2 => ?_, fun z2 => ?_⟩
        · rw [show decide (vTel G n i s < -L) = false from decide_eq_false (by omega), Bool.or_false] at nx
          rintro _ rfl
          exact nx
        · rw [show decide (vTel G n i s < -L) = true from decide_eq_true (by omega), Bool.or_true] at nx
          rintro _ rfl _ rfl
          exact nx
      · rw [show decide (L < vTel G n i s) = true from decide_eq_true (by omega), Bool.or_true] at nx
        intro y hy
        rw [hy]
        refine ⟨fun z2 => ?_, fun z2 => ?_⟩
        · rw [show decide (vTel G n i s < -L) = false from decide_eq_false (by omega), Bool.or_false] at nx
          rintro _ rfl
          exact nx
        · rw [show decide (vTel G n i s < -L) = true from decide_eq_true (by omega), Bool.or_true] at nx
          rw [p3]
          rintro _ rfl _ rfl
          exact nx
  exact H (G 109 11).toNat 0 (by omega)
theorem vBin_c {G G' : pG} (h1 : G' 109 10 = G 109 10) (h2 : G' 109 11 = G 109 11) (h3 : G' 115 = G 115) (n i L : Int) : vBin G' n i L = vBin G n i L := by
  have e1 : upB G' n i L = upB G n i L := by funext s; unfold upB; rw [vTel_c h1 h2 h3]
  have e2 : dnB G' n i L = dnB G n i L := by funext s; unfold dnB; rw [vTel_c h1 h2 h3]
  unfold vBin
  rw [e1, e2, h2]
theorem pr_bin (i L K : Int) : pPx (91 :: fW20) [71, 72] (fun G => rPart G ∧ rGau G ∧ rFit G) (fun _ G' => fitPost G') 164 265 [pI i, pI L, pI K] := by
  rintro G ⟨hP, hG, hF⟩
  by_cases hok : (0 ≤ i ∧ i ≤ 39) ∧ (0 ≤ L ∧ L ≤ 99) ∧ (0 ≤ K ∧ K ≤ 999)
  · obtain ⟨⟨i0, i1⟩, ⟨L0, L1⟩, K0, K1⟩ := hok
    obtain ⟨A, a1, a2, hPA, hGA, hFA, a5, hok2, a6, a7, eC, eN, -⟩ := views (d := 58) hP hG hF K0 K1 (by omega)
    have c5 := s5 (d := 58) (n := lf (fN G K) (vCau G).toNat) hPA (by omega)
    obtain ⟨B, hB⟩ : ∃ B, B = (if 0 ≤ lf (fN G K) (vCau G).toNat ∧ lf (fN G K) (vCau G).toNat ≤ vCau A - 1 then vLd A (lf (fN G K) (vCau G).toNat) else A) := ⟨_, rfl⟩
    rw [← hB] at c5
    have fB : fr [91] [] A B := by
      rw [hB]
      split
      · exact vLd_fr _ _
      · exact fr.refl _ _ _
    have hPB : rPart B := fB.mv rPart_dep (by decide) (by decide) hPA
    have hGB : rGau B := rGau_mv hGA (fun c h => fB.1 c (by revert h; revert c; decide) (by revert h; revert c; decide)) (fun j h => fB.2 j (by simp)) (by rw [fB.c 80 (by decide)]) (by rw [fB.c 80 (by decide)]) (by rw [fB.c 80 (by decide)])
    have hFB : rFit B := rFit_mv hFA (fun c h => fB.1 c (by revert h; revert c; decide) (by revert h; revert c; decide)) (fun j h => fB.2 j (by simp))
    have eB := fN_c (G := A) (G' := B) (fun c h => fB.1 c (by revert h; revert c; decide) (by revert h; revert c; decide)) (fun j h => fB.2 j (by simp)) K
    obtain ⟨D, d1, d2, d3, d4, d5⟩ := s255 (d := 58) (K := K) hPB hGB (by omega)
    rw [eB.1, eB.2, eN, eC] at d5
    have fAB : fr (91 :: fW20) [71, 72] G B := (a2.mono (by decide) (by decide)).trans (fB.mono (by decide) (by decide))
    have fD : fr (91 :: fW20) [71, 72] B D := d2.mono (by decide) (by decide)
    have hPD : rPart D := d2.mv rPart_dep (by decide) (by decide) hPB
    have cD : vCau D = vCau A := by rw [← eB.2]; unfold vCau; rw [d2.f 10 (by decide), d2.f 11 (by decide)]
    have c0 := vCau_e hPA
    by_cases q : lf (fN G K) (vCau G).toNat = -1
    · refine ⟨-1, B, D, pRuns.of rfl rfl (v164_0 ?_), pRuns.of rfl rfl (v265_0 ?_), fAB, fAB.trans fD, fitPost_mv d2 hGB hFB⟩
      · refine pC1.of (by omega) (s125 (by omega)) ⟨fun z => absurd ⟨i0, i1⟩ (b2i_0.mp z), fun _ => pC1.of (by omega) (s127 (by omega)) ⟨fun z => absurd ⟨L0, L1⟩ (b2i_0.mp z), fun _ => pC1.of (by omega) (s124 (by omega)) ⟨fun _ => pC0.of (by omega) a1 ?_, fun z => absurd ⟨K0, K1⟩ (b2i_0.mp z)⟩⟩⟩
        rw [a7]
        refine pC1.of (by omega) c5 ⟨fun _ => rI rfl rfl, fun z => ?_⟩
        have := b2i_n0.mp z
        omega
      · refine pC1.of (by omega) (s239 (by omega)) ⟨fun z => absurd ⟨i0, i1⟩ (b2i_0.mp z), fun _ => pC1.of (by omega) (s263 (by omega)) ⟨fun z => absurd ⟨L0, L1⟩ (b2i_0.mp z), fun _ => pC1.of (by omega) (s256 (by omega)) ⟨fun _ => pC0.of (by omega) d1 ?_, fun z => absurd ⟨K0, K1⟩ (b2i_0.mp z)⟩⟩⟩
        exact ⟨fun z => absurd (d5.trans q) z, fun _ => rI rfl rfl⟩
    · have lb : 0 ≤ lf (fN G K) (vCau G).toNat ∧ lf (fN G K) (vCau G).toNat ≤ vCau A - 1 := by
        rcases lf_pr (fN G K) (vCau G).toNat with ⟨h, -⟩ | ⟨m, m1, m2, -⟩
        · exact absurd h q
        · rw [eC, m2]; omega
      rw [if_pos lb] at hB
      have ebin : vBin D (lf (fN G K) (vCau G).toNat) i L = vBin A (lf (fN G K) (vCau G).toNat) i L := vBin_c (by rw [d2.f 10 (by decide), fB.f 10 (by decide)]) (by rw [d2.f 11 (by decide), fB.f 11 (by decide)]) (by rw [d2.c 115 (by decide), fB.c 115 (by decide)]) _ _ _
      refine ⟨vBin A (lf (fN G K) (vCau G).toNat) i L, B, D, pRuns.of rfl rfl (v164_0 ?_), pRuns.of rfl rfl (v265_0 ?_), fAB, fAB.trans fD, fitPost_mv d2 hGB hFB⟩
      · refine pC1.of (by omega) (s125 (by omega)) ⟨fun z => absurd ⟨i0, i1⟩ (b2i_0.mp z), fun _ => pC1.of (by omega) (s127 (by omega)) ⟨fun z => absurd ⟨L0, L1⟩ (b2i_0.mp z), fun _ => pC1.of (by omega) (s124 (by omega)) ⟨fun _ => pC0.of (by omega) a1 ?_, fun z => absurd ⟨K0, K1⟩ (b2i_0.mp z)⟩⟩⟩
        rw [a7]
        refine pC1.of (by omega) c5 ⟨fun z => absurd lb (b2i_0.mp z), fun _ => ?_⟩
        rw [hB]
        exact pC1.of (by omega) (s9 hPA lb.1 lb.2 i0 i1 L0 L1 (by omega)) (rI rfl rfl)
      · refine pC1.of (by omega) (s239 (by omega)) ⟨fun z => absurd ⟨i0, i1⟩ (b2i_0.mp z), fun _ => pC1.of (by omega) (s263 (by omega)) ⟨fun z => absurd ⟨L0, L1⟩ (b2i_0.mp z), fun _ => pC1.of (by omega) (s256 (by omega)) ⟨fun _ => pC0.of (by omega) d1 ?_, fun z => absurd ⟨K0, K1⟩ (b2i_0.mp z)⟩⟩⟩
        refine ⟨fun z => ?_, fun z => absurd (d5.symm.trans z) q⟩
        rintro _ rfl _ rfl
        rw [← ebin]
        exact l265 hPD d5 lb.1 (by rw [cD]; exact lb.2) i0 i1 L0 L1 (by omega)
  · refine ⟨-2, G, G, pRuns.of rfl rfl (v164_0 ?_), pRuns.of rfl rfl (v265_0 ?_), fr.refl _ _ _, fr.refl _ _ _, hG, hF⟩
    · exact pC1.of (by omega) (s125 (by omega)) ⟨fun z => rI rfl rfl, fun z1 => pC1.of (by omega) (s127 (by omega)) ⟨fun z => rI rfl rfl, fun z2 => pC1.of (by omega) (s124 (by omega)) ⟨fun z3 => absurd ⟨b2i_n0.mp z1, b2i_n0.mp z2, b2i_n0.mp z3⟩ hok, fun _ => rI rfl rfl⟩⟩⟩
    · exact pC1.of (by omega) (s239 (by omega)) ⟨fun z => rI rfl rfl, fun z1 => pC1.of (by omega) (s263 (by omega)) ⟨fun z => rI rfl rfl, fun z2 => pC1.of (by omega) (s256 (by omega)) ⟨fun z3 => absurd ⟨b2i_n0.mp z1, b2i_n0.mp z2, b2i_n0.mp z3⟩ hok, fun _ => rI rfl rfl⟩⟩⟩
