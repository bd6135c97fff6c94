/-! the class' reader -/
def cW : List Nat := [1, 12, 13, 14, 15, 16, 17, 18, 19, 20, 21]
def cDr (u : Nat → Int) (L : Nat) (D G : pG) : Prop := G 13 1 = D 0 0 ∧ G 13 2 = D 0 1 ∧ G 13 3 = D 0 2 ∧ G 12 2 = D 0 3 ∧ (∀ t : Nat, (t : Int) < D 0 0 → G 14 t = tW u L (D 1 t).toNat ∧ G 15 t = D 2 t ∧ G 16 t = D 3 t ∧ G 17 t = D 4 t) ∧ (∀ k : Nat, (k : Int) < D 0 1 → G 18 k = D 5 k ∧ G 19 k = D 6 k ∧ G 20 k = D 7 k ∧ G 21 k = D 8 k)
def cS0 (u : Nat → Int) (L : Nat) (G0 : pG) (N : Int) (c : Nat) (D G : pG) : Prop := fr cW [] G0 G ∧ tpC G u L ∧ G 1 1 = (c : Int) ∧ c ≤ L ∧ cDr u L D G ∧ bD u L D ∧ G 12 3 = 0 ∧ G 12 4 = -1 ∧ G 13 0 = N
def cS (u : Nat → Int) (L : Nat) (G0 : pG) (N : Int) (c : Nat) (D G : pG) : Prop := cS0 u L G0 N (tNx u L c) D G ∧ c ≤ L ∧ G 1 4 = (tPl u L c : Int) ∧ G 1 3 = tKd u L c ∧ (tKd u L c = 1 → G 1 5 = tW u L c) ∧ (tKd u L c = 2 → G 1 5 = tV u L c)
def cF (G0 : pG) (f : Int × Int) (G : pG) : Prop := fr cW [] G0 G ∧ G 12 3 = f.1 ∧ G 12 4 = f.2
def cP (u : Nat → Int) (L : Nat) (G0 : pG) (N : Int) (q : pRs) (v : Int) (g : pG) : Prop := match q with
  | Sum.inl f => v = 0 ∧ cF G0 f g
  | Sum.inr (e, D') => v = 1 ∧ cS u L G0 N e D' g
theorem cP_l {u : Nat → Int} {L : Nat} {G0 : pG} {N : Int} {q : pRs} {f : Int × Int} {g : pG} (e : q = Sum.inl f) (h : cF G0 f g) : ∃ v : Int, (some (pI 0) : Option pV) = some (pI v) ∧ cP u L G0 N q v g := by
  subst e
  exact ⟨0, rfl, rfl, h⟩
theorem cP_r {u : Nat → Int} {L : Nat} {G0 : pG} {N : Int} {q : pRs} {c : Nat} {D' g : pG} (e : q = Sum.inr (c, D')) (h : cS u L G0 N c D' g) : ∃ v : Int, (some (pI 1) : Option pV) = some (pI v) ∧ cP u L G0 N q v g := by
  subst e
  exact ⟨1, rfl, rfl, h⟩
theorem cDr_c {u : Nat → Int} {L : Nat} {D G G' : pG} (h : cDr u L D G) (hc : ∀ c ∈ [14, 15, 16, 17, 18, 19, 20, 21], G' c = G c) (h1 : G' 13 1 = G 13 1) (h2 : G' 13 2 = G 13 2) (h3 : G' 13 3 = G 13 3) (h4 : G' 12 2 = G 12 2) : cDr u L D G' := by
  unfold cDr at *
  rw [hc 14 (by decide), hc 15 (by decide), hc 16 (by decide), hc 17 (by decide), hc 18 (by decide), hc 19 (by decide), hc 20 (by decide), hc 21 (by decide), h1, h2, h3, h4]
  exact h
theorem x101 {d : Nat} {u : Nat → Int} {L : Nat} {G0 : pG} {N : Int} {c : Nat} {D G : pG} (h : cS0 u L G0 N c D G) (hd : 2 ≤ d) : ∃ G', pRuns pMT d 101 [pR 1] Yc G none G' ∧ cS u L G0 N c D G' := by
  obtain ⟨h1, h2, h3, h4, h5, h6, h7, h8, h9⟩ := h
  obtain ⟨G', r1, k1, k2, k3, k4, k5, k6, k7⟩ := s101 h2 h4 h3 hd
  refine ⟨G', r1, ⟨h1.trans (k1.mono (by decide) (by decide)), h2.mv k2 (k1.c 2 (by decide)), k3, (tNx_bd h4).2, cDr_c h5 (fun c hc => k1.1 c (by revert hc; revert c; decide) (by revert hc; revert c; decide)) (by rw [k1.c 13 (by decide)]) (by rw [k1.c 13 (by decide)]) (by rw [k1.c 13 (by decide)]) (by rw [k1.c 12 (by decide)]), h6, by rw [k1.c 12 (by decide)]; exact h7, by rw [k1.c 12 (by decide)]; exact h8, by rw [k1.c 13 (by decide)]; exact h9⟩, h4, k4, k5, k6, k7⟩
theorem cS.z {u : Nat → Int} {L : Nat} {G0 : pG} {N : Int} {c : Nat} {D G : pG} (h : cS u L G0 N c D G) : cS0 u L G0 N (tNx u L c) D G := h.1
theorem x70 {d : Nat} {u : Nat → Int} {L : Nat} {G0 : pG} {N : Int} {c : Nat} {D G : pG} (h : cS u L G0 N c D G) (k : Int) : ∃ v G', pRuns pMT d 70 [pR 12, pI k] Yc G (some (pI v)) G' ∧ (v = 0 ∧ cF G0 (k, (tPl u L c : Int)) G') := by
  refine ⟨0, _, pRuns.of rfl rfl (v70_0 ⟨Or.inl rfl, rfl, rfl⟩), rfl, h.1.1.trans ((fr.set (by decide) (by decide) _ _ _).trans (fr.set (by decide) (by decide) _ _ _)), ?_, ?_⟩
  · rw [pset_ne _ _ (by decide), pset_eq]
  · rw [pset_eq, pset_cl _ _ (by decide)]
    exact h.2.2.1
theorem x78 {d : Nat} {u : Nat → Int} {L : Nat} {G0 : pG} {N : Int} {c : Nat} {D G : pG} (h : cS u L G0 N c D G) (k : Int) (hd : 1 ≤ d) : ∃ v G', pRuns pMT d 78 [pR 12, pI k] Yc G (some (pI v)) G' ∧ ((tKd u L c = k ∧ v = 1 ∧ cS u L G0 N c D G') ∨ (tKd u L c ≠ k ∧ v = 0 ∧ cF G0 (1, (tPl u L c : Int)) G')) := by
  refine pX1 rfl rfl (v78_0 ?_)
  rw [h.2.2.2.1]
  refine ⟨fun z => ⟨Or.inr rfl, 1, rfl, Or.inl ⟨z, rfl, h⟩⟩, fun z => pC1.ox hd (x70 h 1) (fun v G' hv => ?_)⟩
  obtain ⟨rfl, hf⟩ := hv
  exact ⟨fun _ => ⟨Or.inl rfl, 0, rfl, Or.inr ⟨z, rfl, hf⟩⟩, fun y => absurd rfl y⟩
theorem x77 {d : Nat} {u : Nat → Int} {L : Nat} {G0 : pG} {N : Int} {c : Nat} {D G : pG} (h : cS u L G0 N c D G) (k : Int) (hd : 3 ≤ d) : ∃ v G', pRuns pMT d 77 [pR 12, pI k] Yc G (some (pI v)) G' ∧ ((tKd u L (tNx u L c) = k ∧ v = 1 ∧ cS u L G0 N (tNx u L c) D G') ∨ (tKd u L (tNx u L c) ≠ k ∧ v = 0 ∧ cF G0 (1, (tPl u L (tNx u L c) : Int)) G')) := by
  refine pX1 rfl rfl (v77_0 (pC0.ox (by omega) (x101 h.z (by omega)) (fun A hA => pC1.ox (by omega) (x78 hA k (by omega)) (fun v B hB => ?_))))
  rcases hB with ⟨k1, rfl, s1⟩ | ⟨k1, rfl, f1⟩
  · exact ⟨Or.inr rfl, 1, rfl, Or.inl ⟨k1, rfl, s1⟩⟩
  · exact ⟨Or.inl rfl, 0, rfl, Or.inr ⟨k1, rfl, f1⟩⟩
theorem x80 {d : Nat} {u : Nat → Int} {L : Nat} {G0 : pG} {N : Int} {c : Nat} {D G : pG} (h : cS u L G0 N c D G) (k2 : tKd u L c = 2) (lo hi : Int) (hd : 1 ≤ d) : ∃ v G', pRuns pMT d 80 [pR 12, pI lo, pI hi] Yc G (some (pI v)) G' ∧ (((lo ≤ tV u L c ∧ tV u L c ≤ hi) ∧ v = 1 ∧ cS u L G0 N c D G') ∨ (¬ (lo ≤ tV u L c ∧ tV u L c ≤ hi) ∧ v = 0 ∧ cF G0 (2, (tPl u L c : Int)) G')) := by
  refine pX1 rfl rfl (v80_0 ?_)
  rw [h.2.2.2.2.2 k2]
  refine pC1.of hd s118 ⟨fun z => ⟨Or.inr rfl, 1, rfl, Or.inl ⟨b2i_n0.mp z, rfl, h⟩⟩, fun z => pC1.ox hd (x70 h 2) (fun v G' hv => ?_)⟩
  obtain ⟨rfl, hf⟩ := hv
  exact ⟨fun _ => ⟨Or.inl rfl, 0, rfl, Or.inr ⟨b2i_0.mp z, rfl, hf⟩⟩, fun y => absurd rfl y⟩
theorem x79 {d : Nat} {u : Nat → Int} {L : Nat} {G0 : pG} {N : Int} {c : Nat} {D G : pG} (h : cS u L G0 N c D G) (lo hi : Int) (hd : 3 ≤ d) : ∃ v G', pRuns pMT d 79 [pR 12, pI lo, pI hi] Yc G (some (pI v)) G' ∧ ((tKd u L (tNx u L c) = 2 ∧ (lo ≤ tV u L (tNx u L c) ∧ tV u L (tNx u L c) ≤ hi) ∧ v = 1 ∧ cS u L G0 N (tNx u L c) D G') ∨ (v = 0 ∧ ∃ f : Int × Int, cF G0 f G' ∧ ∀ q : pRs, xN u L (tNx u L c) lo hi q = Sum.inl f)) := by
  refine pX1 rfl rfl (v79_0 (pC0.ox (by omega) (x101 h.z (by omega)) (fun A hA => pC1.ox (by omega) (x78 hA 2 (by omega)) (fun v B hB => ?_))))
  rcases hB with ⟨k1, rfl, s1⟩ | ⟨k1, rfl, f1⟩
  · refine ⟨fun z => by omega, fun _ => pC1.ox (by omega) (x80 s1 k1 lo hi (by omega)) (fun v C hC => ?_)⟩
    rcases hC with ⟨k2, rfl, s2⟩ | ⟨k2, rfl, f2⟩
    · exact ⟨fun z => by omega, fun _ => ⟨Or.inr rfl, 1, rfl, Or.inl ⟨k1, k2, rfl, s2⟩⟩⟩
    · refine ⟨fun z => ⟨Or.inl rfl, 0, rfl, Or.inr ⟨rfl, _, f2, fun q => ?_⟩⟩, fun z => absurd rfl z⟩
      unfold xN
      rw [if_pos k1, if_neg k2]
  · refine ⟨fun z => ⟨Or.inl rfl, 0, rfl, Or.inr ⟨rfl, _, f1, fun q => ?_⟩⟩, fun z => absurd rfl z⟩
    unfold xN
    rw [if_neg k1]
theorem xN_y {u : Nat → Int} {L c : Nat} {lo hi : Int} (h1 : tKd u L c = 2) (h2 : lo ≤ tV u L c ∧ tV u L c ≤ hi) (q : pRs) : xN u L c lo hi q = q := by
  unfold xN
  rw [if_pos h1, if_pos h2]
theorem xK_y {u : Nat → Int} {L c : Nat} {k : Int} (h1 : tKd u L c = k) (q : pRs) : xK u L c k q = q := if_pos h1
theorem xK_n {u : Nat → Int} {L c : Nat} {k : Int} (h1 : tKd u L c ≠ k) (q : pRs) : xK u L c k q = Sum.inl (1, (tPl u L c : Int)) := if_neg h1
/-- a tool by its name -/
theorem x59 {d : Nat} {u : Nat → Int} {L : Nat} {D G : pG} {x : Int} (h : cDr u L D G) (hb : bD u L D) : pRuns pMT d 59 [pR 13, pL x] Yc G (some (pI (dLk u L D x))) G := by
  have h0 := hb.1
  refine pRuns.of rfl rfl (v59_0 ?_)
  suffices H : ∀ (m t : Nat), t + m = (D 0 0).toNat → dLk u L D x = dLp u L D x m t → pEnds pMT d 59 Yc (fun r' g => r' = some (pI (dLk u L D x)) ∧ g = G) 2 [pR 13, pL x, pU, pI (t : Int)] [] G by
    rintro _ rfl
    exact H (D 0 0).toNat 0 (by omega) rfl
  intro m
  induction m with
  | zero =>
    intro t ht he
    refine v59_2 ⟨fun _ => rI he.symm rfl, fun z => by rw [h.1] at z; omega⟩
  | succ m ih =>
    intro t ht he
    have e : dLp u L D x (m + 1) t = if tW u L (D 1 t).toNat = x then (t : Int) else dLp u L D x m (t + 1) := rfl
    have ht2 : (t : Int) < D 0 0 := by omega
    refine v59_2 ⟨fun z => by rw [h.1] at z; omega, fun _ => ⟨by omega, by omega, ?_⟩⟩
    rw [Int.toNat_natCast, (h.2.2.2.2.1 t ht2).1, cmp_eq, w32_id (by omega) (by omega)]
    refine ⟨fun z => ?_, fun z => rI ?_ rfl⟩
    · rintro _ rfl
      exact ih (t + 1) (by omega) (by rw [he, e, if_neg z])
    · rw [he, e, if_pos z]
theorem x81 {d : Nat} {u : Nat → Int} {L : Nat} {G0 : pG} {N : Int} {c : Nat} {D G : pG} (h : cS u L G0 N c D G) (hd : 3 ≤ d) : ∃ v G', pRuns pMT d 81 [pR 12] Yc G (some (pI v)) G' ∧ ((tKd u L (tNx u L c) = 1 ∧ dLk u L D (tW u L (tNx u L c)) ≠ -1 ∧ v = 1 ∧ cS u L G0 N (tNx u L c) D G') ∨ (v = 0 ∧ ∃ f : Int × Int, cF G0 f G' ∧ ∀ q : pRs, xK u L (tNx u L c) 1 (if dLk u L D (tW u L (tNx u L c)) = -1 then Sum.inl (5, (tPl u L (tNx u L c) : Int)) else q) = Sum.inl f)) := by
  refine pX1 rfl rfl (v81_0 (pC0.ox (by omega) (x101 h.z (by omega)) (fun A hA => pC1.ox (by omega) (x78 hA 1 (by omega)) (fun v B hB => ?_))))
  rcases hB with ⟨k1, rfl, s1⟩ | ⟨k1, rfl, f1⟩
  · refine ⟨fun z => by omega, fun _ => ?_⟩
    rw [s1.2.2.2.2.1 k1]
    refine pC1.of (by omega) (x59 s1.1.2.2.2.2.1 s1.1.2.2.2.2.2.1) ⟨fun z => ⟨Or.inr rfl, 1, rfl, Or.inl ⟨k1, z, rfl, s1⟩⟩, fun z => pC1.ox (by omega) (x70 s1 5) (fun v C hC => ?_)⟩
    obtain ⟨rfl, hf⟩ := hC
    refine ⟨fun _ => ⟨Or.inl rfl, 0, rfl, Or.inr ⟨rfl, _, hf, fun q => ?_⟩⟩, fun y => absurd rfl y⟩
    rw [xK_y k1, if_pos z]
  · exact ⟨fun _ => ⟨Or.inl rfl, 0, rfl, Or.inr ⟨rfl, _, f1, fun q => xK_n k1 _⟩⟩, fun z => absurd rfl z⟩
theorem x60 {d : Nat} {u : Nat → Int} {L : Nat} {G0 : pG} {N : Int} {c e : Nat} {D G : pG} {f s : Int} (h : cS u L G0 N c D G) (h6 : D 0 0 < 6) (he : e ≤ L) (hk : tKd u L e = 1) (f0 : 1 ≤ f) (f1 : f ≤ 50) (s0 : 1 ≤ s) (s1 : s ≤ 60) : ∃ G', pRuns pMT d 60 [pR 13, pL (tW u L e), pI f, pI s] Yc G none G' ∧ cS u L G0 N c (dTool D e f s) G' := by
  obtain ⟨⟨h1, h2, h3, h4, h5, hb, h7, h8, h9⟩, i1, i2, i3, i4, i5⟩ := h
  have b0 := hb.1
  obtain ⟨n, hn⟩ : ∃ n : Nat, D 0 0 = (n : Int) := ⟨(D 0 0).toNat, by omega⟩
  have g13 : G 13 1 = (n : Int) := by rw [h5.1, hn]
  have c1 : ∀ (g : pG) (i : Nat) (v : Int), pset g 14 i v 13 = g 13 := fun g i v => pset_cl _ _ (by decide)
  have c2 : ∀ (g : pG) (i : Nat) (v : Int), pset g 15 i v 13 = g 13 := fun g i v => pset_cl _ _ (by decide)
  have c3 : ∀ (g : pG) (i : Nat) (v : Int), pset g 16 i v 13 = g 13 := fun g i v => pset_cl _ _ (by decide)
  have c4 : ∀ (g : pG) (i : Nat) (v : Int), pset g 17 i v 13 = g 13 := fun g i v => pset_cl _ _ (by decide)
  refine pX0 rfl rfl (v60_0 ⟨fun _ => ?_, fun z => by omega⟩)
  simp only [c1, c2, c3, c4, g13, Int.toNat_natCast]
  rw [w32_id (x := (n : Int) + 1) (by omega) (by omega)]
  refine ⟨by omega, by omega, by omega, by omega, by omega, by omega, by omega, by omega, trivial, ?_⟩
  obtain ⟨g', hg'⟩ : ∃ g', g' = pset (pset (pset (pset (pset G 14 n (tW u L e)) 15 n f) 16 n s) 17 n 0) 13 1 ((n : Int) + 1) := ⟨_, rfl⟩
  rw [← hg']
  have F : fr [13, 14, 15, 16, 17] [] G g' := by
    rw [hg']
    exact (fr.set (by decide) (by decide) _ _ _).trans ((fr.set (by decide) (by decide) _ _ _).trans ((fr.set (by decide) (by decide) _ _ _).trans ((fr.set (by decide) (by decide) _ _ _).trans (fr.set (by decide) (by decide) _ _ _))))
  have r13 : ∀ j : Nat, g' 13 j = if j = 1 then (n : Int) + 1 else G 13 j := fun j => by
    rw [hg', pset_at, if_pos rfl, c4, c3, c2, c1]
  have r14 : ∀ t : Nat, g' 14 t = if t = n then tW u L e else G 14 t := fun t => by
    rw [hg', pset_cl _ _ (by decide), pset_cl _ _ (by decide), pset_cl _ _ (by decide), pset_cl _ _ (by decide), pset_at, if_pos rfl]
  have r15 : ∀ t : Nat, g' 15 t = if t = n then f else G 15 t := fun t => by
    rw [hg', pset_cl _ _ (by decide), pset_cl _ _ (by decide), pset_cl _ _ (by decide), pset_at, if_pos rfl, pset_cl _ _ (by decide)]
  have r16 : ∀ t : Nat, g' 16 t = if t = n then s else G 16 t := fun t => by
    rw [hg', pset_cl _ _ (by decide), pset_cl _ _ (by decide), pset_at, if_pos rfl, pset_cl _ _ (by decide), pset_cl _ _ (by decide)]
  have r17 : ∀ t : Nat, g' 17 t = if t = n then 0 else G 17 t := fun t => by
    rw [hg', pset_cl _ _ (by decide), pset_at, if_pos rfl, pset_cl _ _ (by decide), pset_cl _ _ (by decide), pset_cl _ _ (by decide)]
  obtain ⟨v0, v1, v2, v3, v4, v5⟩ := dTool_v D e f s
  have en : (D 0 0).toNat = n := by omega
  rw [en] at v1 v2 v3 v4
  have E0 : dTool D e f s 0 0 = (n : Int) + 1 := by rw [v0, if_pos rfl, hn]
  have E1 : ∀ j : Nat, j ≠ 0 → dTool D e f s 0 j = D 0 j := fun j hj => by rw [v0, if_neg hj]
  obtain ⟨p1, p2, p3, p4, p5, p6⟩ := h5
  refine ⟨⟨h1.trans (F.mono (by decide) (by decide)), h2.mv (by rw [F.c 1 (by decide)]) (F.c 2 (by decide)), by rw [F.c 1 (by decide)]; exact h3, h4, ⟨?_, ?_, ?_, ?_, fun t ht => ?_, fun k hk => ?_⟩, bD_tool hb h6 he hk f0 f1 s0 s1, by rw [F.c 12 (by decide)]; exact h7, by rw [F.c 12 (by decide)]; exact h8, by rw [r13]; exact h9⟩, i1, by rw [F.c 1 (by decide)]; exact i2, by rw [F.c 1 (by decide)]; exact i3, by rw [F.c 1 (by decide)]; exact i4, by rw [F.c 1 (by decide)]; exact i5⟩
  · rw [r13, E0]; rfl
  · rw [r13, E1 1 (by decide)]; exact p2
  · rw [r13, E1 2 (by decide)]; exact p3
  · rw [F.c 12 (by decide), E1 3 (by decide)]; exact p4
  · rw [E0] at ht
    rw [r14, r15, r16, r17, v1, v2, v3, v4]
    by_cases q : t = n
    · rw [if_pos q, if_pos q, if_pos q, if_pos q, if_pos q, if_pos q, if_pos q, if_pos q, Int.toNat_natCast]
      exact ⟨rfl, rfl, rfl, rfl⟩
    · rw [if_neg q, if_neg q, if_neg q, if_neg q, if_neg q, if_neg q, if_neg q, if_neg q]
      exact p5 t (by omega)
  · rw [E1 1 (by decide)] at hk
    rw [F.c 18 (by decide), F.c 19 (by decide), F.c 20 (by decide), F.c 21 (by decide), v5 5 (by decide), v5 6 (by decide), v5 7 (by decide), v5 8 (by decide)]
    exact p6 k hk
theorem x61 {d : Nat} {u : Nat → Int} {L : Nat} {G0 : pG} {N : Int} {c : Nat} {D G : pG} {t r w : Int} (h : cS u L G0 N c D G) (h7' : D 0 1 < 7) (t0 : 0 ≤ t) (t1 : t < D 0 0) (r0 : 1 ≤ r) (r1 : r ≤ 400) (w0 : 0 ≤ w) (w1 : w ≤ 99) : ∃ G', pRuns pMT d 61 [pR 13, pI t, pI r, pI w] Yc G none G' ∧ cS u L G0 N c (dStp D t r w) G' := by
  obtain ⟨⟨h1, h2, h3, h4, h5, hb, h7, h8, h9⟩, i1, i2, i3, i4, i5⟩ := h
  have b0 := hb.2.1
  obtain ⟨n, hn⟩ : ∃ n : Nat, D 0 1 = (n : Int) := ⟨(D 0 1).toNat, by omega⟩
  have g13 : G 13 2 = (n : Int) := by rw [h5.2.1, hn]
  have c1 : ∀ (g : pG) (i : Nat) (v : Int), pset g 18 i v 13 = g 13 := fun g i v => pset_cl _ _ (by decide)
  have c2 : ∀ (g : pG) (i : Nat) (v : Int), pset g 19 i v 13 = g 13 := fun g i v => pset_cl _ _ (by decide)
  have c3 : ∀ (g : pG) (i : Nat) (v : Int), pset g 20 i v 13 = g 13 := fun g i v => pset_cl _ _ (by decide)
  have c4 : ∀ (g : pG) (i : Nat) (v : Int), pset g 21 i v 13 = g 13 := fun g i v => pset_cl _ _ (by decide)
  refine pX0 rfl rfl (v61_0 ⟨fun _ => ?_, fun z => by omega⟩)
  simp only [c1, c2, c3, c4, g13, Int.toNat_natCast]
  rw [w32_id (x := (n : Int) + 1) (by omega) (by omega)]
  refine ⟨by omega, by omega, by omega, by omega, by omega, by omega, by omega, by omega, trivial, ?_⟩
  obtain ⟨g', hg'⟩ : ∃ g', g' = pset (pset (pset (pset (pset G 18 n t) 19 n r) 20 n w) 21 n 0) 13 2 ((n : Int) + 1) := ⟨_, rfl⟩
  rw [← hg']
  have F : fr [13, 18, 19, 20, 21] [] G g' := by
    rw [hg']
    exact (fr.set (by decide) (by decide) _ _ _).trans ((fr.set (by decide) (by decide) _ _ _).trans ((fr.set (by decide) (by decide) _ _ _).trans ((fr.set (by decide) (by decide) _ _ _).trans (fr.set (by decide) (by decide) _ _ _))))
  have r13 : ∀ j : Nat, g' 13 j = if j = 2 then (n : Int) + 1 else G 13 j := fun j => by
    rw [hg', pset_at, if_pos rfl, c4, c3, c2, c1]
  have r14 : ∀ k : Nat, g' 18 k = if k = n then t else G 18 k := fun k => by
    rw [hg', pset_cl _ _ (by decide), pset_cl _ _ (by decide), pset_cl _ _ (by decide), pset_cl _ _ (by decide), pset_at, if_pos rfl]
  have r15 : ∀ k : Nat, g' 19 k = if k = n then r else G 19 k := fun k => by
    rw [hg', pset_cl _ _ (by decide), pset_cl _ _ (by decide), pset_cl _ _ (by decide), pset_at, if_pos rfl, pset_cl _ _ (by decide)]
  have r16 : ∀ k : Nat, g' 20 k = if k = n then w else G 20 k := fun k => by
    rw [hg', pset_cl _ _ (by decide), pset_cl _ _ (by decide), pset_at, if_pos rfl, pset_cl _ _ (by decide), pset_cl _ _ (by decide)]
  have r17 : ∀ k : Nat, g' 21 k = if k = n then 0 else G 21 k := fun k => by
    rw [hg', pset_cl _ _ (by decide), pset_at, if_pos rfl, pset_cl _ _ (by decide), pset_cl _ _ (by decide), pset_cl _ _ (by decide)]
  obtain ⟨v0, v1, v2, v3, v4, v5⟩ := dStp_v D t r w
  have en : (D 0 1).toNat = n := by omega
  rw [en] at v1 v2 v3 v4
  have E0 : dStp D t r w 0 1 = (n : Int) + 1 := by rw [v0, if_pos rfl, hn]
  have E1 : ∀ j : Nat, j ≠ 1 → dStp D t r w 0 j = D 0 j := fun j hj => by rw [v0, if_neg hj]
  obtain ⟨p1, p2, p3, p4, p5, p6⟩ := h5
  refine ⟨⟨h1.trans (F.mono (by decide) (by decide)), h2.mv (by rw [F.c 1 (by decide)]) (F.c 2 (by decide)), by rw [F.c 1 (by decide)]; exact h3, h4, ⟨?_, ?_, ?_, ?_, fun x hx => ?_, fun k hk => ?_⟩, bD_step hb h7' t0 t1 r0 r1 w0 w1, by rw [F.c 12 (by decide)]; exact h7, by rw [F.c 12 (by decide)]; exact h8, by rw [r13]; exact h9⟩, i1, by rw [F.c 1 (by decide)]; exact i2, by rw [F.c 1 (by decide)]; exact i3, by rw [F.c 1 (by decide)]; exact i4, by rw [F.c 1 (by decide)]; exact i5⟩
  · rw [r13, E1 0 (by decide)]; exact p1
  · rw [r13, E0]; rfl
  · rw [r13, E1 2 (by decide)]; exact p3
  · rw [F.c 12 (by decide), E1 3 (by decide)]; exact p4
  · rw [E1 0 (by decide)] at hx
    rw [F.c 14 (by decide), F.c 15 (by decide), F.c 16 (by decide), F.c 17 (by decide), v5 1 (by decide) (by decide), v5 2 (by decide) (by decide), v5 3 (by decide) (by decide), v5 4 (by decide) (by decide)]
    exact p5 x hx
  · rw [E0] at hk
    rw [r14, r15, r16, r17, v1, v2, v3, v4]
    by_cases q : k = n
    · rw [if_pos q, if_pos q, if_pos q, if_pos q, if_pos q, if_pos q, if_pos q, if_pos q]
      exact ⟨rfl, rfl, rfl, rfl⟩
    · rw [if_neg q, if_neg q, if_neg q, if_neg q, if_neg q, if_neg q, if_neg q, if_neg q]
      exact p6 k (by omega)
theorem x72 {d : Nat} {u : Nat → Int} {L : Nat} {G0 : pG} {N : Int} {c : Nat} {D G : pG} (h : cS u L G0 N c D G) (hd : 4 ≤ d) : ∃ v G', pRuns pMT d 72 [pR 12] Yc G (some (pI v)) G' ∧ cP u L G0 N (cTool u L c D) v G' := by
  have b0 := h.1.2.2.2.2.2.1.1
  refine pX1 rfl rfl (v72_0 ?_)
  rw [h.1.2.2.2.2.1.1]
  refine ⟨fun h6 => ?_, fun h6 => pC1.ox (by omega) (x70 h 4) (fun v A hA => ?_)⟩
  · have E : cTool u L c D = xK u L (tNx u L c) 1 (if dLk u L D (tW u L (tNx u L c)) = -1 then xN u L (tNx u L (tNx u L c)) 1 50 (xN u L (tNx u L (tNx u L (tNx u L c))) 1 60 (xK u L (tNx u L (tNx u L (tNx u L (tNx u L c)))) 3 (Sum.inr (tNx u L (tNx u L (tNx u L (tNx u L c))), dTool D (tNx u L c) (tV u L (tNx u L (tNx u L c))) (tV u L (tNx u L (tNx u L (tNx u L c)))))))) else Sum.inl (3, (tPl u L (tNx u L c) : Int))) := if_pos h6
    refine pC1.ox (by omega) (x77 h 1 (by omega)) (fun v A hA => ?_)
    rcases hA with ⟨k1, rfl, sA⟩ | ⟨k1, rfl, fA⟩
    · refine ⟨fun _ => ?_, fun z => by omega⟩
      rw [xK_y k1] at E
      rw [sA.2.2.2.2.1 k1]
      rintro _ rfl
      refine pC1.of (by omega) (x59 sA.1.2.2.2.2.1 sA.1.2.2.2.2.2.1) ⟨fun z => ?_, fun z => pC1.ox (by omega) (x70 sA 3) (fun v B hB => ?_)⟩
      · rw [if_pos z] at E
        refine pC1.ox (by omega) (x79 sA 1 50 (by omega)) (fun v B hB => ?_)
        rcases hB with ⟨k2, w2, rfl, sB⟩ | ⟨rfl, f, fB, eB⟩
        · refine ⟨fun _ => ?_, fun z => by omega⟩
          rw [xN_y k2 w2] at E
          rw [sB.2.2.2.2.2 k2, w32_id (by omega) (by omega)]
          rintro _ rfl
          refine pC1.ox (by omega) (x79 sB 1 60 (by omega)) (fun v C hC => ?_)
          rcases hC with ⟨k3, w3, rfl, sC⟩ | ⟨rfl, f, fC, eC⟩
          · refine ⟨fun _ => ?_, fun z => by omega⟩
            rw [xN_y k3 w3] at E
            rw [sC.2.2.2.2.2 k3, w32_id (by omega) (by omega)]
            refine pC0.ox (by omega) (x60 sC h6 sA.2.1 k1 w2.1 w2.2 w3.1 w3.2) (fun F hF => pC1.ox (by omega) (x77 hF 3 (by omega)) (fun v H hH => ?_))
            rcases hH with ⟨k4, rfl, sH⟩ | ⟨k4, rfl, fH⟩
            · rw [xK_y k4] at E
              exact ⟨Or.inr rfl, cP_r E sH⟩
            · rw [xK_n k4] at E
              exact ⟨Or.inl rfl, cP_l E fH⟩
          · rw [eC] at E
            exact ⟨fun z => absurd rfl z, fun _ => ⟨Or.inl rfl, cP_l E fC⟩⟩
        · rw [eB] at E
          exact ⟨fun z => absurd rfl z, fun _ => ⟨Or.inl rfl, cP_l E fB⟩⟩
      · obtain ⟨rfl, hf⟩ := hB
        rw [if_neg z] at E
        exact ⟨Or.inl rfl, cP_l E hf⟩
    · rw [xK_n k1] at E
      exact ⟨fun z => absurd rfl z, fun _ => ⟨Or.inl rfl, cP_l E fA⟩⟩
  · obtain ⟨rfl, hf⟩ := hA
    exact ⟨Or.inl rfl, cP_l (if_neg (by omega)) hf⟩
theorem x73 {d : Nat} {u : Nat → Int} {L : Nat} {G0 : pG} {N : Int} {c : Nat} {D G : pG} (h : cS u L G0 N c D G) (hd : 4 ≤ d) : ∃ v G', pRuns pMT d 73 [pR 12] Yc G (some (pI v)) G' ∧ cP u L G0 N (cStep u L c D) v G' := by
  have b0 := h.1.2.2.2.2.2.1.1
  have hbd := dLk_bd u L (D := D) (tW u L (tNx u L c)) b0.1
  refine pX1 rfl rfl (v73_0 ?_)
  rw [h.1.2.2.2.2.1.2.1]
  refine ⟨fun h7 => ?_, fun h7 => pC1.ox (by omega) (x70 h 4) (fun v A hA => ?_)⟩
  · have E := show cStep u L c D = _ from if_pos h7
    refine pC1.ox (by omega) (x81 h (by omega)) (fun v A hA => ?_)
    rcases hA with ⟨k1, w1, rfl, sA⟩ | ⟨rfl, f, fA, eA⟩
    · refine ⟨fun _ => ?_, fun z => by omega⟩
      rw [xK_y k1, if_neg w1] at E
      rw [sA.2.2.2.2.1 k1]
      refine pC1.of (by omega) (x59 sA.1.2.2.2.2.1 sA.1.2.2.2.2.2.1) ?_
      rintro _ rfl
      refine pC1.ox (by omega) (x79 sA 1 400 (by omega)) (fun v B hB => ?_)
      rcases hB with ⟨k2, w2, rfl, sB⟩ | ⟨rfl, f, fB, eB⟩
      · refine ⟨fun _ => ?_, fun z => by omega⟩
        rw [xN_y k2 w2] at E
        rw [sB.2.2.2.2.2 k2, w32_id (by omega) (by omega)]
        rintro _ rfl
        refine pC0.ox (by omega) (x101 sB.z (by omega)) (fun C sC => ?_)
        rw [sC.2.2.2.1]
        refine ⟨fun k3 => ?_, fun k3 => ?_⟩
        · rw [if_pos k3] at E
          refine pC1.ox (by omega) (x80 sC k3 0 99 (by omega)) (fun v F hF => ?_)
          rcases hF with ⟨w3, rfl, sF⟩ | ⟨w3, rfl, fF⟩
          · refine ⟨fun _ => ?_, fun z => by omega⟩
            rw [if_pos w3] at E
            rw [sF.2.2.2.2.2 k3, w32_id (by omega) (by omega)]
            refine pC0.ox (by omega) (x61 sF h7 (by omega) (by omega) w2.1 w2.2 w3.1 w3.2) (fun H hH => pC1.ox (by omega) (x77 hH 3 (by omega)) (fun v I hI => ?_))
            rcases hI with ⟨k4, rfl, sI⟩ | ⟨k4, rfl, fI⟩
            · rw [xK_y k4] at E
              exact ⟨Or.inr rfl, cP_r E sI⟩
            · rw [xK_n k4] at E
              exact ⟨Or.inl rfl, cP_l E fI⟩
          · rw [if_neg w3] at E
            exact ⟨fun z => absurd rfl z, fun _ => ⟨Or.inl rfl, cP_l E fF⟩⟩
        · rw [if_neg k3] at E
          refine pC0.ox (by omega) (x61 sC h7 (by omega) (by omega) w2.1 w2.2 (Int.le_refl 0) (by omega)) (fun H hH => pC1.ox (by omega) (x78 hH 3 (by omega)) (fun v I hI => ?_))
          rcases hI with ⟨k4, rfl, sI⟩ | ⟨k4, rfl, fI⟩
          · rw [xK_y k4] at E
            exact ⟨Or.inr rfl, cP_r E sI⟩
          · rw [xK_n k4] at E
            exact ⟨Or.inl rfl, cP_l E fI⟩
      · rw [eB] at E
        exact ⟨fun z => absurd rfl z, fun _ => ⟨Or.inl rfl, cP_l E fB⟩⟩
    · rw [eA] at E
      exact ⟨fun z => absurd rfl z, fun _ => ⟨Or.inl rfl, cP_l E fA⟩⟩
  · obtain ⟨rfl, hf⟩ := hA
    exact ⟨Or.inl rfl, cP_l (if_neg (by omega)) hf⟩
theorem x74 {d : Nat} {u : Nat → Int} {L : Nat} {G0 : pG} {N : Int} {c : Nat} {D G : pG} (h : cS u L G0 N c D G) (hd : 4 ≤ d) : ∃ v G', pRuns pMT d 74 [pR 12] Yc G (some (pI v)) G' ∧ cP u L G0 N (cAft u L c D) v G' := by
  have b1 := h.1.2.2.2.2.2.1.2.1
  have b5 := h.1.2.2.2.2.2.1.2.2.2.2.2
  obtain ⟨Q, E⟩ : ∃ Q, Q = cAft u L c D := ⟨_, rfl⟩
  rw [← E]
  unfold cAft at E
  refine pX1 rfl rfl (v74_0 ?_)
  rw [h.1.2.2.2.2.1.2.1, w32_id (x := D 0 1 - 1) (by omega) (by omega)]
  refine pC1.ox (by omega) (x79 h 0 (D 0 1 - 1) (by omega)) (fun v A hA => ?_)
  rcases hA with ⟨k1, w1, rfl, sA⟩ | ⟨rfl, f, fA, eA⟩
  · refine ⟨fun _ => ?_, fun z => by omega⟩
    rw [xN_y k1 w1] at E
    rw [sA.2.2.2.2.2 k1, w32_id (x := tV u L (tNx u L c)) (by omega) (by omega), sA.1.2.2.2.2.1.2.1, w32_id (x := D 0 1 - 1) (by omega) (by omega)]
    rintro _ rfl
    refine pC1.ox (by omega) (x79 sA (tV u L (tNx u L c)) (D 0 1 - 1) (by omega)) (fun v B hB => ?_)
    rcases hB with ⟨k2, w2, rfl, sB⟩ | ⟨rfl, f, fB, eB⟩
    · refine ⟨fun _ => ?_, fun z => by omega⟩
      rw [xN_y k2 w2] at E
      rw [sB.2.2.2.2.2 k2, w32_id (x := tV u L (tNx u L (tNx u L c))) (by omega) (by omega)]
      generalize ha : tV u L (tNx u L c) = a at *
      generalize hb : tV u L (tNx u L (tNx u L c)) = b at *
      obtain ⟨m, rfl⟩ : ∃ m : Nat, a = (m : Int) := ⟨a.toNat, by omega⟩
      obtain ⟨n, rfl⟩ : ∃ n : Nat, b = (n : Int) := ⟨b.toNat, by omega⟩
      rw [Int.toNat_natCast, Int.toNat_natCast] at E
      rintro _ rfl
      refine ⟨fun z => pC1.ox (by omega) (x70 sB 3) (fun v C hC => ?_), fun z => ⟨by omega, by omega, ?_⟩⟩
      · obtain ⟨rfl, hf⟩ := hC
        rw [if_pos (Or.inl z)] at E
        exact ⟨Or.inl rfl, cP_l E hf⟩
      · have hn2 : (n : Int) < D 0 1 := by omega
        obtain ⟨p1, p2, p3, p4⟩ := sB.1.2.2.2.2.1.2.2.2.2.2 n hn2
        obtain ⟨-, -, -, -, -, -, q7, q8⟩ := b5 n hn2
        have p7 : (2 : Int) ^ n ≤ 2 ^ 7 := by
          have : ∀ k : Nat, k ≤ 7 → (2 : Int) ^ k ≤ 2 ^ 7 := by decide
          exact this n (by omega)
        rw [Int.toNat_natCast, p4]
        refine pC1.of (by omega) (s119i q7 (by omega) (by omega)) ⟨fun y => ⟨by omega, by omega, by omega, by omega, ?_⟩, fun y => pC1.ox (by omega) (x70 sB 3) (fun v C hC => ?_)⟩
        · have y := b2i_0.mp y
          rw [if_neg (fun q => by rcases q with q | q; exact z q; exact y q)] at E
          have sC : cS u L G0 N (tNx u L (tNx u L c)) (dAft D (m : Int) (n : Int)) (pset B 21 n (por (D 8 n) (pshl 1 (m : Int)))) := by
            obtain ⟨⟨h1, h2, h3, h4, h5, hb', h7, h8, h9⟩, i1, i2, i3, i4, i5⟩ := sB
            have F : fr [21] [] B (pset B 21 n (por (D 8 n) (pshl 1 (m : Int)))) := fr.set (by decide) (by decide) _ _ _
            have V : ∀ c : Nat, c ≠ 8 → dAft D (m : Int) (n : Int) c = D c := fun c hc => by unfold dAft; rw [pset_cl _ _ hc]
            obtain ⟨r1, r2, r3, r4, r5, r6⟩ := h5
            refine ⟨⟨h1.trans (F.mono (by decide) (by decide)), h2.mv (by rw [F.c 1 (by decide)]) (F.c 2 (by decide)), by rw [F.c 1 (by decide)]; exact h3, h4, ⟨by rw [F.c 13 (by decide), V 0 (by decide)]; exact r1, by rw [F.c 13 (by decide), V 0 (by decide)]; exact r2, by rw [F.c 13 (by decide), V 0 (by decide)]; exact r3, by rw [F.c 12 (by decide), V 0 (by decide)]; exact r4, fun t ht => ?_, fun k hk => ?_⟩, bD_aft hb' (by omega) (by omega) hn2, by rw [F.c 12 (by decide)]; exact h7, by rw [F.c 12 (by decide)]; exact h8, by rw [F.c 13 (by decide)]; exact h9⟩, i1, by rw [F.c 1 (by decide)]; exact i2, by rw [F.c 1 (by decide)]; exact i3, by rw [F.c 1 (by decide)]; exact i4, by rw [F.c 1 (by decide)]; exact i5⟩
            · rw [V 0 (by decide)] at ht
              rw [F.c 14 (by decide), F.c 15 (by decide), F.c 16 (by decide), F.c 17 (by decide), V 1 (by decide), V 2 (by decide), V 3 (by decide), V 4 (by decide)]
              exact r5 t ht
            · rw [V 0 (by decide)] at hk
              rw [F.c 18 (by decide), F.c 19 (by decide), F.c 20 (by decide), V 5 (by decide), V 6 (by decide), V 7 (by decide), pset_at, if_pos rfl]
              have := r6 k hk
              refine ⟨this.1, this.2.1, this.2.2.1, ?_⟩
              unfold dAft
              rw [Int.toNat_natCast, pset_at, if_pos rfl]
              by_cases e : k = n
              · rw [if_pos e, if_pos e]
              · rw [if_neg e, if_neg e]; exact this.2.2.2
          rw [p4]
          refine pC1.ox (by omega) (x77 sC 3 (by omega)) (fun v H hH => ?_)
          rcases hH with ⟨k4, rfl, sH⟩ | ⟨k4, rfl, fH⟩
          · rw [xK_y k4] at E
            exact ⟨Or.inr rfl, cP_r E sH⟩
          · rw [xK_n k4] at E
            exact ⟨Or.inl rfl, cP_l E fH⟩
        · obtain ⟨rfl, hf⟩ := hC
          rw [if_pos (Or.inr (b2i_n0.mp y))] at E
          exact ⟨Or.inl rfl, cP_l E hf⟩
    · rw [eB] at E
      exact ⟨fun z => absurd rfl z, fun _ => ⟨Or.inl rfl, cP_l E fB⟩⟩
  · rw [eA] at E
    exact ⟨fun z => absurd rfl z, fun _ => ⟨Or.inl rfl, cP_l E fA⟩⟩
theorem x75 {d : Nat} {u : Nat → Int} {L : Nat} {G0 : pG} {N : Int} {c : Nat} {D G : pG} (h : cS u L G0 N c D G) (hd : 4 ≤ d) : ∃ v G', pRuns pMT d 75 [pR 12] Yc G (some (pI v)) G' ∧ cP u L G0 N (cMet u L c D) v G' := by
  have b0 := h.1.2.2.2.2.2.1.1
  have b4 := h.1.2.2.2.2.2.1.2.2.2.2.1
  have bd1 := dLk_bd u L (D := D) (tW u L (tNx u L c)) b0.1
  have bd2 := dLk_bd u L (D := D) (tW u L (tNx u L (tNx u L c))) b0.1
  obtain ⟨Q, E⟩ : ∃ Q, Q = cMet u L c D := ⟨_, rfl⟩
  rw [← E]
  unfold cMet at E
  refine pX1 rfl rfl (v75_0 ?_)
  refine pC1.ox (by omega) (x81 h (by omega)) (fun v A hA => ?_)
  rcases hA with ⟨k1, w1, rfl, sA⟩ | ⟨rfl, f, fA, eA⟩
  · refine ⟨fun _ => ?_, fun z => by omega⟩
    rw [xK_y k1, if_neg w1] at E
    rw [sA.2.2.2.2.1 k1]
    refine pC1.of (by omega) (x59 sA.1.2.2.2.2.1 sA.1.2.2.2.2.2.1) ?_
    rintro _ rfl
    refine pC1.ox (by omega) (x81 sA (by omega)) (fun v B hB => ?_)
    rcases hB with ⟨k2, w2, rfl, sB⟩ | ⟨rfl, f, fB, eB⟩
    · refine ⟨fun _ => ?_, fun z => by omega⟩
      rw [xK_y k2, if_neg w2] at E
      rw [sB.2.2.2.2.1 k2]
      refine pC1.of (by omega) (x59 sB.1.2.2.2.2.1 sB.1.2.2.2.2.2.1) ?_
      generalize ha : dLk u L D (tW u L (tNx u L c)) = a at *
      generalize hb : dLk u L D (tW u L (tNx u L (tNx u L c))) = b at *
      obtain ⟨m, rfl⟩ : ∃ m : Nat, a = (m : Int) := ⟨a.toNat, by omega⟩
      obtain ⟨n, rfl⟩ : ∃ n : Nat, b = (n : Int) := ⟨b.toNat, by omega⟩
      rw [Int.toNat_natCast, Int.toNat_natCast] at E
      rintro _ rfl
      refine ⟨fun z => pC1.ox (by omega) (x70 sB 3) (fun v C hC => ?_), fun z => ⟨by omega, by omega, ?_⟩⟩
      · obtain ⟨rfl, hf⟩ := hC
        rw [if_pos (Or.inl z)] at E
        exact ⟨Or.inl rfl, cP_l E hf⟩
      · obtain ⟨-, -, -, p4⟩ := sB.1.2.2.2.2.1.2.2.2.2.1 m (by omega)
        obtain ⟨-, -, -, p5⟩ := sB.1.2.2.2.2.1.2.2.2.2.1 n (by omega)
        have q := (b4 m (by omega)).2.2.2.2.2
        rw [Int.toNat_natCast, Int.toNat_natCast, p4]
        refine pC1.of (by omega) (s119i q.1 (by omega) (by omega)) ⟨fun y => ⟨by omega, by omega, by omega, by omega, by omega, by omega, by omega, by omega, ?_⟩, fun y => pC1.ox (by omega) (x70 sB 3) (fun v C hC => ?_)⟩
        · have y := b2i_0.mp y
          rw [if_neg (fun q => by rcases q with q | q; exact z q; exact y q)] at E
          rw [pset_ne (a := 17) (i := m) (j := n) _ _ (by omega), p5, p4]
          have sC : cS u L G0 N (tNx u L (tNx u L c)) (dMet D (m : Int) (n : Int)) (pset (pset B 17 m (por (D 4 m) (pshl 1 (n : Int)))) 17 n (por (D 4 n) (pshl 1 (m : Int)))) := by
            obtain ⟨⟨h1, h2, h3, h4, h5, hb', h7, h8, h9⟩, i1, i2, i3, i4, i5⟩ := sB
            have F : fr [17] [] B (pset (pset B 17 m (por (D 4 m) (pshl 1 (n : Int)))) 17 n (por (D 4 n) (pshl 1 (m : Int)))) := (fr.set (by decide) (by decide) _ _ _).trans (fr.set (by decide) (by decide) _ _ _)
            have V : ∀ c : Nat, c ≠ 4 → dMet D (m : Int) (n : Int) c = D c := fun c hc => by unfold dMet; rw [pset_cl _ _ hc, pset_cl _ _ hc]
            obtain ⟨r1, r2, r3, r4, r5, r6⟩ := h5
            refine ⟨⟨h1.trans (F.mono (by decide) (by decide)), h2.mv (by rw [F.c 1 (by decide)]) (F.c 2 (by decide)), by rw [F.c 1 (by decide)]; exact h3, h4, ⟨by rw [F.c 13 (by decide), V 0 (by decide)]; exact r1, by rw [F.c 13 (by decide), V 0 (by decide)]; exact r2, by rw [F.c 13 (by decide), V 0 (by decide)]; exact r3, by rw [F.c 12 (by decide), V 0 (by decide)]; exact r4, fun t ht => ?_, fun k hk => ?_⟩, bD_met hb' (by omega) (by omega) (by omega) (by omega) z, by rw [F.c 12 (by decide)]; exact h7, by rw [F.c 12 (by decide)]; exact h8, by rw [F.c 13 (by decide)]; exact h9⟩, i1, by rw [F.c 1 (by decide)]; exact i2, by rw [F.c 1 (by decide)]; exact i3, by rw [F.c 1 (by decide)]; exact i4, by rw [F.c 1 (by decide)]; exact i5⟩
            · rw [V 0 (by decide)] at ht
              rw [F.c 14 (by decide), F.c 15 (by decide), F.c 16 (by decide), V 1 (by decide), V 2 (by decide), V 3 (by decide)]
              have := r5 t ht
              refine ⟨this.1, this.2.1, this.2.2.1, ?_⟩
              unfold dMet
              rw [Int.toNat_natCast, Int.toNat_natCast, pset_ne (a := 4) (i := m) (j := n) _ _ (by omega), pset_at, if_pos rfl, pset_at, if_pos rfl, pset_at, if_pos rfl, pset_at, if_pos rfl, this.2.2.2]
            · rw [V 0 (by decide)] at hk
              rw [F.c 18 (by decide), F.c 19 (by decide), F.c 20 (by decide), F.c 21 (by decide), V 5 (by decide), V 6 (by decide), V 7 (by decide), V 8 (by decide)]
              exact r6 k hk
          refine pC1.ox (by omega) (x77 sC 3 (by omega)) (fun v H hH => ?_)
          rcases hH with ⟨k4, rfl, sH⟩ | ⟨k4, rfl, fH⟩
          · rw [xK_y k4] at E
            exact ⟨Or.inr rfl, cP_r E sH⟩
          · rw [xK_n k4] at E
            exact ⟨Or.inl rfl, cP_l E fH⟩
        · obtain ⟨rfl, hf⟩ := hC
          rw [if_pos (Or.inr (b2i_n0.mp y))] at E
          exact ⟨Or.inl rfl, cP_l E hf⟩
    · rw [eB] at E
      exact ⟨fun z => absurd rfl z, fun _ => ⟨Or.inl rfl, cP_l E fB⟩⟩
  · rw [eA] at E
    exact ⟨fun z => absurd rfl z, fun _ => ⟨Or.inl rfl, cP_l E fA⟩⟩
theorem x76 {d : Nat} {u : Nat → Int} {L : Nat} {G0 : pG} {N : Int} {c : Nat} {D G : pG} (h : cS u L G0 N c D G) (hd : 4 ≤ d) : ∃ v G', pRuns pMT d 76 [pR 12] Yc G (some (pI v)) G' ∧ cP u L G0 N (cIdl u L c D) v G' := by
  refine pX1 rfl rfl (v76_0 ?_)
  rw [h.1.2.2.2.2.1.2.2.2.1]
  refine ⟨fun z => ⟨Or.inr rfl, ?_⟩, fun z => pC1.ox (by omega) (x70 h 3) (fun v A hA => ?_)⟩
  · have E := show cIdl u L c D = _ from if_pos z
    have V : ∀ c : Nat, c ≠ 0 → pset D 0 3 1 c = D c := fun c hc => pset_cl _ _ hc
    have V0 : ∀ j : Nat, pset D 0 3 1 0 j = if j = 3 then 1 else D 0 j := fun j => by rw [pset_at, if_pos rfl]
    have s0 : cS u L G0 N c (pset D 0 3 1) (pset G 12 2 1) := by
      obtain ⟨⟨h1, h2, h3, h4, h5, hb', h7, h8, h9⟩, i1, i2, i3, i4, i5⟩ := h
      have F : fr [12] [] G (pset G 12 2 1) := fr.set (by decide) (by decide) _ _ _
      obtain ⟨r1, r2, r3, r4, r5, r6⟩ := h5
      obtain ⟨t1, t2, t3, t4, t5, t6⟩ := hb'
      refine ⟨⟨h1.trans (F.mono (by decide) (by decide)), h2.mv (by rw [F.c 1 (by decide)]) (F.c 2 (by decide)), by rw [F.c 1 (by decide)]; exact h3, h4, ⟨by rw [F.c 13 (by decide)]; exact r1, by rw [F.c 13 (by decide)]; exact r2, by rw [F.c 13 (by decide)]; exact r3, by rw [pset_eq, V0]; rfl, fun t ht => ?_, fun k hk => ?_⟩, ⟨t1, t2, t3, Or.inr (V0 3), t5, t6⟩, by rw [pset_ne _ _ (by decide)]; exact h7, by rw [pset_ne _ _ (by decide)]; exact h8, by rw [F.c 13 (by decide)]; exact h9⟩, i1, by rw [F.c 1 (by decide)]; exact i2, by rw [F.c 1 (by decide)]; exact i3, by rw [F.c 1 (by decide)]; exact i4, by rw [F.c 1 (by decide)]; exact i5⟩
      · rw [F.c 14 (by decide), F.c 15 (by decide), F.c 16 (by decide), F.c 17 (by decide)]
        exact r5 t ht
      · rw [F.c 18 (by decide), F.c 19 (by decide), F.c 20 (by decide), F.c 21 (by decide)]
        exact r6 k hk
    refine pC1.ox (by omega) (x79 s0 0 40 (by omega)) (fun v A hA => ?_)
    rcases hA with ⟨k1, w1, rfl, sA⟩ | ⟨rfl, f, fA, eA⟩
    · refine ⟨fun _ => ?_, fun z => by omega⟩
      rw [xN_y k1 w1] at E
      rw [sA.2.2.2.2.2 k1, w32_id (by omega) (by omega)]
      have s1 : cS u L G0 N (tNx u L c) (dIdl D (tV u L (tNx u L c))) (pset A 13 3 (tV u L (tNx u L c))) := by
        obtain ⟨⟨h1, h2, h3, h4, h5, hb', h7, h8, h9⟩, i1, i2, i3, i4, i5⟩ := sA
        have F : fr [13] [] A (pset A 13 3 (tV u L (tNx u L c))) := fr.set (by decide) (by decide) _ _ _
        obtain ⟨r1, r2, r3, r4, r5, r6⟩ := h5
        obtain ⟨t1, t2, t3, t4, t5, t6⟩ := hb'
        have W0 : ∀ j : Nat, dIdl D (tV u L (tNx u L c)) 0 j = if j = 2 then tV u L (tNx u L c) else pset D 0 3 1 0 j := fun j => by unfold dIdl; rw [pset_at, if_pos rfl]
        refine ⟨⟨h1.trans (F.mono (by decide) (by decide)), h2.mv (by rw [F.c 1 (by decide)]) (F.c 2 (by decide)), by rw [F.c 1 (by decide)]; exact h3, h4, ⟨by rw [pset_ne _ _ (by decide)]; exact r1, by rw [pset_ne _ _ (by decide)]; exact r2, by rw [pset_eq, W0]; rfl, by rw [F.c 12 (by decide)]; exact r4, fun t ht => ?_, fun k hk => ?_⟩, ⟨t1, t2, by rw [W0]; exact w1, t4, t5, t6⟩, by rw [F.c 12 (by decide)]; exact h7, by rw [F.c 12 (by decide)]; exact h8, by rw [pset_ne _ _ (by decide)]; exact h9⟩, i1, by rw [F.c 1 (by decide)]; exact i2, by rw [F.c 1 (by decide)]; exact i3, by rw [F.c 1 (by decide)]; exact i4, by rw [F.c 1 (by decide)]; exact i5⟩
        · rw [F.c 14 (by decide), F.c 15 (by decide), F.c 16 (by decide), F.c 17 (by decide)]
          exact r5 t ht
        · rw [F.c 18 (by decide), F.c 19 (by decide), F.c 20 (by decide), F.c 21 (by decide)]
          exact r6 k hk
      refine pC1.ox (by omega) (x77 s1 3 (by omega)) (fun v H hH => ?_)
      rcases hH with ⟨k4, rfl, sH⟩ | ⟨k4, rfl, fH⟩
      · rw [xK_y k4] at E
        exact ⟨Or.inr rfl, cP_r E sH⟩
      · rw [xK_n k4] at E
        exact ⟨Or.inl rfl, cP_l E fH⟩
    · rw [eA] at E
      exact ⟨fun z => absurd rfl z, fun _ => ⟨Or.inl rfl, cP_l E fA⟩⟩
  · obtain ⟨rfl, hf⟩ := hA
    exact ⟨Or.inl rfl, cP_l (if_neg z) hf⟩
theorem x71 {d : Nat} {u : Nat → Int} {L : Nat} {G0 : pG} {N : Int} {c : Nat} {D G : pG} (h : cS u L G0 N c D G) (hd : 5 ≤ d) : ∃ v G', pRuns pMT d 71 [pR 12] Yc G (some (pI v)) G' ∧ cP u L G0 N (cCl u L c D) v G' := by
  obtain ⟨Q, E⟩ : ∃ Q, Q = cCl u L c D := ⟨_, rfl⟩
  rw [← E]
  unfold cCl at E
  have ref : Q = Sum.inl (1, (tPl u L c : Int)) → pC1 pMT d 70 [pR 12, pI 1] Yc G (fun r G_2 => ((r = 0 ∨ r = 1) ∧ ∃ v : Int, some (pI r) = some (pI v) ∧ cP u L G0 N Q v G_2)) := fun e => pC1.ox (by omega) (x70 h 1) (fun v A hA => by
    obtain ⟨rfl, hf⟩ := hA
    exact ⟨Or.inl rfl, cP_l e hf⟩)
  have sub : ∀ (m : Nat) (q : pRs), (∃ v G', pRuns pMT (d - 1) m [pR 12] Yc G (some (pI v)) G' ∧ cP u L G0 N q v G') → Q = q → pC1 pMT d m [pR 12] Yc G (fun r G_2 => ((r = 0 ∨ r = 1) ∧ ∃ v : Int, some (pI r) = some (pI v) ∧ cP u L G0 N Q v G_2)) := by
    intro m q hx e
    refine pC1.ox (by omega) hx (fun v A hA => ⟨?_, v, rfl, by rw [e]; exact hA⟩)
    unfold cP at hA
    split at hA
    · exact Or.inl hA.1
    · exact Or.inr hA.1
  refine pX1 rfl rfl (v71_0 ?_)
  rw [h.2.2.2.1]
  refine ⟨fun k1 => ?_, fun k1 => ref (by rw [E, if_neg k1])⟩
  rw [if_pos k1] at E
  rw [h.2.2.2.2.1 k1]
  simp only [cmp_eq]
  refine ⟨fun z => ?_, fun z => sub 72 _ (x72 h (by omega)) (by rw [E, if_pos z])⟩
  rw [if_neg z] at E
  refine ⟨fun z => ?_, fun z => sub 73 _ (x73 h (by omega)) (by rw [E, if_pos z])⟩
  rw [if_neg z] at E
  refine ⟨fun z => ?_, fun z => sub 74 _ (x74 h (by omega)) (by rw [E, if_pos z])⟩
  rw [if_neg z] at E
  refine ⟨fun z => ?_, fun z => sub 75 _ (x75 h (by omega)) (by rw [E, if_pos z])⟩
  rw [if_neg z] at E
  refine ⟨fun z => ?_, fun z => sub 76 _ (x76 h (by omega)) (by rw [E, if_pos z])⟩
  rw [if_neg z] at E
  exact ref E
/-- nothing read yet -/
def dNil : pG := fun c j => if c = 0 ∧ j = 2 then 10 else 0
theorem bD_nil (u : Nat → Int) (L : Nat) : bD u L dNil := by
  refine ⟨⟨by decide, by decide⟩, ⟨by decide, by decide⟩, ⟨by decide, by decide⟩, Or.inl (by decide), fun t ht => ?_, fun k hk => ?_⟩
  · have : dNil 0 0 = 0 := by decide
    omega
  · have : dNil 0 1 = 0 := by decide
    omega
/-- a clause leads on -/
def eOk (u : Nat → Int) (L c : Nat) (q : pRs) : Prop := ∀ e D', q = Sum.inr (e, D') → c < tNx u L e
theorem eOk_l {u : Nat → Int} {L c : Nat} (f : Int × Int) : eOk u L c (Sum.inl f) := fun e D' h => by cases h
theorem eOk_r {u : Nat → Int} {L c e : Nat} {D : pG} (h : c < tNx u L e) : eOk u L c (Sum.inr (e, D)) := fun e' D' q => by
  have := congrArg (fun s : pRs => match s with | Sum.inl _ => 0 | Sum.inr (x, _) => x) q
  have this : e = e' := this
  rw [← this]
  exact h
theorem eOk_i {u : Nat → Int} {L c : Nat} {p : Prop} [Decidable p] {a b : pRs} (h1 : eOk u L c a) (h2 : eOk u L c b) : eOk u L c (if p then a else b) := by
  split
  · exact h1
  · exact h2
theorem eOk_K {u : Nat → Int} {L c k : Nat} {x : Int} {a : pRs} (h1 : eOk u L c a) : eOk u L c (xK u L k x a) := eOk_i h1 (eOk_l _)
theorem eOk_N {u : Nat → Int} {L c k : Nat} {x y : Int} {a : pRs} (h1 : eOk u L c a) : eOk u L c (xN u L k x y a) := eOk_i (eOk_i h1 (eOk_l _)) (eOk_l _)
theorem cCl_adv {u : Nat → Int} {L c e : Nat} {D D' : pG} (hc : c ≤ L) (hk : tKd u L c ≠ 0) (h : cCl u L c D = Sum.inr (e, D')) : c < tNx u L e := by
  have g0 := tNx_gt hc hk
  have l0 := tNx_le (u := u) hc
  have l1 := tNx_le (u := u) l0.2
  have l2 := tNx_le (u := u) l1.2
  have l3 := tNx_le (u := u) l2.2
  have l4 := tNx_le (u := u) l3.2
  have r2 : ∀ D : pG, eOk u L c (Sum.inr (tNx u L (tNx u L c), D)) := fun D => eOk_r (by omega)
  have r3 : ∀ D : pG, eOk u L c (Sum.inr (tNx u L (tNx u L (tNx u L c)), D)) := fun D => eOk_r (by omega)
  have r4 : ∀ D : pG, eOk u L c (Sum.inr (tNx u L (tNx u L (tNx u L (tNx u L c))), D)) := fun D => eOk_r (by omega)
  have key : eOk u L c (cCl u L c D) := by
    refine eOk_i (eOk_i ?_ (eOk_i ?_ (eOk_i ?_ (eOk_i ?_ (eOk_i ?_ (eOk_l _)))))) (eOk_l _)
    · exact eOk_i (eOk_K (eOk_i (eOk_N (eOk_N (eOk_K (r4 _)))) (eOk_l _))) (eOk_l _)
    · exact eOk_i (eOk_K (eOk_i (eOk_l _) (eOk_N (eOk_i (eOk_i (eOk_K (r4 _)) (eOk_l _)) (eOk_K (r3 _)))))) (eOk_l _)
    · exact eOk_N (eOk_N (eOk_i (eOk_l _) (eOk_K (r3 _))))
    · exact eOk_K (eOk_i (eOk_l _) (eOk_K (eOk_i (eOk_l _) (eOk_i (eOk_l _) (eOk_K (r3 _))))))
    · exact eOk_i (eOk_N (eOk_K (r2 _))) (eOk_l _)
  exact key e D' h
def tPost (u : Nat → Int) (L : Nat) (q : pRs) (v : Int) (g : pG) : Prop := match q with
    | Sum.inl f => v = 0 ∧ g 12 3 = f.1 ∧ g 12 4 = f.2
    | Sum.inr (n, D) => v = 1 ∧ g 12 3 = 0 ∧ g 12 4 = -1 ∧ g 13 0 = (n : Int) ∧ cDr u L D g ∧ bD u L D
theorem x69 {d : Nat} {u : Nat → Int} {L : Nat} {G : pG} (h : tpC G u L) (hd : 6 ≤ d) : ∃ v G', pRuns pMT d 69 [pR 12] Yc G (some (pI v)) G' ∧ (fr cW [] G G' ∧ tPost u L (prs u L 801 0 0 dNil) v G') := by
  obtain ⟨Q, E⟩ : ∃ Q, Q = prs u L 801 0 0 dNil := ⟨_, rfl⟩
  rw [← E]
  have hL := h.2.1
  refine pX1 rfl rfl (v69_0 ⟨Or.inl rfl, ?_⟩)
  refine pC0.of (by omega) (pRuns.of rfl rfl (v57_0 ⟨rfl, rfl⟩)) (pC0.of (by omega) (pRuns.of rfl rfl (v100_0 ⟨rfl, rfl⟩)) ?_)
  suffices H : ∀ (m n c : Nat) (D g : pG), m + n = 801 → n ≤ c → Q = prs u L m n c D → cS0 u L G (n : Int) c D g → pEnds pMT d 69 Yc (fun r g => ∃ v : Int, r = some (pI v) ∧ (fr cW [] G g ∧ tPost u L Q v g)) 31 [pR 12, pI (n : Int)] [] g by
    rintro _ rfl
    refine H 801 0 0 dNil _ rfl (Nat.le_refl _) E ⟨?_, ?_, ?_, Nat.zero_le _, ⟨?_, ?_, ?_, ?_, fun t ht => ?_, fun k hk => ?_⟩, bD_nil u L, ?_, ?_, ?_⟩
    · exact (fr.set (by decide) (by decide) _ _ _).trans ((fr.set (by decide) (by decide) _ _ _).trans ((fr.set (by decide) (by decide) _ _ _).trans ((fr.set (by decide) (by decide) _ _ _).trans ((fr.set (by decide) (by decide) _ _ _).trans ((fr.set (by decide) (by decide) _ _ _).trans ((fr.set (by decide) (by decide) _ _ _).trans (fr.set (by decide) (by decide) _ _ _)))))))
    · exact h.mv (by simp [pset_at]) (by simp [pset_cl])
    · simp [pset_at]
    · simp [pset_at, dNil]
    · simp [pset_at, dNil]
    · simp [pset_at, dNil]
    · simp [pset_at, dNil]
    · have : dNil 0 0 = 0 := by decide
      omega
    · have : dNil 0 1 = 0 := by decide
      omega
    · simp [pset_at]
    · simp [pset_at]
    · simp [pset_at]
  intro m
  induction m with
  | zero =>
    intro n c D g hn hc hE hS
    have := hS.2.2.2.1
    omega
  | succ m ih =>
    intro n c D g hn hc hE hS
    have hcL := hS.2.2.2.1
    refine v69_31 ⟨fun z => by omega, fun _ => pC0.ox (by omega) (x101 hS (by omega)) (fun A sA => ?_)⟩
    rw [sA.2.2.2.1]
    have e1 : prs u L (m + 1) n c D = if tKd u L c = 0 then Sum.inr (n, D) else (match cCl u L c D with
      | Sum.inl f => Sum.inl f
      | Sum.inr (e, D') => prs u L m (n + 1) (tNx u L e) D') := rfl
    refine ⟨fun z => pC1.ox (by omega) (x71 sA (by omega)) (fun v B hB => ?_), fun z => ⟨Or.inr rfl, 1, rfl, sA.1.1, ?_⟩⟩
    · rw [e1, if_neg z] at hE
      cases hC : cCl u L c D with
      | inl f =>
        rw [hC] at hE hB
        obtain ⟨rfl, f1, f2, f3⟩ := hB
        refine ⟨fun y => absurd rfl y, fun _ => ⟨Or.inl rfl, 0, rfl, f1, ?_⟩⟩
        rw [hE]
        exact ⟨rfl, f2, f3⟩
      | inr p =>
        obtain ⟨e, D'⟩ := p
        rw [hC] at hE hB
        obtain ⟨rfl, sB⟩ := hB
        refine ⟨fun _ => ?_, fun y => by omega⟩
        have adv := cCl_adv hcL z hC
        obtain ⟨⟨h1, h2, h3, h4, h5, hb', h7, h8, h9⟩, -⟩ := sB
        have F : fr [13] [] B (pset B 13 0 (w32 (B 13 0 + 1))) := fr.set (by decide) (by decide) _ _ _
        rw [w32_id (x := (n : Int) + 1) (by omega) (by omega)]
        rintro _ rfl
        refine ih (n + 1) (tNx u L e) D' _ (by omega) (by omega) hE ⟨h1.trans (F.mono (by decide) (by decide)), h2.mv (by rw [F.c 1 (by decide)]) (F.c 2 (by decide)), by rw [F.c 1 (by decide)]; exact h3, h4, cDr_c h5 (fun c hc => F.1 c (by revert hc; revert c; decide) (by revert hc; revert c; decide)) (by rw [pset_ne _ _ (by decide)]) (by rw [pset_ne _ _ (by decide)]) (by rw [pset_ne _ _ (by decide)]) (by rw [F.c 12 (by decide)]), hb', by rw [F.c 12 (by decide)]; exact h7, by rw [F.c 12 (by decide)]; exact h8, ?_⟩
        rw [pset_eq, h9, w32_id (by omega) (by omega)]
        rfl
    · rw [e1, if_pos z] at hE
      obtain ⟨⟨h1, h2, h3, h4, h5, hb', h7, h8, h9⟩, -⟩ := sA
      rw [hE]
      exact ⟨rfl, h7, h8, h9, h5, hb'⟩
