/-! the reference's reader -/
def rW9 : List Nat := [111, 119, 120, 121, 122, 123, 124, 125]
def rF9 : List Nat := [3, 4, 5, 6, 7, 8, 9, 14, 15, 16, 17, 18]
def rDr (u : Nat → Int) (L : Nat) (D G : pG) : Prop := G 109 14 = D 0 0 ∧ G 109 15 = D 0 1 ∧ G 109 16 = D 0 2 ∧ G 109 18 = D 0 3 ∧ (∀ t : Nat, (t : Int) < D 0 0 → G 111 t = tX u L (D 1 t).toNat ∧ G 119 t = D 2 t ∧ G 120 t = D 3 t ∧ G 121 t = D 4 t) ∧ (∀ k : Nat, (k : Int) < D 0 1 → G 122 k = D 5 k ∧ G 123 k = D 6 k ∧ G 124 k = D 7 k ∧ G 125 k = D 8 k)
def rS (u : Nat → Int) (L : Nat) (G0 : pG) (N : Int) (c : Nat) (D G : pG) : Prop := fr rW9 rF9 G0 G ∧ tpR G u L ∧ G 109 4 = (tNx u L c : Int) ∧ c ≤ L ∧ rDr u L D G ∧ bD u L D ∧ G 109 8 = 0 ∧ G 109 9 = -1 ∧ G 109 17 = N ∧ G 109 3 = (tPl u L c : Int) ∧ G 109 5 = tKd u L c ∧ (tKd u L c = 2 → G 109 6 = tV u L c)
def rFl (G0 : pG) (f : Int × Int) (G : pG) : Prop := fr rW9 rF9 G0 G ∧ G 109 8 = f.1 ∧ G 109 9 = f.2
def rP (u : Nat → Int) (L : Nat) (G0 : pG) (N : Int) (q : pRs) (v : Int) (g : pG) : Prop := (v = 0 ∧ ∃ f : Int × Int, q = Sum.inl f ∧ rFl G0 f g) ∨ (v = 1 ∧ ∃ e D', q = xK u L e 3 (Sum.inr (e, D')) ∧ rS u L G0 N e D' g)
theorem rP_l {u : Nat → Int} {L : Nat} {G0 : pG} {N : Int} {q : pRs} {f : Int × Int} {g : pG} (e : q = Sum.inl f) (h : rFl G0 f g) : ∃ v : Int, (some (pI 0) : Option pV) = some (pI v) ∧ rP u L G0 N q v g := ⟨0, rfl, Or.inl ⟨rfl, f, e, h⟩⟩
theorem rP_r {u : Nat → Int} {L : Nat} {G0 : pG} {N : Int} {q : pRs} {e : Nat} {D' g : pG} (hq : q = xK u L e 3 (Sum.inr (e, D'))) (h : rS u L G0 N e D' g) : ∃ v : Int, (some (pI 1) : Option pV) = some (pI v) ∧ rP u L G0 N q v g := ⟨1, rfl, Or.inr ⟨rfl, e, D', hq, h⟩⟩
theorem rDr_c {u : Nat → Int} {L : Nat} {D G G' : pG} (h : rDr u L D G) (hc : ∀ c ∈ rW9, G' c = G c) (hf : ∀ j ∈ [14, 15, 16, 18], G' 109 j = G 109 j) : rDr u L D G' := by
  unfold rDr at *
  rw [hc 111 (by decide), hc 119 (by decide), hc 120 (by decide), hc 121 (by decide), hc 122 (by decide), hc 123 (by decide), hc 124 (by decide), hc 125 (by decide), hf 14 (by decide), hf 15 (by decide), hf 16 (by decide), hf 18 (by decide)]
  exact h
/-- rows behind the last tool and step may change -/
theorem rDr_x {u : Nat → Int} {L : Nat} {D G G' : pG} (h : rDr u L D G) (hf : ∀ j ∈ [14, 15, 16, 18], G' 109 j = G 109 j) (ht : ∀ c ∈ [111, 119, 120, 121], ∀ t : Nat, (t : Int) < D 0 0 → G' c t = G c t) (hs : ∀ c ∈ [122, 123, 124, 125], ∀ k : Nat, (k : Int) < D 0 1 → G' c k = G c k) : rDr u L D G' := by
  obtain ⟨h1, h2, h3, h4, h5, h6⟩ := h
  refine ⟨by rw [hf 14 (by decide)]; exact h1, by rw [hf 15 (by decide)]; exact h2, by rw [hf 16 (by decide)]; exact h3, by rw [hf 18 (by decide)]; exact h4, fun t q => ?_, fun k q => ?_⟩
  · rw [ht 111 (by decide) t q, ht 119 (by decide) t q, ht 120 (by decide) t q, ht 121 (by decide) t q]
    exact h5 t q
  · rw [hs 122 (by decide) k q, hs 123 (by decide) k q, hs 124 (by decide) k q, hs 125 (by decide) k q]
    exact h6 k q
theorem y171 {d : Nat} {u : Nat → Int} {L : Nat} {G0 : pG} {N : Int} {c : Nat} {D G : pG} (h : rS u L G0 N c D G) (hd : 1 ≤ d) : ∃ G', pRuns pMT d 171 [pR 109] Yc G none G' ∧ (rS u L G0 N (tNx u L c) D G' ∧ fr [] [3, 4, 5, 6] G G') := by
  obtain ⟨h1, h2, h3, h4, h5, h6, h7, h8, h9, -, -, -⟩ := h
  have l := (tNx_le (u := u) h4).2
  obtain ⟨G', r1, k1, k2, k3, k4, k5⟩ := s171 h2 l h3 hd
  exact ⟨G', r1, ⟨h1.trans (k1.mono (by decide) (by decide)), h2.mv (k1.f 2 (by decide)) (k1.c 110 (by decide)), k2, l, rDr_c h5 (fun c hc => k1.1 c (by simp) (by revert hc; revert c; decide)) (fun j hj => k1.2 j (by revert hj; revert j; decide)), h6, by rw [k1.f 8 (by decide)]; exact h7, by rw [k1.f 9 (by decide)]; exact h8, by rw [k1.f 17 (by decide)]; exact h9, k3, k4, k5⟩, k1⟩
theorem y167 {d : Nat} {u : Nat → Int} {L : Nat} {G0 : pG} {N : Int} {c : Nat} {D G : pG} (h : rS u L G0 N c D G) (k : Int) : ∃ v G', pRuns pMT d 167 [pR 109, pI k] Yc G (some (pI v)) G' ∧ (v = 0 ∧ rFl G0 (k, (tPl u L c : Int)) G') := by
  refine ⟨0, _, pRuns.of rfl rfl (v167_0 ⟨Or.inl rfl, rfl, rfl⟩), rfl, h.1.trans ((fr.setF (by decide) _ _).trans (fr.setF (by decide) _ _)), ?_, ?_⟩
  · rw [pset_ne _ _ (by decide), pset_eq]
  · rw [pset_eq, pset_ne _ _ (by decide)]
    exact h.2.2.2.2.2.2.2.2.2.1
theorem y173 {d : Nat} {u : Nat → Int} {L : Nat} {G0 : pG} {N : Int} {c : Nat} {D G : pG} (h : rS u L G0 N c D G) (lo hi : Int) (hd : 1 ≤ d) : ∃ v G', pRuns pMT d 173 [pR 109, pI lo, pI hi] Yc G (some (pI v)) G' ∧ ((tKd u L c = 2 ∧ (lo ≤ tV u L c ∧ tV u L c ≤ hi) ∧ v = 1 ∧ rS u L G0 N c D G' ∧ G' 109 7 = tV u L c ∧ fr [] [7] G G') ∨ (v = 0 ∧ ∃ f : Int × Int, rFl G0 f G' ∧ ∀ q : pRs, xN u L c lo hi q = Sum.inl f)) := by
  have hh := h
  obtain ⟨h1, h2, h3, h4, h5, h6, h7, h8, h9, h10, h11, h12⟩ := h
  refine pX1 rfl rfl (v173_0 ?_)
  rw [h11]
  refine ⟨fun k2 => ?_, fun k2 => pC1.ox hd (y167 hh 1) (fun v A hA => ?_)⟩
  · rw [h12 k2]
    refine pC1.of hd s166 ⟨fun z => ⟨Or.inr rfl, 1, rfl, Or.inl ⟨k2, b2i_n0.mp z, rfl, ?_, by rw [pset_eq]; exact h12 k2, fr.setF (by decide) _ _⟩⟩, fun z => pC1.ox hd (y167 hh 2) (fun v A hA => ?_)⟩
    · have F : fr [] [7] G (pset G 109 7 (G 109 6)) := fr.setF (by decide) _ _
      exact ⟨h1.trans (F.mono (by decide) (by decide)), h2.mv (F.f 2 (by decide)) (F.c 110 (by decide)), by rw [F.f 4 (by decide)]; exact h3, h4, rDr_c h5 (fun c hc => F.1 c (by simp) (by revert hc; revert c; decide)) (fun j hj => F.2 j (by revert hj; revert j; decide)), h6, by rw [F.f 8 (by decide)]; exact h7, by rw [F.f 9 (by decide)]; exact h8, by rw [F.f 17 (by decide)]; exact h9, by rw [F.f 3 (by decide)]; exact h10, by rw [F.f 5 (by decide)]; exact h11, by rw [F.f 6 (by decide)]; exact h12⟩
    · obtain ⟨rfl, hf⟩ := hA
      refine ⟨Or.inl rfl, 0, rfl, Or.inr ⟨rfl, _, hf, fun q => ?_⟩⟩
      unfold xN
      rw [if_pos k2, if_neg (b2i_0.mp z)]
  · obtain ⟨rfl, hf⟩ := hA
    refine ⟨Or.inl rfl, 0, rfl, Or.inr ⟨rfl, _, hf, fun q => ?_⟩⟩
    unfold xN
    rw [if_neg k2]
theorem y174 {d : Nat} {u : Nat → Int} {L : Nat} {G0 : pG} {N : Int} {c : Nat} {D G : pG} (h : rS u L G0 N c D G) (lo hi : Int) (hd : 2 ≤ d) : ∃ v G', pRuns pMT d 174 [pR 109, pI lo, pI hi] Yc G (some (pI v)) G' ∧ ((tKd u L c = 2 ∧ (lo ≤ tV u L c ∧ tV u L c ≤ hi) ∧ v = 1 ∧ rS u L G0 N (tNx u L c) D G' ∧ G' 109 7 = tV u L c ∧ fr [] [3, 4, 5, 6, 7] G G') ∨ (v = 0 ∧ ∃ f : Int × Int, rFl G0 f G' ∧ ∀ q : pRs, xN u L c lo hi q = Sum.inl f)) := by
  refine pX1 rfl rfl (v174_0 (pC1.ox (by omega) (y173 h lo hi (by omega)) (fun v A hA => ?_)))
  rcases hA with ⟨k1, k2, rfl, sA, a7, fA⟩ | ⟨rfl, f, hf, e⟩
  · refine ⟨fun _ => pC0.ox (by omega) (y171 sA (by omega)) (fun B hB => ?_), fun z => by omega⟩
    exact ⟨Or.inr rfl, 1, rfl, Or.inl ⟨k1, k2, rfl, hB.1, by rw [hB.2.f 7 (by decide)]; exact a7, (fA.mono (by decide) (by decide)).trans (hB.2.mono (by decide) (by decide))⟩⟩
  · exact ⟨fun z => absurd rfl z, fun _ => ⟨Or.inl rfl, 0, rfl, Or.inr ⟨rfl, f, hf, e⟩⟩⟩
theorem y176 {d : Nat} {u : Nat → Int} {L : Nat} {G0 : pG} {N : Int} {c : Nat} {D G : pG} (h : rS u L G0 N c D G) (hk : tKd u L c = 1) (hd : 1 ≤ d) : pRuns pMT d 176 [pR 109] Yc G (some (pL (tX u L c))) G := by
  obtain ⟨h1, h2, h3, h4, h5, h6, h7, h8, h9, h10, h11, h12⟩ := h
  obtain ⟨t1, t2, t3⟩ := tKd1 hk
  have b := tNx_bd (u := u) h4
  have hL := h2.2.1
  refine pRuns.of rfl rfl (v176_0 ?_)
  rw [h10]
  suffices H : ∀ (m n : Nat), n + m = tNx u L c - tPl u L c → pEnds pMT d 176 Yc (fun r' g => r' = some (pL (tX u L c)) ∧ g = G) 7 [pR 109, pL (xV u (tPl u L c) n), pU, pI ((tPl u L c + n : Nat) : Int)] [] G by
    rintro _ rfl _ rfl
    exact H (tNx u L c - tPl u L c) 0 (by omega)
  intro m
  induction m with
  | zero =>
    intro n hn
    refine v176_7 ⟨fun _ => ⟨?_, rfl⟩, fun z => by rw [h3] at z; omega⟩
    unfold tX
    rw [show tNx u L c - tPl u L c = n by omega]
  | succ m ih =>
    intro n hn
    have l := t3 n (by omega)
    have xb := xV_bd (u := u) (a := tPl u L c) n (fun i hi => t3 i (by omega))
    have p8 : ∀ n : Nat, n ≤ 8 → (32 : Int) ^ n ≤ 2 ^ 40 := by decide
    have p := p8 n (by omega)
    refine v176_7 ⟨fun z => by rw [h3] at z; omega, fun _ => pC1.of hd (s168u h2) ?_⟩
    rw [if_pos (by omega), w32_id (x := u (tPl u L c + n) - 96) (by omega) (by omega), pl5 xb.1 (by omega) (by omega) (by omega), w32_id (by omega) (by omega)]
    rintro _ rfl _ rfl
    exact ih (n + 1) (by omega)
theorem y177 {d : Nat} {u : Nat → Int} {L : Nat} {G0 : pG} {N : Int} {c : Nat} {D G : pG} (h : rS u L G0 N c D G) (hk : tKd u L c = 1) (hd : 2 ≤ d) : pRuns pMT d 177 [pR 109] Yc G (some (pI (dLk u L D (tW u L c)))) G := by
  have hD := h.2.2.2.2.1
  have hb := h.2.2.2.2.2.1
  have h0 := hb.1
  refine pRuns.of rfl rfl (v177_0 ?_)
  suffices H : ∀ (m t : Nat), t + m = (D 0 0).toNat → dLk u L D (tW u L c) = dLp u L D (tW u L c) m t → pEnds pMT d 177 Yc (fun r' g => r' = some (pI (dLk u L D (tW u L c))) ∧ g = G) 2 [pR 109, pI (t : Int)] [] G by
    rintro _ rfl
    exact H (D 0 0).toNat 0 (by omega) rfl
  intro m
  induction m with
  | zero =>
    intro t ht he
    exact v177_2 ⟨fun _ => rI he.symm rfl, fun z => by rw [hD.1] at z; omega⟩
  | succ m ih =>
    intro t ht he
    have e : dLp u L D (tW u L c) (m + 1) t = if tW u L (D 1 t).toNat = tW u L c then (t : Int) else dLp u L D (tW u L c) m (t + 1) := rfl
    have ht2 : (t : Int) < D 0 0 := by omega
    have w := tX_W (hb.2.2.2.2.1 t ht2).1.2.2 hk
    refine v177_2 ⟨fun z => by rw [hD.1] at z; omega, fun _ => ⟨by omega, by omega, pC2.of (by omega) (y176 h hk (by omega)) ?_⟩⟩
    rw [Int.toNat_natCast, (hD.2.2.2.2.1 t ht2).1, cmp_eq, w32_id (by omega) (by omega)]
    refine ⟨fun z => ?_, fun z => rI ?_ rfl⟩
    · rintro _ rfl
      exact ih (t + 1) (by omega) (by rw [he, e, if_neg (fun q => z (w.mp q))])
    · rw [he, e, if_pos (w.mpr z)]
/-- the name of a tool that is known -/
theorem y179 {d : Nat} {u : Nat → Int} {L : Nat} {G0 : pG} {N : Int} {c : Nat} {D G : pG} (h : rS u L G0 N c D G) (hd : 3 ≤ d) : ∃ v G', pRuns pMT d 179 [pR 109] Yc G (some (pI v)) G' ∧ ((tKd u L c = 1 ∧ dLk u L D (tW u L c) ≠ -1 ∧ v = 1 ∧ rS u L G0 N c D G' ∧ G' 109 7 = dLk u L D (tW u L c) ∧ fr [] [7] G G') ∨ (v = 0 ∧ ∃ f : Int × Int, rFl G0 f G' ∧ ∀ q : pRs, xK u L c 1 (if dLk u L D (tW u L c) = -1 then Sum.inl (5, (tPl u L c : Int)) else q) = Sum.inl f)) := by
  have hh := h
  obtain ⟨h1, h2, h3, h4, h5, h6, h7, h8, h9, h10, h11, h12⟩ := h
  refine pX1 rfl rfl (v179_0 ?_)
  rw [h11]
  refine ⟨fun k1 => pC1.of (by omega) (y177 hh k1 (by omega)) ?_, fun k1 => pC1.ox (by omega) (y167 hh 1) (fun v A hA => ?_)⟩
  · have F : fr [] [7] G (pset G 109 7 (dLk u L D (tW u L c))) := fr.setF (by decide) _ _
    have S : rS u L G0 N c D (pset G 109 7 (dLk u L D (tW u L c))) := ⟨h1.trans (F.mono (by decide) (by decide)), h2.mv (F.f 2 (by decide)) (F.c 110 (by decide)), by rw [F.f 4 (by decide)]; exact h3, h4, rDr_c h5 (fun c hc => F.1 c (by simp) (by revert hc; revert c; decide)) (fun j hj => F.2 j (by revert hj; revert j; decide)), h6, by rw [F.f 8 (by decide)]; exact h7, by rw [F.f 9 (by decide)]; exact h8, by rw [F.f 17 (by decide)]; exact h9, by rw [F.f 3 (by decide)]; exact h10, by rw [F.f 5 (by decide)]; exact h11, by rw [F.f 6 (by decide)]; exact h12⟩
    rw [pset_eq]
    refine ⟨fun z => ⟨Or.inr rfl, 1, rfl, Or.inl ⟨k1, z, rfl, S, rfl, F⟩⟩, fun z => pC1.ox (by omega) (y167 S 5) (fun v A hA => ?_)⟩
    obtain ⟨rfl, hf⟩ := hA
    refine ⟨fun _ => ⟨Or.inl rfl, 0, rfl, Or.inr ⟨rfl, _, hf, fun q => ?_⟩⟩, fun y => absurd rfl y⟩
    rw [xK_y k1, if_pos z]
  · obtain ⟨rfl, hf⟩ := hA
    exact ⟨Or.inl rfl, 0, rfl, Or.inr ⟨rfl, _, hf, fun q => xK_n k1 _⟩⟩
theorem is_go {u : Nat → Int} {L c : Nat} {v : Nat → Int} {n : Nat} (hk : tKd u L c = 1) (hv : ∀ i : Nat, i < n → 97 ≤ v i ∧ v i ≤ 122) : tW u L c = wV v 0 n ↔ (tNx u L c - tPl u L c = n ∧ ∀ i : Nat, i < n → u (tPl u L c + i) = v i) := by
  unfold tW
  rw [wV_inj _ _ (tKd1 hk).2.2 (fun i hi => by rw [Nat.zero_add]; exact hv i hi)]
  constructor
  · rintro ⟨h1, h2⟩
    exact ⟨h1, fun i hi => by rw [h2 i (by omega), Nat.zero_add]⟩
  · rintro ⟨h1, h2⟩
    exact ⟨h1, fun i hi => by rw [h2 i (by omega), Nat.zero_add]⟩
theorem by_ch {x u ch : Int} (h1 : -128 ≤ x ∧ x ≤ 127) (h2 : pand x 255 = u) (h3 : 97 ≤ ch) (h4 : ch ≤ 122) : x = ch ↔ u = ch := by
  rw [u8_e h1.1 h1.2] at h2
  omega
def ws0 : Nat → Int := fun i => ([116, 111, 111, 108] : List Int).getD i 0
theorem y172_0 {d : Nat} {u : Nat → Int} {L : Nat} {G0 : pG} {N : Int} {c : Nat} {D G : pG} (h : rS u L G0 N c D G) (hB : ∀ i : Nat, i < 800 → -128 ≤ G 110 i ∧ G 110 i ≤ 127) : pRuns pMT d 172 [pR 109, pR 500] Yc G (some (pI (b2i (tKd u L c = 1 ∧ tW u L c = 405012)))) G := by
  obtain ⟨h1, h2, h3, h4, h5, h6, h7, h8, h9, h10, h11, h12⟩ := h
  have b := tNx_bd (u := u) h4
  have bp := tPl_bd (u := u) h4
  have hL := h2.2.1
  have wv : wV ws0 0 4 = 405012 := by decide
  have vb : ∀ i : Nat, i < 4 → 97 ≤ ws0 i ∧ ws0 i ≤ 122 := by decide
  have pv : ∀ i : Nat, i < 4 → pn [(116 : Int), (111 : Int), (111 : Int), (108 : Int)] i = some (ws0 i) := by decide
  have stop : (¬ (tKd u L c = 1 ∧ tW u L c = 405012)) → ∀ k : Nat, pEnds pMT d 172 Yc (fun r' g => r' = some (pI (b2i (tKd u L c = 1 ∧ tW u L c = 405012))) ∧ g = G) 32 [pR 109, pR 500, pI 0, pI (k : Int)] [] G := by
    intro hn k
    exact v172_32_s0 ⟨fun _ => ⟨Or.inl rfl, q0 hn, rfl⟩, fun _ => ⟨fun _ => ⟨Or.inl rfl, q0 hn, rfl⟩, fun z => absurd rfl z⟩⟩
  refine pRuns.of rfl rfl (v172_0_s0 ?_)
  rw [h11, h3, h10, w32_id (by omega) (by omega)]
  refine ⟨fun k1 => ?_, fun k1 => ⟨fun z => ?_, fun z => ?_⟩⟩
  · rintro _ rfl _ rfl
    exact stop (fun q => k1 q.1) 0
  · rintro _ rfl _ rfl
    refine stop (fun q => ?_) 0
    have := ((is_go k1 vb).mp (by rw [wv]; exact q.2)).1
    omega
  · have len : tNx u L c - tPl u L c = 4 := by omega
    suffices H : ∀ (m k : Nat), k + m = 4 → (∀ i : Nat, i < k → u (tPl u L c + i) = ws0 i) → pEnds pMT d 172 Yc (fun r' g => r' = some (pI (b2i (tKd u L c = 1 ∧ tW u L c = 405012))) ∧ g = G) 32 [pR 109, pR 500, pI 1, pI (k : Int)] [] G by
      rintro _ rfl _ rfl
      exact H 4 0 rfl (fun i hi => by omega)
    intro m
    induction m with
    | zero =>
      intro k hk hi
      obtain rfl : k = 4 := by omega
      refine v172_32_s0 ⟨fun _ => ⟨Or.inr rfl, q1 ⟨k1, ?_⟩, rfl⟩, fun z => by omega⟩
      rw [← wv]
      exact (is_go k1 vb).mpr ⟨len, hi⟩
    | succ m ih =>
      intro k hk hi
      have e1 : w32 ((tPl u L c : Int) + (k : Int)) = ((tPl u L c + k : Nat) : Int) := by rw [w32_id (by omega) (by omega)]; omega
      have bc := by_ch (hB (tPl u L c + k) (by omega)) (h2.2.2.1 (tPl u L c + k) (by omega)).1 (vb k (by omega)).1 (vb k (by omega)).2
      refine v172_32_s0 ⟨fun z => by omega, fun _ => ⟨fun z => by omega, fun _ => ?_⟩⟩
      rw [h10, e1, Int.toNat_natCast, Int.toNat_natCast, w32_id (x := (k : Int) + 1) (by omega) (by omega)]
      refine ⟨by omega, by omega, by omega, ws0 k, pv k (by omega), fun z => ?_, fun z => ?_⟩
      · rintro _ rfl _ rfl
        refine stop (fun q => z (bc.mpr ?_)) (k + 1)
        exact ((is_go k1 vb).mp (by rw [wv]; exact q.2)).2 k (by omega)
      · rintro _ rfl _ rfl
        refine ih (k + 1) (by omega) (fun i hi2 => ?_)
        by_cases e : i = k
        · subst e; exact bc.mp z
        · exact hi i (by omega)
def ws1 : Nat → Int := fun i => ([115, 116, 101, 112] : List Int).getD i 0
theorem y172_1 {d : Nat} {u : Nat → Int} {L : Nat} {G0 : pG} {N : Int} {c : Nat} {D G : pG} (h : rS u L G0 N c D G) (hB : ∀ i : Nat, i < 800 → -128 ≤ G 110 i ∧ G 110 i ≤ 127) : pRuns pMT d 172 [pR 109, pR 501] Yc G (some (pI (b2i (tKd u L c = 1 ∧ tW u L c = 388708)))) G := by
  obtain ⟨h1, h2, h3, h4, h5, h6, h7, h8, h9, h10, h11, h12⟩ := h
  have b := tNx_bd (u := u) h4
  have bp := tPl_bd (u := u) h4
  have hL := h2.2.1
  have wv : wV ws1 0 4 = 388708 := by decide
  have vb : ∀ i : Nat, i < 4 → 97 ≤ ws1 i ∧ ws1 i ≤ 122 := by decide
  have pv : ∀ i : Nat, i < 4 → pn [(115 : Int), (116 : Int), (101 : Int), (112 : Int)] i = some (ws1 i) := by decide
  have stop : (¬ (tKd u L c = 1 ∧ tW u L c = 388708)) → ∀ k : Nat, pEnds pMT d 172 Yc (fun r' g => r' = some (pI (b2i (tKd u L c = 1 ∧ tW u L c = 388708))) ∧ g = G) 32 [pR 109, pR 501, pI 0, pI (k : Int)] [] G := by
    intro hn k
    exact v172_32_s1 ⟨fun _ => ⟨Or.inl rfl, q0 hn, rfl⟩, fun _ => ⟨fun _ => ⟨Or.inl rfl, q0 hn, rfl⟩, fun z => absurd rfl z⟩⟩
  refine pRuns.of rfl rfl (v172_0_s1 ?_)
  rw [h11, h3, h10, w32_id (by omega) (by omega)]
  refine ⟨fun k1 => ?_, fun k1 => ⟨fun z => ?_, fun z => ?_⟩⟩
  · rintro _ rfl _ rfl
    exact stop (fun q => k1 q.1) 0
  · rintro _ rfl _ rfl
    refine stop (fun q => ?_) 0
    have := ((is_go k1 vb).mp (by rw [wv]; exact q.2)).1
    omega
  · have len : tNx u L c - tPl u L c = 4 := by omega
    suffices H : ∀ (m k : Nat), k + m = 4 → (∀ i : Nat, i < k → u (tPl u L c + i) = ws1 i) → pEnds pMT d 172 Yc (fun r' g => r' = some (pI (b2i (tKd u L c = 1 ∧ tW u L c = 388708))) ∧ g = G) 32 [pR 109, pR 501, pI 1, pI (k : Int)] [] G by
      rintro _ rfl _ rfl
      exact H 4 0 rfl (fun i hi => by omega)
    intro m
    induction m with
    | zero =>
      intro k hk hi
      obtain rfl : k = 4 := by omega
      refine v172_32_s1 ⟨fun _ => ⟨Or.inr rfl, q1 ⟨k1, ?_⟩, rfl⟩, fun z => by omega⟩
      rw [← wv]
      exact (is_go k1 vb).mpr ⟨len, hi⟩
    | succ m ih =>
      intro k hk hi
      have e1 : w32 ((tPl u L c : Int) + (k : Int)) = ((tPl u L c + k : Nat) : Int) := by rw [w32_id (by omega) (by omega)]; omega
      have bc := by_ch (hB (tPl u L c + k) (by omega)) (h2.2.2.1 (tPl u L c + k) (by omega)).1 (vb k (by omega)).1 (vb k (by omega)).2
      refine v172_32_s1 ⟨fun z => by omega, fun _ => ⟨fun z => by omega, fun _ => ?_⟩⟩
      rw [h10, e1, Int.toNat_natCast, Int.toNat_natCast, w32_id (x := (k : Int) + 1) (by omega) (by omega)]
      refine ⟨by omega, by omega, by omega, ws1 k, pv k (by omega), fun z => ?_, fun z => ?_⟩
      · rintro _ rfl _ rfl
        refine stop (fun q => z (bc.mpr ?_)) (k + 1)
        exact ((is_go k1 vb).mp (by rw [wv]; exact q.2)).2 k (by omega)
      · rintro _ rfl _ rfl
        refine ih (k + 1) (by omega) (fun i hi2 => ?_)
        by_cases e : i = k
        · subst e; exact bc.mp z
        · exact hi i (by omega)
def ws2 : Nat → Int := fun i => ([97, 102, 116, 101, 114] : List Int).getD i 0
theorem y172_2 {d : Nat} {u : Nat → Int} {L : Nat} {G0 : pG} {N : Int} {c : Nat} {D G : pG} (h : rS u L G0 N c D G) (hB : ∀ i : Nat, i < 800 → -128 ≤ G 110 i ∧ G 110 i ≤ 127) : pRuns pMT d 172 [pR 109, pR 502] Yc G (some (pI (b2i (tKd u L c = 1 ∧ tW u L c = 664272)))) G := by
  obtain ⟨h1, h2, h3, h4, h5, h6, h7, h8, h9, h10, h11, h12⟩ := h
  have b := tNx_bd (u := u) h4
  have bp := tPl_bd (u := u) h4
  have hL := h2.2.1
  have wv : wV ws2 0 5 = 664272 := by decide
  have vb : ∀ i : Nat, i < 5 → 97 ≤ ws2 i ∧ ws2 i ≤ 122 := by decide
  have pv : ∀ i : Nat, i < 5 → pn [(97 : Int), (102 : Int), (116 : Int), (101 : Int), (114 : Int)] i = some (ws2 i) := by decide
  have stop : (¬ (tKd u L c = 1 ∧ tW u L c = 664272)) → ∀ k : Nat, pEnds pMT d 172 Yc (fun r' g => r' = some (pI (b2i (tKd u L c = 1 ∧ tW u L c = 664272))) ∧ g = G) 32 [pR 109, pR 502, pI 0, pI (k : Int)] [] G := by
    intro hn k
    exact v172_32_s2 ⟨fun _ => ⟨Or.inl rfl, q0 hn, rfl⟩, fun _ => ⟨fun _ => ⟨Or.inl rfl, q0 hn, rfl⟩, fun z => absurd rfl z⟩⟩
  refine pRuns.of rfl rfl (v172_0_s2 ?_)
  rw [h11, h3, h10, w32_id (by omega) (by omega)]
  refine ⟨fun k1 => ?_, fun k1 => ⟨fun z => ?_, fun z => ?_⟩⟩
  · rintro _ rfl _ rfl
    exact stop (fun q => k1 q.1) 0
  · rintro _ rfl _ rfl
    refine stop (fun q => ?_) 0
    have := ((is_go k1 vb).mp (by rw [wv]; exact q.2)).1
    omega
  · have len : tNx u L c - tPl u L c = 5 := by omega
    suffices H : ∀ (m k : Nat), k + m = 5 → (∀ i : Nat, i < k → u (tPl u L c + i) = ws2 i) → pEnds pMT d 172 Yc (fun r' g => r' = some (pI (b2i (tKd u L c = 1 ∧ tW u L c = 664272))) ∧ g = G) 32 [pR 109, pR 502, pI 1, pI (k : Int)] [] G by
      rintro _ rfl _ rfl
      exact H 5 0 rfl (fun i hi => by omega)
    intro m
    induction m with
    | zero =>
      intro k hk hi
      obtain rfl : k = 5 := by omega
      refine v172_32_s2 ⟨fun _ => ⟨Or.inr rfl, q1 ⟨k1, ?_⟩, rfl⟩, fun z => by omega⟩
      rw [← wv]
      exact (is_go k1 vb).mpr ⟨len, hi⟩
    | succ m ih =>
      intro k hk hi
      have e1 : w32 ((tPl u L c : Int) + (k : Int)) = ((tPl u L c + k : Nat) : Int) := by rw [w32_id (by omega) (by omega)]; omega
      have bc := by_ch (hB (tPl u L c + k) (by omega)) (h2.2.2.1 (tPl u L c + k) (by omega)).1 (vb k (by omega)).1 (vb k (by omega)).2
      refine v172_32_s2 ⟨fun z => by omega, fun _ => ⟨fun z => by omega, fun _ => ?_⟩⟩
      rw [h10, e1, Int.toNat_natCast, Int.toNat_natCast, w32_id (x := (k : Int) + 1) (by omega) (by omega)]
      refine ⟨by omega, by omega, by omega, ws2 k, pv k (by omega), fun z => ?_, fun z => ?_⟩
      · rintro _ rfl _ rfl
        refine stop (fun q => z (bc.mpr ?_)) (k + 1)
        exact ((is_go k1 vb).mp (by rw [wv]; exact q.2)).2 k (by omega)
      · rintro _ rfl _ rfl
        refine ih (k + 1) (by omega) (fun i hi2 => ?_)
        by_cases e : i = k
        · subst e; exact bc.mp z
        · exact hi i (by omega)
def ws3 : Nat → Int := fun i => ([109, 101, 101, 116] : List Int).getD i 0
theorem y172_3 {d : Nat} {u : Nat → Int} {L : Nat} {G0 : pG} {N : Int} {c : Nat} {D G : pG} (h : rS u L G0 N c D G) (hB : ∀ i : Nat, i < 800 → -128 ≤ G 110 i ∧ G 110 i ≤ 127) : pRuns pMT d 172 [pR 109, pR 503] Yc G (some (pI (b2i (tKd u L c = 1 ∧ tW u L c = 259679)))) G := by
  obtain ⟨h1, h2, h3, h4, h5, h6, h7, h8, h9, h10, h11, h12⟩ := h
  have b := tNx_bd (u := u) h4
  have bp := tPl_bd (u := u) h4
  have hL := h2.2.1
  have wv : wV ws3 0 4 = 259679 := by decide
  have vb : ∀ i : Nat, i < 4 → 97 ≤ ws3 i ∧ ws3 i ≤ 122 := by decide
  have pv : ∀ i : Nat, i < 4 → pn [(109 : Int), (101 : Int), (101 : Int), (116 : Int)] i = some (ws3 i) := by decide
  have stop : (¬ (tKd u L c = 1 ∧ tW u L c = 259679)) → ∀ k : Nat, pEnds pMT d 172 Yc (fun r' g => r' = some (pI (b2i (tKd u L c = 1 ∧ tW u L c = 259679))) ∧ g = G) 32 [pR 109, pR 503, pI 0, pI (k : Int)] [] G := by
    intro hn k
    exact v172_32_s3 ⟨fun _ => ⟨Or.inl rfl, q0 hn, rfl⟩, fun _ => ⟨fun _ => ⟨Or.inl rfl, q0 hn, rfl⟩, fun z => absurd rfl z⟩⟩
  refine pRuns.of rfl rfl (v172_0_s3 ?_)
  rw [h11, h3, h10, w32_id (by omega) (by omega)]
  refine ⟨fun k1 => ?_, fun k1 => ⟨fun z => ?_, fun z => ?_⟩⟩
  · rintro _ rfl _ rfl
    exact stop (fun q => k1 q.1) 0
  · rintro _ rfl _ rfl
    refine stop (fun q => ?_) 0
    have := ((is_go k1 vb).mp (by rw [wv]; exact q.2)).1
    omega
  · have len : tNx u L c - tPl u L c = 4 := by omega
    suffices H : ∀ (m k : Nat), k + m = 4 → (∀ i : Nat, i < k → u (tPl u L c + i) = ws3 i) → pEnds pMT d 172 Yc (fun r' g => r' = some (pI (b2i (tKd u L c = 1 ∧ tW u L c = 259679))) ∧ g = G) 32 [pR 109, pR 503, pI 1, pI (k : Int)] [] G by
      rintro _ rfl _ rfl
      exact H 4 0 rfl (fun i hi => by omega)
    intro m
    induction m with
    | zero =>
      intro k hk hi
      obtain rfl : k = 4 := by omega
      refine v172_32_s3 ⟨fun _ => ⟨Or.inr rfl, q1 ⟨k1, ?_⟩, rfl⟩, fun z => by omega⟩
      rw [← wv]
      exact (is_go k1 vb).mpr ⟨len, hi⟩
    | succ m ih =>
      intro k hk hi
      have e1 : w32 ((tPl u L c : Int) + (k : Int)) = ((tPl u L c + k : Nat) : Int) := by rw [w32_id (by omega) (by omega)]; omega
      have bc := by_ch (hB (tPl u L c + k) (by omega)) (h2.2.2.1 (tPl u L c + k) (by omega)).1 (vb k (by omega)).1 (vb k (by omega)).2
      refine v172_32_s3 ⟨fun z => by omega, fun _ => ⟨fun z => by omega, fun _ => ?_⟩⟩
      rw [h10, e1, Int.toNat_natCast, Int.toNat_natCast, w32_id (x := (k : Int) + 1) (by omega) (by omega)]
      refine ⟨by omega, by omega, by omega, ws3 k, pv k (by omega), fun z => ?_, fun z => ?_⟩
      · rintro _ rfl _ rfl
        refine stop (fun q => z (bc.mpr ?_)) (k + 1)
        exact ((is_go k1 vb).mp (by rw [wv]; exact q.2)).2 k (by omega)
      · rintro _ rfl _ rfl
        refine ih (k + 1) (by omega) (fun i hi2 => ?_)
        by_cases e : i = k
        · subst e; exact bc.mp z
        · exact hi i (by omega)
def ws4 : Nat → Int := fun i => ([105, 100, 108, 101] : List Int).getD i 0
theorem y172_4 {d : Nat} {u : Nat → Int} {L : Nat} {G0 : pG} {N : Int} {c : Nat} {D G : pG} (h : rS u L G0 N c D G) (hB : ∀ i : Nat, i < 800 → -128 ≤ G 110 i ∧ G 110 i ≤ 127) : pRuns pMT d 172 [pR 109, pR 504] Yc G (some (pI (b2i (tKd u L c = 1 ∧ tW u L c = 180392)))) G := by
  obtain ⟨h1, h2, h3, h4, h5, h6, h7, h8, h9, h10, h11, h12⟩ := h
  have b := tNx_bd (u := u) h4
  have bp := tPl_bd (u := u) h4
  have hL := h2.2.1
  have wv : wV ws4 0 4 = 180392 := by decide
  have vb : ∀ i : Nat, i < 4 → 97 ≤ ws4 i ∧ ws4 i ≤ 122 := by decide
  have pv : ∀ i : Nat, i < 4 → pn [(105 : Int), (100 : Int), (108 : Int), (101 : Int)] i = some (ws4 i) := by decide
  have stop : (¬ (tKd u L c = 1 ∧ tW u L c = 180392)) → ∀ k : Nat, pEnds pMT d 172 Yc (fun r' g => r' = some (pI (b2i (tKd u L c = 1 ∧ tW u L c = 180392))) ∧ g = G) 32 [pR 109, pR 504, pI 0, pI (k : Int)] [] G := by
    intro hn k
    exact v172_32_s4 ⟨fun _ => ⟨Or.inl rfl, q0 hn, rfl⟩, fun _ => ⟨fun _ => ⟨Or.inl rfl, q0 hn, rfl⟩, fun z => absurd rfl z⟩⟩
  refine pRuns.of rfl rfl (v172_0_s4 ?_)
  rw [h11, h3, h10, w32_id (by omega) (by omega)]
  refine ⟨fun k1 => ?_, fun k1 => ⟨fun z => ?_, fun z => ?_⟩⟩
  · rintro _ rfl _ rfl
    exact stop (fun q => k1 q.1) 0
  · rintro _ rfl _ rfl
    refine stop (fun q => ?_) 0
    have := ((is_go k1 vb).mp (by rw [wv]; exact q.2)).1
    omega
  · have len : tNx u L c - tPl u L c = 4 := by omega
    suffices H : ∀ (m k : Nat), k + m = 4 → (∀ i : Nat, i < k → u (tPl u L c + i) = ws4 i) → pEnds pMT d 172 Yc (fun r' g => r' = some (pI (b2i (tKd u L c = 1 ∧ tW u L c = 180392))) ∧ g = G) 32 [pR 109, pR 504, pI 1, pI (k : Int)] [] G by
      rintro _ rfl _ rfl
      exact H 4 0 rfl (fun i hi => by omega)
    intro m
    induction m with
    | zero =>
      intro k hk hi
      obtain rfl : k = 4 := by omega
      refine v172_32_s4 ⟨fun _ => ⟨Or.inr rfl, q1 ⟨k1, ?_⟩, rfl⟩, fun z => by omega⟩
      rw [← wv]
      exact (is_go k1 vb).mpr ⟨len, hi⟩
    | succ m ih =>
      intro k hk hi
      have e1 : w32 ((tPl u L c : Int) + (k : Int)) = ((tPl u L c + k : Nat) : Int) := by rw [w32_id (by omega) (by omega)]; omega
      have bc := by_ch (hB (tPl u L c + k) (by omega)) (h2.2.2.1 (tPl u L c + k) (by omega)).1 (vb k (by omega)).1 (vb k (by omega)).2
      refine v172_32_s4 ⟨fun z => by omega, fun _ => ⟨fun z => by omega, fun _ => ?_⟩⟩
      rw [h10, e1, Int.toNat_natCast, Int.toNat_natCast, w32_id (x := (k : Int) + 1) (by omega) (by omega)]
      refine ⟨by omega, by omega, by omega, ws4 k, pv k (by omega), fun z => ?_, fun z => ?_⟩
      · rintro _ rfl _ rfl
        refine stop (fun q => z (bc.mpr ?_)) (k + 1)
        exact ((is_go k1 vb).mp (by rw [wv]; exact q.2)).2 k (by omega)
      · rintro _ rfl _ rfl
        refine ih (k + 1) (by omega) (fun i hi2 => ?_)
        by_cases e : i = k
        · subst e; exact bc.mp z
        · exact hi i (by omega)
theorem rS_p {u : Nat → Int} {L : Nat} {G0 : pG} {N : Int} {c : Nat} {D G : pG} (h : rS u L G0 N c D G) {a n : Nat} (v : Int) (ha : (a ∈ [111, 119, 120, 121] ∧ D 0 0 ≤ (n : Int)) ∨ (a ∈ [122, 123, 124, 125] ∧ D 0 1 ≤ (n : Int))) : rS u L G0 N c D (pset G a n v) := by
  obtain ⟨h1, h2, h3, h4, h5, h6, h7, h8, h9, h10, h11, h12⟩ := h
  have aW : a ∈ rW9 := by
    rcases ha with ⟨h, -⟩ | ⟨h, -⟩
    · revert h; revert a; decide
    · revert h; revert a; decide
  have a9 : a ≠ 109 ∧ a ≠ 110 := (show ∀ a ∈ rW9, a ≠ 109 ∧ a ≠ 110 by decide) a aW
  have dis : ∀ c : Nat, c ∈ [111, 119, 120, 121] → c ∈ [122, 123, 124, 125] → False := fun c h1 h2 => (show ∀ c ∈ [111, 119, 120, 121], c ∉ [122, 123, 124, 125] by decide) c h1 h2
  have F : fr [a] [] G (pset G a n v) := fr.set (by simp) a9.1 _ _ _
  have f9 : ∀ j : Nat, pset G a n v 109 j = G 109 j := fun j => F.2 j (by simp)
  refine ⟨h1.trans (F.mono (fun c hc => by rw [List.mem_singleton] at hc; rw [hc]; exact aW) (by decide)), h2.mv (f9 2) (F.c 110 ⟨by simp; omega, by decide⟩), by rw [f9]; exact h3, h4, rDr_x h5 (fun j _ => f9 j) (fun c hc t ht => ?_) (fun c hc k hk => ?_), h6, by rw [f9]; exact h7, by rw [f9]; exact h8, by rw [f9]; exact h9, by rw [f9]; exact h10, by rw [f9]; exact h11, by rw [f9]; exact h12⟩
  · rw [pset_at]
    by_cases e : c = a
    · subst e
      rw [if_pos rfl]
      rcases ha with ⟨-, h⟩ | ⟨h, -⟩
      · rw [if_neg (by omega)]
      · exact (dis c hc h).elim
    · rw [if_neg e]
  · rw [pset_at]
    by_cases e : c = a
    · subst e
      rw [if_pos rfl]
      rcases ha with ⟨h, -⟩ | ⟨-, h⟩
      · exact (dis c h hc).elim
      · rw [if_neg (by omega)]
    · rw [if_neg e]
theorem rS_tool {u : Nat → Int} {L : Nat} {G0 : pG} {N : Int} {c e n : Nat} {D G : pG} {f s : Int} (h : rS u L G0 N c D G) (hn : D 0 0 = (n : Int)) (h6 : D 0 0 < 6) (he : e ≤ L) (hk : tKd u L e = 1) (f0 : 1 ≤ f) (f1 : f ≤ 50) (s0 : 1 ≤ s) (s1 : s ≤ 60) (g1 : G 111 n = tX u L e) (g2 : G 119 n = f) (g3 : G 120 n = s) (g4 : G 121 n = 0) : rS u L G0 N c (dTool D e f s) (pset G 109 14 ((n : Int) + 1)) := by
  obtain ⟨h1, h2, h3, h4, h5, hb, h7, h8, h9, h10, h11, h12⟩ := h
  have F : fr [] [14] G (pset G 109 14 ((n : Int) + 1)) := fr.setF (by decide) _ _
  obtain ⟨v0, v1, v2, v3, v4, v5⟩ := dTool_v D e f s
  have en : (D 0 0).toNat = n := by omega
  rw [en] at v1 v2 v3 v4
  have E0 : dTool D e f s 0 0 = (n : Int) + 1 := by rw [v0, if_pos rfl, hn]
  have E1 : ∀ j : Nat, j ≠ 0 → dTool D e f s 0 j = D 0 j := fun j hj => by rw [v0, if_neg hj]
  obtain ⟨p1, p2, p3, p4, p5, p6⟩ := h5
  refine ⟨h1.trans (F.mono (by decide) (by decide)), h2.mv (F.f 2 (by decide)) (F.c 110 (by decide)), by rw [F.f 4 (by decide)]; exact h3, h4, ⟨by rw [pset_eq, E0], by rw [F.f 15 (by decide), E1 1 (by decide)]; exact p2, by rw [F.f 16 (by decide), E1 2 (by decide)]; exact p3, by rw [F.f 18 (by decide), E1 3 (by decide)]; exact p4, fun t ht => ?_, fun k hk => ?_⟩, bD_tool hb h6 he hk f0 f1 s0 s1, by rw [F.f 8 (by decide)]; exact h7, by rw [F.f 9 (by decide)]; exact h8, by rw [F.f 17 (by decide)]; exact h9, by rw [F.f 3 (by decide)]; exact h10, by rw [F.f 5 (by decide)]; exact h11, by rw [F.f 6 (by decide)]; exact h12⟩
  · rw [E0] at ht
    rw [F.c 111 (by decide), F.c 119 (by decide), F.c 120 (by decide), F.c 121 (by decide), v1, v2, v3, v4]
    by_cases q : t = n
    · subst q
      rw [if_pos rfl, if_pos rfl, if_pos rfl, if_pos rfl, Int.toNat_natCast]
      exact ⟨g1, g2, g3, g4⟩
    · rw [if_neg q, if_neg q, if_neg q, if_neg q]
      exact p5 t (by omega)
  · rw [E1 1 (by decide)] at hk
    rw [F.c 122 (by decide), F.c 123 (by decide), F.c 124 (by decide), F.c 125 (by decide), v5 5 (by decide), v5 6 (by decide), v5 7 (by decide), v5 8 (by decide)]
    exact p6 k hk
theorem rS_step {u : Nat → Int} {L : Nat} {G0 : pG} {N : Int} {c n : Nat} {D G : pG} {t r w : Int} (h : rS u L G0 N c D G) (hn : D 0 1 = (n : Int)) (h7' : D 0 1 < 7) (t0 : 0 ≤ t) (t1 : t < D 0 0) (r0 : 1 ≤ r) (r1 : r ≤ 400) (w0 : 0 ≤ w) (w1 : w ≤ 99) (g1 : G 122 n = t) (g2 : G 123 n = r) (g3 : G 124 n = w) (g4 : G 125 n = 0) : rS u L G0 N c (dStp D t r w) (pset G 109 15 ((n : Int) + 1)) := by
  obtain ⟨h1, h2, h3, h4, h5, hb, h7, h8, h9, h10, h11, h12⟩ := h
  have F : fr [] [15] G (pset G 109 15 ((n : Int) + 1)) := fr.setF (by decide) _ _
  obtain ⟨v0, v1, v2, v3, v4, v5⟩ := dStp_v D t r w
  have en : (D 0 1).toNat = n := by omega
  rw [en] at v1 v2 v3 v4
  have E0 : dStp D t r w 0 1 = (n : Int) + 1 := by rw [v0, if_pos rfl, hn]
  have E1 : ∀ j : Nat, j ≠ 1 → dStp D t r w 0 j = D 0 j := fun j hj => by rw [v0, if_neg hj]
  obtain ⟨p1, p2, p3, p4, p5, p6⟩ := h5
  refine ⟨h1.trans (F.mono (by decide) (by decide)), h2.mv (F.f 2 (by decide)) (F.c 110 (by decide)), by rw [F.f 4 (by decide)]; exact h3, h4, ⟨by rw [F.f 14 (by decide), E1 0 (by decide)]; exact p1, by rw [pset_eq, E0], by rw [F.f 16 (by decide), E1 2 (by decide)]; exact p3, by rw [F.f 18 (by decide), E1 3 (by decide)]; exact p4, fun x hx => ?_, fun k hk => ?_⟩, bD_step hb h7' t0 t1 r0 r1 w0 w1, by rw [F.f 8 (by decide)]; exact h7, by rw [F.f 9 (by decide)]; exact h8, by rw [F.f 17 (by decide)]; exact h9, by rw [F.f 3 (by decide)]; exact h10, by rw [F.f 5 (by decide)]; exact h11, by rw [F.f 6 (by decide)]; exact h12⟩
  · rw [E1 0 (by decide)] at hx
    rw [F.c 111 (by decide), F.c 119 (by decide), F.c 120 (by decide), F.c 121 (by decide), v5 1 (by decide) (by decide), v5 2 (by decide) (by decide), v5 3 (by decide) (by decide), v5 4 (by decide) (by decide)]
    exact p5 x hx
  · rw [E0] at hk
    rw [F.c 122 (by decide), F.c 123 (by decide), F.c 124 (by decide), F.c 125 (by decide), v1, v2, v3, v4]
    by_cases q : k = n
    · subst q
      rw [if_pos rfl, if_pos rfl, if_pos rfl, if_pos rfl]
      exact ⟨g1, g2, g3, g4⟩
    · rw [if_neg q, if_neg q, if_neg q, if_neg q]
      exact p6 k (by omega)
theorem y178 {d : Nat} {u : Nat → Int} {L : Nat} {G0 : pG} {N : Int} {c : Nat} {D G : pG} (h : rS u L G0 N c D G) (hd : 4 ≤ d) : ∃ v G', pRuns pMT d 178 [pR 109] Yc G (some (pI v)) G' ∧ rP u L G0 N (cTool u L c D) v G' := by
  have b0 := h.2.2.2.2.2.1.1
  obtain ⟨n, hn⟩ : ∃ n : Nat, D 0 0 = (n : Int) := ⟨(D 0 0).toNat, by omega⟩
  refine pX1 rfl rfl (v178_0 ?_)
  rw [h.2.2.2.2.1.1]
  refine ⟨fun h6 => ?_, fun h6 => pC1.ox (by omega) (y167 h 4) (fun v A hA => ?_)⟩
  · have h6' : D 0 0 < 6 := by omega
    have E := show cTool u L c D = _ from if_pos h6'
    refine pC0.ox (by omega) (y171 h (by omega)) (fun A hA => ?_)
    obtain ⟨sA, -⟩ := hA
    rw [sA.2.2.2.2.2.2.2.2.2.2.1]
    refine ⟨fun k1 => pC1.of (by omega) (y177 sA k1 (by omega)) ⟨fun z => pC2.of (by omega) (y176 sA k1 (by omega)) ?_, fun z => pC1.ox (by omega) (y167 sA 3) (fun v B hB => ?_)⟩, fun k1 => pC1.ox (by omega) (y167 sA 1) (fun v B hB => ?_)⟩
    · rw [xK_y k1, if_pos z] at E
      intro x1 hx1
      refine pC0.ox (by omega) (y171 sA (by omega)) (fun B hB => ?_)
      obtain ⟨sB, -⟩ := hB
      refine pC1.ox (by omega) (y174 sB 1 50 (by omega)) (fun v C hC => ?_)
      rcases hC with ⟨k2, w2, rfl, sC, c7, -⟩ | ⟨rfl, f, fC, eC⟩
      · refine ⟨fun _ => ?_, fun z => by omega⟩
        rw [xN_y k2 w2] at E
        rw [sC.2.2.2.2.1.1, hn, Int.toNat_natCast, c7]
        refine ⟨by omega, by omega, ?_⟩
        have sC' := rS_p sC (a := 119) (n := n) (tV u L (tNx u L (tNx u L c))) (Or.inl ⟨by decide, by omega⟩)
        refine pC1.ox (by omega) (y174 sC' 1 60 (by omega)) (fun v H hH => ?_)
        rcases hH with ⟨k3, w3, rfl, sH, h7, fH⟩ | ⟨rfl, f, fH, eH⟩
        · refine ⟨fun _ => ?_, fun z => by omega⟩
          rw [xN_y k3 w3] at E
          have c1 : ∀ (g : pG) (i : Nat) (v : Int), pset g 120 i v 109 = g 109 := fun g i v => pset_cl _ _ (by decide)
          have c2 : ∀ (g : pG) (i : Nat) (v : Int), pset g 121 i v 109 = g 109 := fun g i v => pset_cl _ _ (by decide)
          have c3 : ∀ (g : pG) (i : Nat) (v : Int), pset g 111 i v 109 = g 109 := fun g i v => pset_cl _ _ (by decide)
          simp only [c1, c2, c3, sH.2.2.2.2.1.1, hn, h7, Int.toNat_natCast]
          rw [w32_id (x := (n : Int) + 1) (by omega) (by omega)]
          refine ⟨by omega, by omega, by omega, by omega, by omega, by omega, Or.inr trivial, rP_r E ?_⟩
          have s1 := rS_p sH (a := 120) (n := n) (tV u L (tNx u L (tNx u L (tNx u L c)))) (Or.inl ⟨by decide, by omega⟩)
          have s2 := rS_p s1 (a := 121) (n := n) 0 (Or.inl ⟨by decide, by omega⟩)
          have s3 := rS_p s2 (a := 111) (n := n) x1 (Or.inl ⟨by decide, by omega⟩)
          refine rS_tool s3 hn h6' sA.2.2.2.1 k1 w2.1 w2.2 w3.1 w3.2 (by rw [pset_eq]; exact hx1) ?_ ?_ ?_
          · rw [pset_cl _ _ (by decide), pset_cl _ _ (by decide), pset_cl _ _ (by decide), fH.c 119 (by decide), pset_eq]
          · rw [pset_cl _ _ (by decide), pset_cl _ _ (by decide), pset_eq]
          · rw [pset_cl _ _ (by decide), pset_eq]
        · rw [eH] at E
          exact ⟨fun z => absurd rfl z, fun _ => ⟨Or.inl rfl, rP_l E fH⟩⟩
      · rw [eC] at E
        exact ⟨fun z => absurd rfl z, fun _ => ⟨Or.inl rfl, rP_l E fC⟩⟩
    · obtain ⟨rfl, hf⟩ := hB
      rw [xK_y k1, if_neg z] at E
      exact ⟨Or.inl rfl, rP_l E hf⟩
    · obtain ⟨rfl, hf⟩ := hB
      rw [xK_n k1] at E
      exact ⟨Or.inl rfl, rP_l E hf⟩
  · obtain ⟨rfl, hf⟩ := hA
    exact ⟨Or.inl rfl, rP_l (if_neg (by omega)) hf⟩
theorem y180 {d : Nat} {u : Nat → Int} {L : Nat} {G0 : pG} {N : Int} {c : Nat} {D G : pG} (h : rS u L G0 N c D G) (hd : 4 ≤ d) : ∃ v G', pRuns pMT d 180 [pR 109] Yc G (some (pI v)) G' ∧ rP u L G0 N (cStep u L c D) v G' := by
  have b0 := h.2.2.2.2.2.1.1
  have b1 := h.2.2.2.2.2.1.2.1
  have hbd := dLk_bd u L (D := D) (tW u L (tNx u L c)) b0.1
  obtain ⟨n, hn⟩ : ∃ n : Nat, D 0 1 = (n : Int) := ⟨(D 0 1).toNat, by omega⟩
  refine pX1 rfl rfl (v180_0 ?_)
  rw [h.2.2.2.2.1.2.1]
  refine ⟨fun h7 => ?_, fun h7 => pC1.ox (by omega) (y167 h 4) (fun v A hA => ?_)⟩
  · have h7' : D 0 1 < 7 := by omega
    have E := show cStep u L c D = _ from if_pos h7'
    refine pC0.ox (by omega) (y171 h (by omega)) (fun A hA => ?_)
    obtain ⟨sA, -⟩ := hA
    refine pC1.ox (by omega) (y179 sA (by omega)) (fun v B hB => ?_)
    rcases hB with ⟨k1, w1, rfl, sB, b7, -⟩ | ⟨rfl, f, fB, eB⟩
    · refine ⟨fun _ => ?_, fun z => by omega⟩
      rw [xK_y k1, if_neg w1] at E
      rw [sB.2.2.2.2.1.2.1, hn, Int.toNat_natCast, b7]
      refine ⟨by omega, by omega, ?_⟩
      have sB' := rS_p sB (a := 122) (n := n) (dLk u L D (tW u L (tNx u L c))) (Or.inr ⟨by decide, by omega⟩)
      refine pC0.ox (by omega) (y171 sB' (by omega)) (fun C hC => ?_)
      obtain ⟨sC, fC⟩ := hC
      refine pC1.ox (by omega) (y174 sC 1 400 (by omega)) (fun v H hH => ?_)
      rcases hH with ⟨k2, w2, rfl, sH, h7, fH⟩ | ⟨rfl, f, fH, eH⟩
      · refine ⟨fun _ => ?_, fun z => by omega⟩
        rw [xN_y k2 w2] at E
        have c1 : ∀ (g : pG) (i : Nat) (v : Int), pset g 123 i v 109 = g 109 := fun g i v => pset_cl _ _ (by decide)
        have c2 : ∀ (g : pG) (i : Nat) (v : Int), pset g 124 i v 109 = g 109 := fun g i v => pset_cl _ _ (by decide)
        have c3 : ∀ (g : pG) (i : Nat) (v : Int), pset g 125 i v 109 = g 109 := fun g i v => pset_cl _ _ (by decide)
        have s1 := rS_p sH (a := 123) (n := n) (tV u L (tNx u L (tNx u L c))) (Or.inr ⟨by decide, by omega⟩)
        have s2 := rS_p s1 (a := 124) (n := n) 0 (Or.inr ⟨by decide, by omega⟩)
        have e122 : H 122 n = dLk u L D (tW u L (tNx u L c)) := by rw [fH.c 122 (by decide), fC.c 122 (by decide), pset_eq]
        simp only [c1, c2, c3, sH.2.2.2.2.1.2.1, hn, h7, Int.toNat_natCast]
        rw [w32_id (x := (n : Int) + 1) (by omega) (by omega), sH.2.2.2.2.2.2.2.2.2.2.1]
        refine ⟨by omega, by omega, by omega, by omega, fun k3 => ⟨by omega, by omega, Or.inr trivial, ?_⟩, fun k3 => ?_⟩
        · rw [if_neg k3] at E
          refine rP_r E ?_
          have s3 := rS_p s2 (a := 125) (n := n) 0 (Or.inr ⟨by decide, by omega⟩)
          refine rS_step s3 hn h7' (by omega) (by omega) w2.1 w2.2 (Int.le_refl 0) (by omega) ?_ ?_ ?_ ?_
          · rw [pset_cl _ _ (by decide), pset_cl _ _ (by decide), pset_cl _ _ (by decide), e122]
          · rw [pset_cl _ _ (by decide), pset_cl _ _ (by decide), pset_eq]
          · rw [pset_cl _ _ (by decide), pset_eq]
          · rw [pset_eq]
        · rw [if_pos k3] at E
          refine pC1.ox (by omega) (y174 s2 0 99 (by omega)) (fun v I hI => ?_)
          rcases hI with ⟨k4, w4, rfl, sI, i7, fI⟩ | ⟨rfl, f, fI, eI⟩
          · refine ⟨fun _ => ?_, fun z => by omega⟩
            rw [if_pos w4] at E
            simp only [c2, c3, sI.2.2.2.2.1.2.1, hn, i7, Int.toNat_natCast]
            rw [w32_id (x := (n : Int) + 1) (by omega) (by omega)]
            refine ⟨by omega, by omega, by omega, by omega, Or.inr trivial, rP_r E ?_⟩
            have s3 := rS_p sI (a := 124) (n := n) (tV u L (tNx u L (tNx u L (tNx u L c)))) (Or.inr ⟨by decide, by omega⟩)
            have s4 := rS_p s3 (a := 125) (n := n) 0 (Or.inr ⟨by decide, by omega⟩)
            refine rS_step s4 hn h7' (by omega) (by omega) w2.1 w2.2 w4.1 w4.2 ?_ ?_ ?_ ?_
            · rw [pset_cl _ _ (by decide), pset_cl _ _ (by decide), fI.c 122 (by decide), pset_cl _ _ (by decide), pset_cl _ _ (by decide), e122]
            · rw [pset_cl _ _ (by decide), pset_cl _ _ (by decide), fI.c 123 (by decide), pset_cl _ _ (by decide), pset_eq]
            · rw [pset_cl _ _ (by decide), pset_eq]
            · rw [pset_eq]
          · have ex : ∀ q : pRs, (if 0 ≤ tV u L (tNx u L (tNx u L (tNx u L c))) ∧ tV u L (tNx u L (tNx u L (tNx u L c))) ≤ 99 then q else Sum.inl (2, (tPl u L (tNx u L (tNx u L (tNx u L c))) : Int))) = Sum.inl f := fun q => by
              have := eI q
              unfold xN at this
              rw [if_pos k3] at this
              exact this
            rw [ex] at E
            exact ⟨fun z => absurd rfl z, fun _ => ⟨Or.inl trivial, rP_l E fI⟩⟩
      · rw [eH] at E
        exact ⟨fun z => absurd rfl z, fun _ => ⟨Or.inl rfl, rP_l E fH⟩⟩
    · rw [eB] at E
      exact ⟨fun z => absurd rfl z, fun _ => ⟨Or.inl rfl, rP_l E fB⟩⟩
  · obtain ⟨rfl, hf⟩ := hA
    exact ⟨Or.inl rfl, rP_l (if_neg (by omega)) hf⟩
theorem y181 {d : Nat} {u : Nat → Int} {L : Nat} {G0 : pG} {N : Int} {c : Nat} {D G : pG} (h : rS u L G0 N c D G) (hd : 4 ≤ d) : ∃ v G', pRuns pMT d 181 [pR 109] Yc G (some (pI v)) G' ∧ rP u L G0 N (cAft u L c D) v G' := by
  have b1 := h.2.2.2.2.2.1.2.1
  have b5 := h.2.2.2.2.2.1.2.2.2.2.2
  obtain ⟨Q, E⟩ : ∃ Q, Q = cAft u L c D := ⟨_, rfl⟩
  rw [← E]
  unfold cAft at E
  refine pX1 rfl rfl (v181_0 (pC0.ox (by omega) (y171 h (by omega)) (fun A hA => ?_)))
  obtain ⟨sA, -⟩ := hA
  rw [sA.2.2.2.2.1.2.1, w32_id (x := D 0 1 - 1) (by omega) (by omega)]
  refine pC1.ox (by omega) (y174 sA 0 (D 0 1 - 1) (by omega)) (fun v B hB => ?_)
  rcases hB with ⟨k1, w1, rfl, sB, b7, -⟩ | ⟨rfl, f, fB, eB⟩
  · refine ⟨fun _ => ?_, fun z => by omega⟩
    rw [xN_y k1 w1] at E
    rw [b7, sB.2.2.2.2.1.2.1, w32_id (x := D 0 1 - 1) (by omega) (by omega)]
    rintro _ rfl
    refine pC1.ox (by omega) (y173 sB (tV u L (tNx u L c)) (D 0 1 - 1) (by omega)) (fun v C hC => ?_)
    rcases hC with ⟨k2, w2, rfl, sC, c7, -⟩ | ⟨rfl, f, fC, eC⟩
    · refine ⟨fun _ => ?_, fun z => by omega⟩
      rw [xN_y k2 w2] at E
      rw [c7]
      generalize ha : tV u L (tNx u L c) = a at *
      generalize hb : tV u L (tNx u L (tNx u L c)) = b at *
      obtain ⟨m, rfl⟩ : ∃ m : Nat, a = (m : Int) := ⟨a.toNat, by omega⟩
      obtain ⟨n, rfl⟩ : ∃ n : Nat, b = (n : Int) := ⟨b.toNat, by omega⟩
      rw [Int.toNat_natCast, Int.toNat_natCast] at E
      refine ⟨fun z => pC1.ox (by omega) (y167 sC 3) (fun v H hH => ?_), fun z => ⟨by omega, by omega, ?_⟩⟩
      · obtain ⟨rfl, hf⟩ := hH
        rw [if_pos (Or.inl z)] at E
        exact ⟨Or.inl rfl, rP_l E hf⟩
      · have hn2 : (n : Int) < D 0 1 := by omega
        obtain ⟨p1, p2, p3, p4⟩ := sC.2.2.2.2.1.2.2.2.2.2 n hn2
        obtain ⟨-, -, -, -, -, -, q7, q8⟩ := b5 n hn2
        have p7 : (2 : Int) ^ n ≤ 2 ^ 7 := by
          have : ∀ k : Nat, k ≤ 7 → (2 : Int) ^ k ≤ 2 ^ 7 := by decide
          exact this n (by omega)
        rw [Int.toNat_natCast, p4, bit_i q7 (by omega) (by omega)]
        refine ⟨fun y => ⟨by omega, by omega, by omega, by omega, ?_⟩, fun y => pC1.ox (by omega) (y167 sC 3) (fun v H hH => ?_)⟩
        · have y : ¬ bt (D 8 n) m = true := fun q => y (b2i_t q)
          rw [if_neg (fun q => by rcases q with q | q; exact z q; exact y q)] at E
          have sD : rS u L G0 N (tNx u L (tNx u L c)) (dAft D (m : Int) (n : Int)) (pset C 125 n (por (D 8 n) (pshl 1 (m : Int)))) := by
            obtain ⟨h1, h2, h3, h4, h5, hb', h7, h8, h9, h10, h11, h12⟩ := sC
            have F : fr [125] [] C (pset C 125 n (por (D 8 n) (pshl 1 (m : Int)))) := fr.set (by decide) (by decide) _ _ _
            have V : ∀ c : Nat, c ≠ 8 → dAft D (m : Int) (n : Int) c = D c := fun c hc => by unfold dAft; rw [pset_cl _ _ hc]
            obtain ⟨r1, r2, r3, r4, r5, r6⟩ := h5
            refine ⟨h1.trans (F.mono (by decide) (by decide)), h2.mv (F.f 2 (by decide)) (F.c 110 (by decide)), by rw [F.f 4 (by decide)]; exact h3, h4, ⟨by rw [F.f 14 (by decide), V 0 (by decide)]; exact r1, by rw [F.f 15 (by decide), V 0 (by decide)]; exact r2, by rw [F.f 16 (by decide), V 0 (by decide)]; exact r3, by rw [F.f 18 (by decide), V 0 (by decide)]; exact r4, fun t ht => ?_, fun k hk => ?_⟩, bD_aft hb' (by omega) (by omega) hn2, by rw [F.f 8 (by decide)]; exact h7, by rw [F.f 9 (by decide)]; exact h8, by rw [F.f 17 (by decide)]; exact h9, by rw [F.f 3 (by decide)]; exact h10, by rw [F.f 5 (by decide)]; exact h11, by rw [F.f 6 (by decide)]; exact h12⟩
            · rw [V 0 (by decide)] at ht
              rw [F.c 111 (by decide), F.c 119 (by decide), F.c 120 (by decide), F.c 121 (by decide), V 1 (by decide), V 2 (by decide), V 3 (by decide), V 4 (by decide)]
              exact r5 t ht
            · rw [V 0 (by decide)] at hk
              rw [F.c 122 (by decide), F.c 123 (by decide), F.c 124 (by decide), V 5 (by decide), V 6 (by decide), V 7 (by decide), pset_at, if_pos rfl]
              have := r6 k hk
              refine ⟨this.1, this.2.1, this.2.2.1, ?_⟩
              unfold dAft
              rw [Int.toNat_natCast, pset_at, if_pos rfl]
              by_cases e : k = n
              · rw [if_pos e, if_pos e]
              · rw [if_neg e, if_neg e]; exact this.2.2.2
          refine pC0.ox (by omega) (y171 sD (by omega)) (fun H hH => ⟨Or.inr rfl, rP_r E hH.1⟩)
        · obtain ⟨rfl, hf⟩ := hH
          have y : bt (D 8 n) m = true := b2i_1.mp y
          rw [if_pos (Or.inr y)] at E
          exact ⟨Or.inl rfl, rP_l E hf⟩
    · rw [eC] at E
      exact ⟨fun z => absurd rfl z, fun _ => ⟨Or.inl rfl, rP_l E fC⟩⟩
  · rw [eB] at E
    exact ⟨fun z => absurd rfl z, fun _ => ⟨Or.inl rfl, rP_l E fB⟩⟩
theorem y182 {d : Nat} {u : Nat → Int} {L : Nat} {G0 : pG} {N : Int} {c : Nat} {D G : pG} (h : rS u L G0 N c D G) (hd : 4 ≤ d) : ∃ v G', pRuns pMT d 182 [pR 109] Yc G (some (pI v)) G' ∧ rP u L G0 N (cMet u L c D) v G' := by
  have b0 := h.2.2.2.2.2.1.1
  have b4 := h.2.2.2.2.2.1.2.2.2.2.1
  have bd1 := dLk_bd u L (D := D) (tW u L (tNx u L c)) b0.1
  have bd2 := dLk_bd u L (D := D) (tW u L (tNx u L (tNx u L c))) b0.1
  obtain ⟨Q, E⟩ : ∃ Q, Q = cMet u L c D := ⟨_, rfl⟩
  rw [← E]
  unfold cMet at E
  refine pX1 rfl rfl (v182_0 (pC0.ox (by omega) (y171 h (by omega)) (fun A hA => ?_)))
  obtain ⟨sA, -⟩ := hA
  refine pC1.ox (by omega) (y179 sA (by omega)) (fun v B hB => ?_)
  rcases hB with ⟨k1, w1, rfl, sB, b7, -⟩ | ⟨rfl, f, fB, eB⟩
  · refine ⟨fun _ => ?_, fun z => by omega⟩
    rw [xK_y k1, if_neg w1] at E
    rw [b7]
    rintro _ rfl
    refine pC0.ox (by omega) (y171 sB (by omega)) (fun C hC => ?_)
    obtain ⟨sC, -⟩ := hC
    rw [sC.2.2.2.2.2.2.2.2.2.2.1]
    refine ⟨fun k2 => pC1.of (by omega) (y177 sC k2 (by omega)) ?_, fun k2 => pC1.ox (by omega) (y167 sC 1) (fun v H hH => ?_)⟩
    · rw [xK_y k2] at E
      rintro _ rfl
      refine ⟨fun z => ⟨fun y => absurd z y, fun _ => pC1.ox (by omega) (y167 sC 5) (fun v H hH => ?_)⟩, fun z => ?_⟩
      · obtain ⟨rfl, hf⟩ := hH
        rw [if_pos z] at E
        exact ⟨Or.inl rfl, rP_l E hf⟩
      · rw [if_neg z] at E
        generalize ha : dLk u L D (tW u L (tNx u L c)) = a at *
        generalize hb : dLk u L D (tW u L (tNx u L (tNx u L c))) = b at *
        obtain ⟨m, rfl⟩ : ∃ m : Nat, a = (m : Int) := ⟨a.toNat, by omega⟩
        obtain ⟨n, rfl⟩ : ∃ n : Nat, b = (n : Int) := ⟨b.toNat, by omega⟩
        rw [Int.toNat_natCast, Int.toNat_natCast] at E
        refine ⟨fun y => pC1.ox (by omega) (y167 sC 3) (fun v H hH => ?_), fun y => ⟨by omega, by omega, ?_⟩⟩
        · obtain ⟨rfl, hf⟩ := hH
          rw [if_pos (Or.inl y)] at E
          exact ⟨Or.inl rfl, rP_l E hf⟩
        · obtain ⟨-, -, -, p4⟩ := sC.2.2.2.2.1.2.2.2.2.1 m (by omega)
          obtain ⟨-, -, -, p5⟩ := sC.2.2.2.2.1.2.2.2.2.1 n (by omega)
          have q := (b4 m (by omega)).2.2.2.2.2
          rw [Int.toNat_natCast, Int.toNat_natCast, p4, bit_i q.1 (by omega) (by omega)]
          refine ⟨fun x => ⟨fun _ => ⟨by omega, by omega, by omega, by omega, by omega, by omega, by omega, by omega, ?_⟩, fun w => absurd w z⟩, fun x => pC1.ox (by omega) (y167 sC 3) (fun v H hH => ?_)⟩
          · have x : ¬ bt (D 4 m) n = true := fun q => x (b2i_t q)
            rw [if_neg (fun q => by rcases q with q | q; exact y q; exact x q)] at E
            rw [pset_ne (a := 121) (i := m) (j := n) _ _ (by omega), p5]
            have sD : rS u L G0 N (tNx u L (tNx u L c)) (dMet D (m : Int) (n : Int)) (pset (pset C 121 m (por (D 4 m) (pshl 1 (n : Int)))) 121 n (por (D 4 n) (pshl 1 (m : Int)))) := by
              obtain ⟨h1, h2, h3, h4, h5, hb', h7, h8, h9, h10, h11, h12⟩ := sC
              have F : fr [121] [] C (pset (pset C 121 m (por (D 4 m) (pshl 1 (n : Int)))) 121 n (por (D 4 n) (pshl 1 (m : Int)))) := (fr.set (by decide) (by decide) _ _ _).trans (fr.set (by decide) (by decide) _ _ _)
              have V : ∀ c : Nat, c ≠ 4 → dMet D (m : Int) (n : Int) c = D c := fun c hc => by unfold dMet; rw [pset_cl _ _ hc, pset_cl _ _ hc]
              obtain ⟨r1, r2, r3, r4, r5, r6⟩ := h5
              refine ⟨h1.trans (F.mono (by decide) (by decide)), h2.mv (F.f 2 (by decide)) (F.c 110 (by decide)), by rw [F.f 4 (by decide)]; exact h3, h4, ⟨by rw [F.f 14 (by decide), V 0 (by decide)]; exact r1, by rw [F.f 15 (by decide), V 0 (by decide)]; exact r2, by rw [F.f 16 (by decide), V 0 (by decide)]; exact r3, by rw [F.f 18 (by decide), V 0 (by decide)]; exact r4, fun t ht => ?_, fun k hk => ?_⟩, bD_met hb' (by omega) (by omega) (by omega) (by omega) y, by rw [F.f 8 (by decide)]; exact h7, by rw [F.f 9 (by decide)]; exact h8, by rw [F.f 17 (by decide)]; exact h9, by rw [F.f 3 (by decide)]; exact h10, by rw [F.f 5 (by decide)]; exact h11, by rw [F.f 6 (by decide)]; exact h12⟩
              · rw [V 0 (by decide)] at ht
                rw [F.c 111 (by decide), F.c 119 (by decide), F.c 120 (by decide), V 1 (by decide), V 2 (by decide), V 3 (by decide)]
                have := r5 t ht
                refine ⟨this.1, this.2.1, this.2.2.1, ?_⟩
                unfold dMet
                rw [Int.toNat_natCast, Int.toNat_natCast, pset_ne (a := 4) (i := m) (j := n) _ _ (by omega), pset_at, if_pos rfl, pset_at, if_pos rfl, pset_at, if_pos rfl, pset_at, if_pos rfl, this.2.2.2]
              · rw [V 0 (by decide)] at hk
                rw [F.c 122 (by decide), F.c 123 (by decide), F.c 124 (by decide), F.c 125 (by decide), V 5 (by decide), V 6 (by decide), V 7 (by decide), V 8 (by decide)]
                exact r6 k hk
            exact pC0.ox (by omega) (y171 sD (by omega)) (fun H hH => ⟨Or.inr rfl, rP_r E hH.1⟩)
          · obtain ⟨rfl, hf⟩ := hH
            rw [if_pos (Or.inr (b2i_1.mp x))] at E
            exact ⟨Or.inl rfl, rP_l E hf⟩
    · obtain ⟨rfl, hf⟩ := hH
      rw [xK_n k2] at E
      exact ⟨Or.inl rfl, rP_l E hf⟩
  · rw [eB] at E
    exact ⟨fun z => absurd rfl z, fun _ => ⟨Or.inl rfl, rP_l E fB⟩⟩
theorem y183 {d : Nat} {u : Nat → Int} {L : Nat} {G0 : pG} {N : Int} {c : Nat} {D G : pG} (h : rS u L G0 N c D G) (hB : ∀ i : Nat, i < 800 → -128 ≤ G 110 i ∧ G 110 i ≤ 127) (hd : 4 ≤ d) : ∃ v G', pRuns pMT d 183 [pR 109] Yc G (some (pI v)) G' ∧ rP u L G0 N (if tKd u L c = 1 ∧ tW u L c = 180392 then cIdl u L c D else Sum.inl (1, (tPl u L c : Int))) v G' := by
  obtain ⟨Q, E⟩ : ∃ Q, Q = (if tKd u L c = 1 ∧ tW u L c = 180392 then cIdl u L c D else Sum.inl (1, (tPl u L c : Int))) := ⟨_, rfl⟩
  rw [← E]
  refine pX1 rfl rfl (v183_0 (pC1.of (by omega) (y172_4 h hB) ⟨fun z => ?_, fun z => pC1.ox (by omega) (y167 h 1) (fun v A hA => ?_)⟩))
  · rw [if_pos (b2i_n0.mp z)] at E
    unfold cIdl at E
    rw [h.2.2.2.2.1.2.2.2.1]
    refine ⟨fun y => ⟨Or.inr rfl, ?_⟩, fun y => pC1.ox (by omega) (y167 h 3) (fun v A hA => ?_)⟩
    · rw [if_pos y] at E
      have V : ∀ c : Nat, c ≠ 0 → pset D 0 3 1 c = D c := fun c hc => pset_cl _ _ hc
      have V0 : ∀ j : Nat, pset D 0 3 1 0 j = if j = 3 then 1 else D 0 j := fun j => by rw [pset_at, if_pos rfl]
      have s0 : rS u L G0 N c (pset D 0 3 1) (pset G 109 18 1) := by
        obtain ⟨h1, h2, h3, h4, h5, hb', h7, h8, h9, h10, h11, h12⟩ := h
        have F : fr [] [18] G (pset G 109 18 1) := fr.setF (by decide) _ _
        obtain ⟨r1, r2, r3, r4, r5, r6⟩ := h5
        obtain ⟨t1, t2, t3, t4, t5, t6⟩ := hb'
        refine ⟨h1.trans (F.mono (by decide) (by decide)), h2.mv (F.f 2 (by decide)) (F.c 110 (by decide)), by rw [F.f 4 (by decide)]; exact h3, h4, ⟨by rw [F.f 14 (by decide)]; exact r1, by rw [F.f 15 (by decide)]; exact r2, by rw [F.f 16 (by decide)]; exact r3, by rw [pset_eq, V0]; rfl, fun t ht => ?_, fun k hk => ?_⟩, ⟨t1, t2, t3, Or.inr (V0 3), t5, t6⟩, by rw [F.f 8 (by decide)]; exact h7, by rw [F.f 9 (by decide)]; exact h8, by rw [F.f 17 (by decide)]; exact h9, by rw [F.f 3 (by decide)]; exact h10, by rw [F.f 5 (by decide)]; exact h11, by rw [F.f 6 (by decide)]; exact h12⟩
        · rw [F.c 111 (by decide), F.c 119 (by decide), F.c 120 (by decide), F.c 121 (by decide)]
          exact r5 t ht
        · rw [F.c 122 (by decide), F.c 123 (by decide), F.c 124 (by decide), F.c 125 (by decide)]
          exact r6 k hk
      refine pC0.ox (by omega) (y171 s0 (by omega)) (fun A hA => ?_)
      refine pC1.ox (by omega) (y174 hA.1 0 40 (by omega)) (fun v B hB => ?_)
      rcases hB with ⟨k1, w1, rfl, sB, b7, -⟩ | ⟨rfl, f, fB, eB⟩
      · refine ⟨fun _ => ⟨Or.inr rfl, ?_⟩, fun z => by omega⟩
        rw [xN_y k1 w1] at E
        refine rP_r E ?_
        rw [b7]
        obtain ⟨h1, h2, h3, h4, h5, hb', h7, h8, h9, h10, h11, h12⟩ := sB
        have F : fr [] [16] B (pset B 109 16 (tV u L (tNx u L c))) := fr.setF (by decide) _ _
        obtain ⟨r1, r2, r3, r4, r5, r6⟩ := h5
        obtain ⟨t1, t2, t3, t4, t5, t6⟩ := hb'
        have W0 : ∀ j : Nat, dIdl D (tV u L (tNx u L c)) 0 j = if j = 2 then tV u L (tNx u L c) else pset D 0 3 1 0 j := fun j => by unfold dIdl; rw [pset_at, if_pos rfl]
        refine ⟨h1.trans (F.mono (by decide) (by decide)), h2.mv (F.f 2 (by decide)) (F.c 110 (by decide)), by rw [F.f 4 (by decide)]; exact h3, h4, ⟨by rw [F.f 14 (by decide)]; exact r1, by rw [F.f 15 (by decide)]; exact r2, by rw [pset_eq, W0]; rfl, by rw [F.f 18 (by decide)]; exact r4, fun t ht => ?_, fun k hk => ?_⟩, ⟨t1, t2, by rw [W0]; exact w1, t4, t5, t6⟩, by rw [F.f 8 (by decide)]; exact h7, by rw [F.f 9 (by decide)]; exact h8, by rw [F.f 17 (by decide)]; exact h9, by rw [F.f 3 (by decide)]; exact h10, by rw [F.f 5 (by decide)]; exact h11, by rw [F.f 6 (by decide)]; exact h12⟩
        · rw [F.c 111 (by decide), F.c 119 (by decide), F.c 120 (by decide), F.c 121 (by decide)]
          exact r5 t ht
        · rw [F.c 122 (by decide), F.c 123 (by decide), F.c 124 (by decide), F.c 125 (by decide)]
          exact r6 k hk
      · rw [eB] at E
        exact ⟨fun z => absurd rfl z, fun _ => ⟨Or.inl rfl, rP_l E fB⟩⟩
    · obtain ⟨rfl, hf⟩ := hA
      rw [if_neg y] at E
      exact ⟨Or.inl rfl, rP_l E hf⟩
  · obtain ⟨rfl, hf⟩ := hA
    rw [if_neg (b2i_0.mp z)] at E
    exact ⟨Or.inl rfl, rP_l E hf⟩
def uPost (u : Nat → Int) (L : Nat) (q : pRs) (v : Int) (g : pG) : Prop := match q with
    | Sum.inl f => v = 0 ∧ g 109 8 = f.1 ∧ g 109 9 = f.2
    | Sum.inr (n, D) => v = 1 ∧ g 109 8 = 0 ∧ g 109 9 = -1 ∧ g 109 17 = (n : Int) ∧ rDr u L D g ∧ bD u L D
theorem y184 {d : Nat} {u : Nat → Int} {L : Nat} {G : pG} (hT : tpR G u L) (hB : ∀ i : Nat, i < 800 → -128 ≤ G 110 i ∧ G 110 i ≤ 127) (h4 : G 109 4 = (tNx u L 0 : Int)) (h3 : G 109 3 = (tPl u L 0 : Int)) (h5 : G 109 5 = tKd u L 0) (h6 : tKd u L 0 = 2 → G 109 6 = tV u L 0) (h8 : G 109 8 = 0) (h9 : G 109 9 = -1) (hd : 6 ≤ d) : ∃ v G', pRuns pMT d 184 [pR 109] Yc G (some (pI v)) G' ∧ (fr rW9 rF9 G G' ∧ uPost u L (prs u L 801 0 0 dNil) v G') := by
  obtain ⟨Q, E⟩ : ∃ Q, Q = prs u L 801 0 0 dNil := ⟨_, rfl⟩
  rw [← E]
  have hL := hT.2.1
  refine pX1 rfl rfl (v184_0 ⟨Or.inl rfl, ?_⟩)
  suffices H : ∀ (m n c : Nat) (D g : pG), m + n = 801 → n ≤ c → Q = prs u L m n c D → rS u L G (n : Int) c D g → pEnds pMT d 184 Yc (fun r g => ∃ v : Int, r = some (pI v) ∧ (fr rW9 rF9 G g ∧ uPost u L Q v g)) 26 [pR 109, pU] [] g by
    have F : fr [] [14, 15, 16, 17, 18] G (pset (pset (pset (pset (pset G 109 14 0) 109 15 0) 109 16 10) 109 18 0) 109 17 0) := (fr.setF (by decide) _ _).trans ((fr.setF (by decide) _ _).trans ((fr.setF (by decide) _ _).trans ((fr.setF (by decide) _ _).trans (fr.setF (by decide) _ _))))
    refine H 801 0 0 dNil _ rfl (Nat.le_refl _) E ⟨F.mono (by decide) (by decide), hT.mv (F.f 2 (by decide)) (F.c 110 (by decide)), by rw [F.f 4 (by decide)]; exact h4, Nat.zero_le _, ⟨by simp [pset_at, dNil], by simp [pset_at, dNil], by simp [pset_at, dNil], by simp [pset_at, dNil], fun t ht => ?_, fun k hk => ?_⟩, bD_nil u L, by rw [F.f 8 (by decide)]; exact h8, by rw [F.f 9 (by decide)]; exact h9, by simp [pset_at], by rw [F.f 3 (by decide)]; exact h3, by rw [F.f 5 (by decide)]; exact h5, by rw [F.f 6 (by decide)]; exact h6⟩
    · have : dNil 0 0 = 0 := by decide
      omega
    · have : dNil 0 1 = 0 := by decide
      omega
  intro m
  induction m with
  | zero =>
    intro n c D g hn hc hE hS
    have := hS.2.2.2.1
    omega
  | succ m ih =>
    intro n c D g hn hc hE hS
    have hcL := hS.2.2.2.1
    have hBg : ∀ i : Nat, i < 800 → -128 ≤ g 110 i ∧ g 110 i ≤ 127 := by rw [hS.1.c 110 (by decide)]; exact hB
    have e1 : prs u L (m + 1) n c D = if tKd u L c = 0 then Sum.inr (n, D) else (match cCl u L c D with
      | Sum.inl f => Sum.inl f
      | Sum.inr (e, D') => prs u L m (n + 1) (tNx u L e) D') := rfl
    refine v184_26 ?_
    rw [hS.2.2.2.2.2.2.2.2.2.2.1]
    refine ⟨fun z => ⟨Or.inr rfl, 1, rfl, hS.1, ?_⟩, fun z => ?_⟩
    · rw [e1, if_pos z] at hE
      obtain ⟨h1, h2, h3, h4, h5, hb', h7, h8, h9, -⟩ := hS
      rw [hE]
      exact ⟨rfl, h7, h8, h9, h5, hb'⟩
    · rw [e1, if_neg z] at hE
      have fin : ∀ (q : pRs) (mm : Nat), cCl u L c D = q → (∃ v G', pRuns pMT (d - 1) mm [pR 109] Yc g (some (pI v)) G' ∧ rP u L G (n : Int) q v G') → pC1 pMT d mm [pR 109] Yc g (fun r_5 G_6 => ∀ x1 : Int, x1 = r_5 → ((¬ x1 = (0 : Int) → (((G_6 109 5) = (3 : Int) → pC0 pMT d 171 [pR 109] Yc G_6 (fun G_7 => pEnds pMT d 184 Yc (fun r g => ∃ v : Int, r = some (pI v) ∧ (fr rW9 rF9 G g ∧ uPost u L Q v g)) 26 [pR 109, pU] [] (pset G_7 109 17 (w32 ((G_7 109 17) + (1 : Int)))))) ∧ (¬ (G_6 109 5) = (3 : Int) → pC1 pMT d 167 [pR 109, pI (1 : Int)] Yc G_6 (fun r_6 G_7 => ((r_6 = 0 ∨ r_6 = 1) ∧ ∃ v : Int, some (pI r_6) = some (pI v) ∧ (fr rW9 rF9 G G_7 ∧ uPost u L Q v G_7)))))) ∧ (x1 = (0 : Int) → (((0 : Int) = 0 ∨ (0 : Int) = 1) ∧ ∃ v : Int, some (pI (0 : Int)) = some (pI v) ∧ (fr rW9 rF9 G G_6 ∧ uPost u L Q v G_6))))) := by
        intro q mm hq hx
        refine pC1.ox (by omega) hx (fun v A hA => ?_)
        rintro _ rfl
        rcases hA with ⟨rfl, f, e, hf⟩ | ⟨rfl, e, D', eq, sA⟩
        · rw [hq, e] at hE
          refine ⟨fun y => absurd rfl y, fun _ => ⟨Or.inl rfl, 0, rfl, hf.1, ?_⟩⟩
          rw [hE]
          exact ⟨rfl, hf.2.1, hf.2.2⟩
        · refine ⟨fun _ => ?_, fun y => by omega⟩
          rw [sA.2.2.2.2.2.2.2.2.2.2.1]
          refine ⟨fun k3 => ?_, fun k3 => pC1.ox (by omega) (y167 sA 1) (fun v B hB => ?_)⟩
          · rw [xK_y k3] at eq
            rw [eq] at hq
            have adv := cCl_adv hcL z hq
            rw [hq] at hE
            refine pC0.ox (by omega) (y171 sA (by omega)) (fun B hB => ?_)
            obtain ⟨h1, h2, h3, h4, h5, hb', h7, h8, h9, h10, h11, h12⟩ := hB.1
            have F : fr [] [17] B (pset B 109 17 (w32 (B 109 17 + 1))) := fr.setF (by decide) _ _
            refine ih (n + 1) (tNx u L e) D' _ (by omega) (by omega) hE ⟨h1.trans (F.mono (by decide) (by decide)), h2.mv (F.f 2 (by decide)) (F.c 110 (by decide)), by rw [F.f 4 (by decide)]; exact h3, h4, rDr_c h5 (fun c hc => F.1 c (by simp) (by revert hc; revert c; decide)) (fun j hj => F.2 j (by revert hj; revert j; decide)), hb', by rw [F.f 8 (by decide)]; exact h7, by rw [F.f 9 (by decide)]; exact h8, ?_, by rw [F.f 3 (by decide)]; exact h10, by rw [F.f 5 (by decide)]; exact h11, by rw [F.f 6 (by decide)]; exact h12⟩
            rw [pset_eq, h9, w32_id (by omega) (by omega)]
            rfl
          · obtain ⟨rfl, hf⟩ := hB
            rw [xK_n k3] at eq
            rw [hq, eq] at hE
            refine ⟨Or.inl rfl, 0, rfl, hf.1, ?_⟩
            rw [hE]
            exact ⟨rfl, hf.2.1, hf.2.2⟩
      have C : cCl u L c D = (if tKd u L c = 1 ∧ tW u L c = 405012 then cTool u L c D else if tKd u L c = 1 ∧ tW u L c = 388708 then cStep u L c D else if tKd u L c = 1 ∧ tW u L c = 664272 then cAft u L c D else if tKd u L c = 1 ∧ tW u L c = 259679 then cMet u L c D else if tKd u L c = 1 ∧ tW u L c = 180392 then cIdl u L c D else Sum.inl (1, (tPl u L c : Int))) := by
        unfold cCl
        by_cases k : tKd u L c = 1
        · simp only [k, true_and, if_true]
        · simp only [k, false_and, if_false]
      refine pC1.of (by omega) (y172_0 hS hBg) ⟨fun z0 => ?_, fun z0 => fin _ 178 (by rw [C, if_pos (b2i_n0.mp z0)]) (y178 hS (by omega))⟩
      rw [if_neg (b2i_0.mp z0)] at C
      refine pC1.of (by omega) (y172_1 hS hBg) ⟨fun z0 => ?_, fun z0 => fin _ 180 (by rw [C, if_pos (b2i_n0.mp z0)]) (y180 hS (by omega))⟩
      rw [if_neg (b2i_0.mp z0)] at C
      refine pC1.of (by omega) (y172_2 hS hBg) ⟨fun z0 => ?_, fun z0 => fin _ 181 (by rw [C, if_pos (b2i_n0.mp z0)]) (y181 hS (by omega))⟩
      rw [if_neg (b2i_0.mp z0)] at C
      refine pC1.of (by omega) (y172_3 hS hBg) ⟨fun z0 => ?_, fun z0 => fin _ 182 (by rw [C, if_pos (b2i_n0.mp z0)]) (y182 hS (by omega))⟩
      rw [if_neg (b2i_0.mp z0)] at C
      exact fin _ 183 C (y183 hS hBg (by omega))
