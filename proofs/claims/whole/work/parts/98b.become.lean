/-! the class' discs, laid out; what is forgotten; the draft becomes the part -/
def mkC (G : pG) (x : Int) : Int := if G 22 2 = 0 then 0 else (x * (100 - G 3 3)) / G 22 2
def plC (G : pG) (S : Nat) : Prop := 0 ≤ G 22 2 ∧ G 22 2 ≤ 140693 ∧ ∀ k : Nat, k < S → 0 ≤ G 23 k ∧ G 23 k + tnC G k ≤ G 22 2
theorem z12 {d : Nat} {G : pG} {S : Nat} {x : Int} (h : cpt G S) (hp : plC G S) (h0 : 0 ≤ x) (h1 : x ≤ G 22 2) : pRuns pMT d 12 [pR 39, pI x] Yc G (some (pI (mkC G x))) G := by
  obtain ⟨-, -, i1, -⟩ := h
  obtain ⟨p0, p1, -⟩ := hp
  have hm := mulb h0 h1 (show 0 ≤ 100 - G 3 3 by omega) (show 100 - G 3 3 ≤ 100 by omega)
  refine pRuns.of rfl rfl (v12_0 ⟨fun h => ⟨by omega, rI ?_ rfl⟩, fun h => rI ?_ rfl⟩)
  · rw [w32_id (x := 100 - G 3 3) (by omega) (by omega), w32_id (by omega) (by omega), pdiv_id (by omega) (by omega) (by omega) (by omega), Int.tdiv_eq_ediv_of_nonneg (by omega)]
    unfold mkC
    rw [if_neg (by omega)]
  · unfold mkC
    rw [if_pos (by omega)]
theorem z11 {d : Nat} {G : pG} {S : Nat} (h : cpt G S) (hp : plC G S) (hd : 2 ≤ d) : ∃ G', pRuns pMT d 11 [pR 39] Yc G none G' ∧ (fr [40, 41, 42] [] G G' ∧ ∀ k : Nat, k < S → G' 40 k = mkC G (G 23 k) ∧ G' 41 k = mkC G (G 23 k + G 9 k * G 5 (G 8 k).toNat) ∧ G' 42 k = mkC G (G 23 k + tnC G k)) := by
  have h0 := h.1
  have inv : ∀ g, fr [40, 41, 42] [] G g → cpt g S ∧ plC g S ∧ tnC g = tnC G ∧ mkC g = mkC G ∧ g 23 = G 23 ∧ g 9 = G 9 ∧ g 5 = G 5 ∧ g 8 = G 8 := fun g f => by
    obtain ⟨a, b, -, -, -⟩ := cpt_c (S := S) (G := G) (G' := g) (fun c hc => f.1 c (by revert hc; revert c; decide) (by revert hc; revert c; decide))
    refine ⟨a h, ?_, b, ?_, f.c 23 (by decide), f.c 9 (by decide), f.c 5 (by decide), f.c 8 (by decide)⟩
    · unfold plC
      rw [b, f.c 22 (by decide), f.c 23 (by decide)]
      exact hp
    · funext x
      unfold mkC
      rw [f.c 22 (by decide), f.c 3 (by decide)]
  refine pX0 rfl rfl (v11_0 ?_)
  have H : ∀ (m k : Nat) (g : pG), k + m = S → fr [40, 41, 42] [] G g → (∀ j : Nat, j < k → g 40 j = mkC G (G 23 j) ∧ g 41 j = mkC G (G 23 j + G 9 j * G 5 (G 8 j).toNat) ∧ g 42 j = mkC G (G 23 j + tnC G j)) → pEnds pMT d 11 Yc (fun r g => r = none ∧ (fr [40, 41, 42] [] G g ∧ ∀ k : Nat, k < S → g 40 k = mkC G (G 23 k) ∧ g 41 k = mkC G (G 23 k + G 9 k * G 5 (G 8 k).toNat) ∧ g 42 k = mkC G (G 23 k + tnC G k))) 2 [pR 39, pI (k : Int)] [] g := by
    intro m
    induction m with
    | zero =>
      intro k g hk f hv
      obtain rfl : k = S := by omega
      exact v11_2 ⟨fun _ => ⟨rfl, f, hv⟩, fun z => by rw [(inv g f).1.1.1] at z; omega⟩
    | succ m ih =>
      intro k g hk f hv
      have hkS : k < S := by omega
      obtain ⟨c0, p0, t0, m0, b0, n0, f0, l0⟩ := inv g f
      obtain ⟨u1, u2, u3, u4⟩ := tnC_bd h hkS
      obtain ⟨w1, w2⟩ := hp.2.2 k hkS
      have hpl := hp.2.1
      have ed : tnC G k = G 9 k * G 5 (G 8 k).toNat + G 10 k := rfl
      have d0 := (h.2.2.2.2 k hkS).2.2.2.2.1
      have e22 : ∀ g', fr [40, 41, 42] [] G g' → g' 22 2 = G 22 2 := fun g' f' => by rw [f'.c 22 (by decide)]
      refine v11_2 ⟨fun z => by rw [c0.1.1] at z; omega, fun _ => ⟨by omega, by omega, ?_⟩⟩
      rw [Int.toNat_natCast, b0]
      refine pC1.of (by omega) (z12 c0 p0 w1 (by rw [e22 g f]; omega)) ⟨by omega, by omega, by omega, by omega, ?_⟩
      rw [m0]
      obtain ⟨g1, q1⟩ : ∃ g1, g1 = pset g 40 k (mkC G (G 23 k)) := ⟨_, rfl⟩
      rw [← q1]
      have f1 : fr [40, 41, 42] [] G g1 := by rw [q1]; exact f.trans (fr.set (by decide) (by decide) _ _ _)
      obtain ⟨c1, p1, t1, m1, b1, n1, f5, l1⟩ := inv g1 f1
      have r62 := z62 (d := d - 1) c1 hkS
      rw [n1, f5, l1] at r62
      refine pC1.of (by omega) r62 ?_
      rw [b1, w32_id (x := G 23 k + G 9 k * G 5 (G 8 k).toNat) (by omega) (by omega)]
      refine pC1.of (by omega) (z12 c1 p1 (by omega) (by rw [e22 g1 f1]; omega)) ⟨by omega, by omega, by omega, by omega, ?_⟩
      rw [m1]
      obtain ⟨g2, q2⟩ : ∃ g2, g2 = pset g1 41 k (mkC G (G 23 k + G 9 k * G 5 (G 8 k).toNat)) := ⟨_, rfl⟩
      rw [← q2]
      have f2 : fr [40, 41, 42] [] G g2 := by rw [q2]; exact f1.trans (fr.set (by decide) (by decide) _ _ _)
      obtain ⟨c2, p2, t2, m2, b2, n2, f6, l2⟩ := inv g2 f2
      have r63 := z63 (d := d - 1) c2 hkS (by omega)
      rw [t2] at r63
      refine pC1.of (by omega) r63 ?_
      rw [b2, w32_id (x := G 23 k + tnC G k) (by omega) (by omega)]
      refine pC1.of (by omega) (z12 c2 p2 (by omega) (by rw [e22 g2 f2]; omega)) ⟨by omega, by omega, ?_⟩
      rw [m2, w32_id (by omega) (by omega)]
      rintro _ rfl
      refine ih (k + 1) _ (by omega) (f2.trans (fr.set (by decide) (by decide) _ _ _)) (fun j hj => ?_)
      have v40 : pset g2 42 k (mkC G (G 23 k + tnC G k)) 40 j = if j = k then mkC G (G 23 k) else g 40 j := by rw [pset_cl _ _ (by decide), q2, pset_cl _ _ (by decide), q1, pset_at, if_pos rfl]
      have v41 : pset g2 42 k (mkC G (G 23 k + tnC G k)) 41 j = if j = k then mkC G (G 23 k + G 9 k * G 5 (G 8 k).toNat) else g 41 j := by rw [pset_cl _ _ (by decide), q2, pset_at, if_pos rfl, q1, pset_cl _ _ (by decide)]
      have v42 : pset g2 42 k (mkC G (G 23 k + tnC G k)) 42 j = if j = k then mkC G (G 23 k + tnC G k) else g 42 j := by rw [pset_at, if_pos rfl, q2, pset_cl _ _ (by decide), q1, pset_cl _ _ (by decide)]
      rw [v40, v41, v42]
      by_cases e : j = k
      · rw [if_pos e, if_pos e, if_pos e, e]
        exact ⟨rfl, rfl, rfl⟩
      · rw [if_neg e, if_neg e, if_neg e]
        exact hv j (by omega)
  rintro _ rfl
  exact H S 0 G (by omega) (fr.refl _ _ _) (fun j hj => by omega)
theorem z43 {d : Nat} {G : pG} (hd : 1 ≤ d) : ∃ G', pRuns pMT d 43 [pR 43] Yc G none G' ∧ (fr [49, 52, 53, 54, 55, 56, 57] [] G G' ∧ (∀ t : Nat, t < 6 → G' 49 t = -1) ∧ ∀ t k : Nat, t < 6 → k < 4 → G' (52 + t) k = -2) := by
  refine pX0 rfl rfl (v43_0 ?_)
  refine pC0.ox (by omega) (s267 (r := 49) (n := 6) (x := -1) rfl (by omega) (by decide)) (fun A hA => ?_)
  obtain ⟨fA, vA⟩ := hA
  have H : ∀ (m k : Nat) (g : pG), k + m = 4 → fr [52, 53, 54, 55, 56, 57] [] A g → (∀ t j : Nat, t < 6 → j < k → g (52 + t) j = -2) → pEnds pMT d 43 Yc (fun r g => r = none ∧ (fr [49, 52, 53, 54, 55, 56, 57] [] G g ∧ (∀ t : Nat, t < 6 → g 49 t = -1) ∧ ∀ t k : Nat, t < 6 → k < 4 → g (52 + t) k = -2)) 10 [pR 43, pI (k : Int)] [] g := by
    intro m
    induction m with
    | zero =>
      intro k g hk f hv
      obtain rfl : k = 4 := by omega
      exact v43_10 ⟨fun _ => ⟨rfl, (fA.mono (by decide) (by decide)).trans (f.mono (by decide) (by decide)), fun t ht => by rw [f.c 49 (by decide)]; exact vA t ht, hv⟩, fun z => absurd z (by decide)⟩
    | succ m ih =>
      intro k g hk f hv
      refine v43_10 ⟨fun z => by omega, fun _ => pC0.ox (by omega) (s44 (k := k) (by omega)) (fun B hB => ?_)⟩
      obtain ⟨fB, vB⟩ := hB
      rw [w32_id (by omega) (by omega)]
      rintro _ rfl
      refine ih (k + 1) B (by omega) (f.trans fB) (fun t j ht hj => ?_)
      obtain ⟨b1, b2⟩ := vB t ht
      by_cases e : j = k
      · rw [e]; exact b1
      · rw [b2 j e]; exact hv t j ht (by omega)
  rintro _ rfl
  exact H 4 0 A (by omega) (fr.refl _ _ _) (fun t j _ hj => by omega)
theorem z58 {d : Nat} {G : pG} : ∃ G', pRuns pMT d 58 [pR 3, pR 13] Yc G none G' ∧ (fr [3, 4, 5, 6, 7, 8, 9, 10, 11] [] G G' ∧ (G' 3 0 = G 13 0 ∧ G' 3 1 = G 13 1 ∧ G' 3 2 = G 13 2 ∧ G' 3 3 = G 13 3) ∧ (∀ t : Nat, t < 6 → G' 5 t = G 15 t ∧ G' 6 t = G 16 t ∧ G' 7 t = G 17 t) ∧ ∀ k : Nat, k < 7 → G' 8 k = G 18 k ∧ G' 9 k = G 19 k ∧ G' 10 k = G 20 k ∧ G' 11 k = G 21 k) := by
  refine pX0 rfl rfl (v58_0 ⟨by decide, by decide, by decide, by decide, by decide, by decide, by decide, by decide, rfl, ?_, ?_, ?_, ?_⟩)
  · exact (fr.set (by decide) (by decide) _ _ _).trans ((fr.set (by decide) (by decide) _ _ _).trans ((fr.set (by decide) (by decide) _ _ _).trans ((fr.set (by decide) (by decide) _ _ _).trans ((fr.cpy (by decide) (by decide) _ _ _ _ _).trans ((fr.cpy (by decide) (by decide) _ _ _ _ _).trans ((fr.cpy (by decide) (by decide) _ _ _ _ _).trans ((fr.cpy (by decide) (by decide) _ _ _ _ _).trans ((fr.cpy (by decide) (by decide) _ _ _ _ _).trans ((fr.cpy (by decide) (by decide) _ _ _ _ _).trans ((fr.cpy (by decide) (by decide) _ _ _ _ _).trans (fr.cpy (by decide) (by decide) _ _ _ _ _)))))))))))
  · simp [pcpy_at, pset_at]
  · intro t ht
    simp [pcpy_at, pset_at, ht]
  · intro k hk
    simp [pcpy_at, pset_at, hk]
