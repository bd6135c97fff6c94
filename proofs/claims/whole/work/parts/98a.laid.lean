/-! the class' plan, laid out: the whole -/
def lW : List Nat := [22, 23, 24, 25, 26, 27, 28, 29, 31, 32, 33, 34, 35, 36, 37, 38]
theorem z83 {d : Nat} {G : pG} {S : Nat} (h : cpt G S) (hd : 14 ≤ d) : ∃ G', pRuns pMT d 83 [pR 22] Yc G none G' ∧ (fr lW [] G G' ∧ (∀ k, k < S → G' 24 k = tnC G k ∧ G' 26 k = vBits (apC G k) S) ∧ ∀ b l, bst S (tnC G) (wtC G) (apC G) l b → G' 22 2 = l ∧ eqS S (G' 23) b) := by
  have h0 := h.1
  have hb : ∀ k, k < S → 1 ≤ tnC G k ∧ tnC G k ≤ 20099 := fun k hk => (tnC_bd h hk).2.2
  have inv : ∀ g, fr lW [] G g → cpt g S ∧ tnC g = tnC G ∧ apC g = apC G ∧ wtC g = wtC G := fun g f => by
    obtain ⟨a, b, -, c, e⟩ := cpt_c (S := S) (G := G) (G' := g) (fun c hc => f.1 c (by revert hc; revert c; decide) (by revert hc; revert c; decide))
    exact ⟨a h, b, c, e⟩
  have p7 : ∀ j, j < S → (2 : Int) ^ j ≤ 2 ^ 7 := by
    have : ∀ k : Nat, k ≤ 7 → (2 : Int) ^ k ≤ 2 ^ 7 := by decide
    exact fun j hj => this j (by omega)
  have pS : (2 : Int) ^ S ≤ 2 ^ 7 := by
    have : ∀ k : Nat, k ≤ 7 → (2 : Int) ^ k ≤ 2 ^ 7 := by decide
    exact this S h0.2
  obtain ⟨rw1, rw2, rw3⟩ := row30 0 (by omega)
  have low : ∀ k j, k < S → wtC G k j = true → j < k := fun k j hk hw => by
    by_cases q : j < k
    · exact q
    · have st := h.2.2.2.2 k hk
      have := bt_big (a := G 11 k) (k := j) (n := k) st.2.2.2.2.2.2.1 st.2.2.2.2.2.2.2 (by omega)
      unfold wtC at hw
      rw [this] at hw
      exact absurd hw (by decide)
  obtain ⟨R, hR⟩ : ∃ R : Option pV → pG → Prop, R = (fun r g => r = none ∧ (fr lW [] G g ∧ (∀ k, k < S → g 24 k = tnC G k ∧ g 26 k = vBits (apC G k) S) ∧ ∀ b l, bst S (tnC G) (wtC G) (apC G) l b → g 22 2 = l ∧ eqS S (g 23) b)) := ⟨_, rfl⟩
  refine pX0 rfl rfl ?_
  rw [← hR]
  -- what was laid for the steps from k on
  have L2 : ∀ (m k : Nat) (g : pG), k + m = S → fr lW [] G g → (∀ j, j < S → g 24 j = tnC G j ∧ g 26 j = vBits (apC G j) S ∧ g 31 j = 0 ∧ 0 ≤ g 25 j ∧ g 25 j ≤ 20099 * ((S : Int) - (j : Int))) → tlOk S (tnC G) (wtC G) (g 25) → (∀ i, i < k → 0 ≤ g 27 i ∧ g 27 i < 128 ∧ ∀ a b, a < S → b < S → bt (g 27 i) a = true → bt (g 27 i) b = true → a ≠ b → nev (wtC G) (apC G) a b) → pEnds pMT d 83 Yc R 77 [pR 22, pI (k : Int)] [] g := by
    intro m
    induction m with
    | zero =>
      intro k g hk f g1 g2 g3
      obtain rfl : k = S := by omega
      obtain ⟨cg, e1, e2, e3⟩ := inv g f
      refine v83_77 ⟨fun _ => ⟨Or.inl rfl, ?_⟩, fun z => by rw [cg.1.1] at z; omega⟩
      obtain ⟨q, hq⟩ : ∃ q, q = pset (pset g 22 3 0) 22 2 0 := ⟨_, rfl⟩
      rw [← hq]
      have fq : fr [22] [] g q := by rw [hq]; exact (fr.set (by decide) (by decide) _ _ _).trans (fr.set (by decide) (by decide) _ _ _)
      have fQ : fr lW [] G q := f.trans (fq.mono (by decide) (by decide))
      have cq : cx q k (tnC G) (wtC G) (apC G) (g 25) := by
        refine ⟨⟨by rw [fq.c 3 (by decide)]; exact cg.1.1, h0.2⟩, fun j hj => ⟨by rw [fq.c 24 (by decide)]; exact (g1 j hj).1, hb j hj⟩, fun j hj => ?_, fun j hj => ?_, fun j hj => ?_, g2, fun j hj => by rw [fq.c 27 (by decide)]; exact g3 j hj, fun j _ => by simp [apC], fun i j hi hj => (apC_sy h hi hj).1⟩
        · have st := h.2.2.2.2 j hj
          have := p7 j hj
          rw [fQ.c 11 (by decide)]
          exact ⟨st.2.2.2.2.2.2.1, by omega, fun i => rfl, fun i hi => low j i hj hi⟩
        · rw [fq.c 26 (by decide), (g1 j hj).2.1]
          obtain ⟨b1, b2, b3⟩ := vBits_bd (apC G j) k (by omega)
          exact ⟨b1, by omega, fun i hi => by rw [b3, decide_eq_true hi, Bool.true_and]⟩
        · rw [fq.c 25 (by decide)]
          have := g1 j hj
          exact ⟨rfl, this.2.2.2.1, by omega⟩
      have no : ∀ j, bt 0 j = false := bt0
      have root : ndI k (tnC G) (wtC G) (apC G) 0 0 (-1) 0 (q 28) (q (31 + 0)) := by
        refine ⟨⟨by omega, by omega⟩, fun j hj => by rw [no j] at hj; exact absurd hj (by decide), ?_, ⟨by omega, by omega⟩, fun j _ hj => by rw [no j] at hj; exact absurd hj (by decide), Or.inl rfl, fun i j _ _ hj => by rw [no i] at hj; exact absurd hj (by decide), fun i j _ _ hj => by rw [no i] at hj; exact absurd hj (by decide), fun j hj => ⟨?_, fun i _ hi => by rw [no i] at hi; exact absurd hi (by decide), Or.inl ?_⟩, Or.inl ⟨rfl, fun j _ => no j⟩⟩
        · rw [vSm_c (g := fun _ => 0) k (fun j _ => by rw [if_neg (by rw [no j]; decide)]), vSm_z]
          rfl
        · rw [fq.c (31 + 0) (by decide), show g (31 + 0) j = g 31 j from rfl, (g1 j hj).2.2.1]
          exact Int.le_refl _
        · rw [fq.c (31 + 0) (by decide)]
          exact (g1 j hj).2.2.1
      refine pC0.ox (by omega) (z87 k (tnC G) (wtC G) (apC G) (g 25) k (d := d - 1) (dp := 0) (Q := 0) (la := -1) (lat := 0) (G := q) cq (by omega) (by omega) root (fun i j _ hi => by rw [no i] at hi; exact absurd hi (by decide)) (Or.inl (by rw [hq, pset_ne _ _ (by decide), pset_eq]))) (fun B hB => ?_)
      obtain ⟨o1, -, -, o4, -, o6⟩ := hB
      rw [hR]
      refine ⟨rfl, fQ.trans (o1.mono (by decide) (by decide)), fun j hj => ?_, fun b l hbst => ?_⟩
      · rw [o1.c 24 (by decide), o1.c 26 (by decide), fq.c 24 (by decide), fq.c 26 (by decide)]
        exact ⟨(g1 j hj).1, (g1 j hj).2.1⟩
      · obtain ⟨a1, a2⟩ := o6 b l hbst ⟨fun j _ hj => by rw [no j] at hj; exact absurd hj (by decide), fun i j _ _ hi => by rw [no i] at hi; exact absurd hi (by decide)⟩
        rcases o4 with o4 | ⟨-, o4, o5⟩
        · omega
        · have := hbst.2.2 _ o4
          rw [← o5] at this
          exact plLe_as a2 this
    | succ m ih =>
      intro k g hk f g1 g2 g3
      obtain ⟨cg, e1, e2, e3⟩ := inv g f
      obtain ⟨r, r1, r2, r3, r4⟩ := z85 (d := d - 1) cg (show k < S by omega) (fun j hj => by rw [e2]; exact (g1 j hj).2.1) (by omega)
      rw [e2, e3] at r4
      refine v83_77 ⟨fun z => by rw [cg.1.1] at z; omega, fun _ => pC1.of (by omega) r1 ⟨by omega, by omega, ?_⟩⟩
      rw [w32_id (by omega) (by omega), Int.toNat_natCast]
      rintro _ rfl
      have f2 : fr [27] [] g (pset g 27 k r) := fr.set (by decide) (by decide) _ _ _
      refine ih (k + 1) _ (by omega) (f.trans (f2.mono (by decide) (by decide))) (fun j hj => by rw [f2.c 24 (by decide), f2.c 26 (by decide), f2.c 31 (by decide), f2.c 25 (by decide)]; exact g1 j hj) (by rw [f2.c 25 (by decide)]; exact g2) (fun i hi => ?_)
      rw [pset_at, if_pos rfl]
      by_cases e : i = k
      · rw [if_pos e]; exact ⟨r2, r3, r4⟩
      · rw [if_neg e]; exact g3 i (by omega)
  have L1 : ∀ (k : Nat) (g : pG), k ≤ S → fr lW [] G g → (∀ j, k ≤ j → j < S → g 24 j = tnC G j ∧ g 26 j = vBits (apC G j) S ∧ g 31 j = 0 ∧ 0 ≤ g 25 j ∧ g 25 j ≤ 20099 * ((S : Int) - (j : Int)) ∧ (g 25 j = tnC G j ∨ ∃ i, j < i ∧ i < S ∧ wtC G i j = true ∧ g 25 j = tnC G j + g 25 i)) → pEnds pMT d 83 Yc R 10 [pR 22, pI ((k : Int) - 1)] [] g := by
    intro k
    induction k with
    | zero =>
      intro g hk f g1
      refine v83_10 ⟨fun _ => ?_, fun z => by omega⟩
      rintro _ rfl
      refine L2 S 0 g (by omega) f (fun j hj => ?_) (fun j hj => (g1 j (by omega) hj).2.2.2.2.2) (fun i hi => by omega)
      have := g1 j (by omega) hj
      exact ⟨this.1, this.2.1, this.2.2.1, this.2.2.2.1, this.2.2.2.2.1⟩
    | succ k ih =>
      intro g hk f g1
      have hkS : k < S := by omega
      have ek : (((k + 1 : Nat) : Int) - 1) = (k : Int) := by omega
      rw [ek]
      obtain ⟨cg, e1, e2, e3⟩ := inv g f
      have tk := hb k hkS
      refine v83_10 ⟨fun z => by omega, fun _ => pC1.of (by omega) (z63 cg hkS (by omega)) ⟨by omega, by omega, ?_⟩⟩
      rw [e1, Int.toNat_natCast]
      have f1 : fr [24] [] g (pset g 24 k (tnC G k)) := fr.set (by decide) (by decide) _ _ _
      obtain ⟨cg1, -, e21, -⟩ := inv _ (f.trans (f1.mono (by decide) (by decide)))
      refine pC1.of (by omega) (z64 cg1 hkS (by omega)) ⟨by omega, by omega, by omega, by omega, 31, rw1, ?_⟩
      rw [rw2, rw3, e21]
      simp only [cond_true]
      refine ⟨by omega, by omega, by omega, by omega, ?_⟩
      obtain ⟨q, hq⟩ : ∃ q, q = pset (pset (pset g 24 k (tnC G k)) 26 k (vBits (apC G k) S)) 31 k 0 := ⟨_, rfl⟩
      rw [← hq]
      have fq : fr [24, 26, 31] [] g q := by rw [hq]; exact (fr.set (by decide) (by decide) _ _ _).trans ((fr.set (by decide) (by decide) _ _ _).trans (fr.set (by decide) (by decide) _ _ _))
      have fQ : fr lW [] G q := f.trans (fq.mono (by decide) (by decide))
      obtain ⟨cq, -, -, e3q⟩ := inv q fQ
      have q25 : q 25 = g 25 := fq.c 25 (by decide)
      obtain ⟨r, r1, r2, r3, r4⟩ := z84 (d := d - 1) cq hkS (fun j hj hjS => by rw [q25]; have := g1 j (by omega) hjS; exact ⟨this.2.2.2.1, this.2.2.2.2.1⟩) (by omega)
      rw [q25, e3q] at r4
      refine pC1.of (by omega) r1 ⟨by omega, by omega, ?_⟩
      have q24 : q 24 k = tnC G k := by rw [hq, pset_cl _ _ (by decide), pset_cl _ _ (by decide), pset_eq]
      rw [q24, w32_id (x := tnC G k + r) (by omega) (by omega), show (k : Int) + -1 = (k : Int) - 1 by omega, w32_id (x := (k : Int) - 1) (by omega) (by omega)]
      rintro _ rfl
      have f3 : fr [25] [] q (pset q 25 k (tnC G k + r)) := fr.set (by decide) (by decide) _ _ _
      have v25 : ∀ j, pset q 25 k (tnC G k + r) 25 j = if j = k then tnC G k + r else g 25 j := fun j => by rw [pset_at, if_pos rfl, q25]
      have v24 : ∀ j, pset q 25 k (tnC G k + r) 24 j = if j = k then tnC G k else g 24 j := fun j => by rw [f3.c 24 (by decide), hq, pset_cl _ _ (by decide), pset_cl _ _ (by decide), pset_at, if_pos rfl]
      have v26 : ∀ j, pset q 25 k (tnC G k + r) 26 j = if j = k then vBits (apC G k) S else g 26 j := fun j => by rw [f3.c 26 (by decide), hq, pset_cl _ _ (by decide), pset_at, if_pos rfl, pset_cl _ _ (by decide)]
      have v31 : ∀ j, pset q 25 k (tnC G k + r) 31 j = if j = k then 0 else g 31 j := fun j => by rw [f3.c 31 (by decide), hq, pset_at, if_pos rfl, pset_cl _ _ (by decide), pset_cl _ _ (by decide)]
      refine ih _ (by omega) (fQ.trans (f3.mono (by decide) (by decide))) (fun j hj hjS => ?_)
      rw [v24, v26, v31, v25]
      by_cases e : j = k
      · subst e
        rw [if_pos rfl, if_pos rfl, if_pos rfl, if_pos rfl]
        refine ⟨rfl, rfl, rfl, by omega, by omega, ?_⟩
        rcases r4 with r4 | ⟨i, i1, i2, i3, i4⟩
        · exact Or.inl (by omega)
        · exact Or.inr ⟨i, i1, i2, i3, by rw [v25, if_neg (by omega), i4]⟩
      · rw [if_neg e, if_neg e, if_neg e, if_neg e]
        obtain ⟨a1, a2, a3, a4, a5, a6⟩ := g1 j (by omega) hjS
        refine ⟨a1, a2, a3, a4, a5, ?_⟩
        rcases a6 with a6 | ⟨i, i1, i2, i3, i4⟩
        · exact Or.inl a6
        · exact Or.inr ⟨i, i1, i2, i3, by rw [v25, if_neg (by omega)]; exact i4⟩
  refine v83_0 ?_
  rw [h0.1, w32_id (by omega) (by omega)]
  rintro _ rfl
  exact L1 S G (Nat.le_refl _) (fr.refl _ _ _) (fun j hj hjS => by omega)
