/-! the class' plan: the search as a whole -/
theorem z87_aux (S n : Nat) (t : Nat → Int) (W F : Nat → Nat → Bool) (T : Nat → Int) (IH : ∀ n', n' + 1 = n → ∀ {d dp : Nat} {Q la lat : Int} {G : pG}, cx G S t W F T → dp + n' = S → n' + 4 ≤ d → ndI S t W F Q dp la lat (G 28) (G (31 + dp)) → (∀ i j, i < S → bt Q i = true → W i j = true → bt Q j = true) → zok S t W F G → ∃ G', pRuns pMT d 87 [pR 22, pI (dp : Int), pI Q, pI la, pI lat] Yc G none G' ∧ zPost S t W F G dp Q G') {d dp : Nat} {Q la lat : Int} {G : pG} (hx : cx G S t W F T) (hdn : dp + n = S) (hd : n + 4 ≤ d) (hN : ndI S t W F Q dp la lat (G 28) (G (31 + dp))) (hcl : ∀ i j, i < S → bt Q i = true → W i j = true → bt Q j = true) (hz : zok S t W F G) : ∃ G', pRuns pMT d 87 [pR 22, pI (dp : Int), pI Q, pI la, pI lat] Yc G none G' ∧ zPost S t W F G dp Q G' := by
  have S7 := hx.1.2
  have ht : ∀ k, k < S → 1 ≤ t k ∧ t k ≤ 20099 := fun k hk => (hx.2.1 k hk).2
  have hWl : ∀ k j, k < S → W k j = true → j < k := fun k j hk hw => (hx.2.2.1 k hk).2.2.2 j hw
  have hir := hx.2.2.2.2.2.2.2.1
  have hsy := hx.2.2.2.2.2.2.2.2
  have hNN := hN
  obtain ⟨⟨q1, q2⟩, q3, q4, ⟨l0, l1⟩, q5, q6, q7, q8, q9, q10⟩ := hN
  obtain ⟨R, hR⟩ : ∃ R : Option pV → pG → Prop, R = (fun r g => r = none ∧ zPost S t W F G dp Q g) := ⟨_, rfl⟩
  -- what stays while the search goes on
  have inv : ∀ g, fr sW8 [] G g → cx g S t W F T := fun g f => cx_c (fun c hc => f.1 c (by revert hc; revert c; decide) (by revert hc; revert c; decide)) hx
  refine pX0 rfl rfl ?_
  rw [← hR]
  refine v87_0 ⟨fun z => by omega, fun _ => ?_⟩
  -- the leaf
  have LEAF : ∀ g, fr [29] [] G g → dp = S → (G 22 3 ≠ 0 → plLe S lat (G 28) (G 22 2) (G 23)) → R none (pset (pset (pcpy g 28 (Int.toNat 0) 23 (Int.toNat 0) (Int.toNat 7)) 22 2 lat) 22 3 1) := by
    intro g f hS hb
    subst hS
    have all : ∀ j, j < dp → bt Q j = true := cnt_all (X := bt Q) dp q4
    obtain ⟨h, hh⟩ : ∃ h, h = pset (pset (pcpy g 28 (Int.toNat 0) 23 (Int.toNat 0) (Int.toNat 7)) 22 2 lat) 22 3 1 := ⟨_, rfl⟩
    rw [← hh]
    have Fh : fr sW8 [] g h := by rw [hh]; exact (fr.cpy (by decide) (by decide) _ _ _ _ _).trans ((fr.set (by decide) (by decide) _ _ _).trans (fr.set (by decide) (by decide) _ _ _))
    have FG : fr sW8 [] G h := (f.mono (by decide) (by decide)).trans Fh
    have h23 : eqS dp (h 23) (G 28) := fun j hj => by
      rw [hh, pset_cl _ _ (by decide), pset_cl _ _ (by decide), pcpy_at, if_pos rfl, if_pos ⟨by simp, by simp; omega⟩, f.c 28 (by decide)]
      show G 28 (0 + (j - 0)) = G 28 j
      rw [show 0 + (j - 0) = j by omega]
    have h222 : h 22 2 = lat := by rw [hh, pset_ne _ _ (by decide), pset_eq]
    have h223 : h 22 3 = 1 := by rw [hh, pset_eq]
    have fe : plF dp t W F (G 28) := ⟨fun k hk => (q5 k hk (all k hk)).1, fun k l hk hl hw => q7 k l hk hl (all k hk) (all l hl) hw, fun k l hk hl hne hf => q8 k l hk hl (all k hk) (all l hl) hne hf⟩
    have el : lat = plL dp t (G 28) := by
      have a := plL_ge dp t (G 28)
      have b : plL dp t (G 28) ≤ lat := plL_le l0 (fun k hk => (q5 k hk (all k hk)).2)
      rcases q6 with q6 | ⟨j, j1, j2, j3⟩
      · omega
      · have := a.2 j j1; omega
    have sy : eqS dp (G 28) (h 23) := fun j hj => (h23 j hj).symm
    rw [hR]
    refine ⟨rfl, FG, fun e he => ?_, fun j hj => ?_, Or.inr ⟨h223, plF_c sy fe, ?_⟩, fun z => ⟨h223, ?_⟩, fun b l hb hp => ⟨h223, ?_⟩⟩
    · have e1 : ∀ v : Nat, v ≠ 22 → v ≠ 23 → h v = g v := fun v v1 v2 => by rw [hh, pset_cl _ _ v1, pset_cl _ _ v1]; unfold pcpy; rw [if_neg v2]
      rw [e1 _ (by omega) (by omega), f.1 _ (by simp; omega) (by omega)]
    · have e1 : ∀ v : Nat, v ≠ 22 → v ≠ 23 → h v = g v := fun v v1 v2 => by rw [hh, pset_cl _ _ v1, pset_cl _ _ v1]; unfold pcpy; rw [if_neg v2]
      rw [e1 28 (by decide) (by decide), f.c 28 (by decide)]
    · rw [h222, el]; exact plL_c sy
    · rw [h222]
      exact plLe_tr (Or.inr ⟨rfl, Or.inr h23⟩) (hb z)
    · rw [h222]
      have eb : eqS dp (h 23) b := fun j hj => by rw [h23 j hj]; exact hp.1 j hj (all j hj)
      refine Or.inr ⟨?_, Or.inr eb⟩
      rw [hb.2.1, el]
      exact plL_c (fun j hj => hp.1 j hj (all j hj))
  -- the loop
  have LOOP : ∀ g, fr [29] [] G g → dp < S → pEnds pMT d 87 Yc R 67 [pR 22, pI (dp : Int), pI Q, pI la, pI lat, pI 0, pU] [] g := by
    intro g0 f0 hlt
    obtain ⟨n', hn'⟩ : ∃ n', n' + 1 = n := ⟨n - 1, by omega⟩
    obtain ⟨rw1, rw2, rw3⟩ := row30 dp (by omega)
    have H : ∀ (m k : Nat) (g : pG), k + m = S → fr sW8 [] G g → (∀ e, e ≤ dp → g (31 + e) = G (31 + e)) → (∀ j, bt Q j = true → g 28 j = G 28 j) → zok S t W F g → (G 22 3 ≠ 0 → g 22 3 = 1 ∧ plLe S (g 22 2) (g 23) (G 22 2) (G 23)) → (∀ b l, bst S t W F l b → pfx S (bt Q) (G 28) b → ∀ kk, kk < S → kk < k → bt Q kk = false → (∀ j, j < S → bt Q j = false → b kk < b j ∨ (b kk = b j ∧ kk ≤ j)) → g 22 3 = 1 ∧ plLe S (g 22 2) (g 23) l b) → pEnds pMT d 87 Yc R 67 [pR 22, pI (dp : Int), pI Q, pI la, pI lat, pI (k : Int), pU] [] g := by
      intro m
      induction m with
      | zero =>
        intro k g hk f hr htr hzg hmo hco
        have cg := inv g f
        refine v87_67 ⟨fun _ => ?_, fun z => by rw [cg.1.1] at z; omega⟩
        rw [hR]
        refine ⟨rfl, f, hr, htr, hzg, hmo, fun b l hb hp => ?_⟩
        obtain ⟨j, j1, j2⟩ := cnt_some (X := bt Q) S (by omega)
        obtain ⟨kk, k1, k2, k3⟩ := amin (X := fun j => !bt Q j) (b := b) S ⟨j, j1, by simp [j2]⟩
        exact hco b l hb hp kk k1 (by omega) (by simpa using k2) (fun j hj hq => k3 j hj (by simp [hq]))
      | succ m ih =>
        intro k g hk f hr htr hzg hmo hco
        have cg := inv g f
        have hkS : k < S := by omega
        -- on to the next one, if this is none for the best plan
        have skip : (∀ b l, bst S t W F l b → pfx S (bt Q) (G 28) b → bt Q k = false → (∀ j, j < S → bt Q j = false → b k < b j ∨ (b k = b j ∧ k ≤ j)) → False) → ∀ x : Int, x = w32 ((k : Int) + 1) → pEnds pMT d 87 Yc R 67 [pR 22, pI (dp : Int), pI Q, pI la, pI lat, pI x, pU] [] g := by
          intro no
          rw [w32_id (by omega) (by omega)]
          rintro _ rfl
          refine ih (k + 1) g (by omega) f hr htr hzg hmo (fun b l hb hp kk k1 k2 k3 k4 => ?_)
          by_cases e : kk = k
          · subst e
            exact (no b l hb hp k3 k4).elim
          · exact hco b l hb hp kk k1 (by omega) k3 k4
        have aAct : ∀ b l, bst S t W F l b → pfx S (bt Q) (G 28) b → bt Q k = false → (∀ j, j < S → bt Q j = false → b k < b j ∨ (b k = b j ∧ k ≤ j)) → G (31 + dp) k = b k ∧ (∀ j, j < S → W k j = true → bt Q j = true) := fun b l hb hp hq hm => act (fun k hk => (ht k hk).1) hir hsy q9 hp hb hkS hq hm
        obtain ⟨w1, w2, w3, -⟩ := cg.2.2.1 k hkS
        obtain ⟨n1, n2, n3⟩ := pandn w1 w2 q1 q2
        refine v87_67 ⟨fun z => by rw [cg.1.1] at z; omega, fun _ => pC1.of (by omega) (s119i q1 (by omega) (by omega)) ⟨fun z => skip (fun b l hb hp hq _ => by rw [b2i_n0.mp z] at hq; exact absurd hq (by decide)), fun z => ⟨by omega, by omega, ?_⟩⟩⟩
        have hq : bt Q k = false := Bool.eq_false_iff.mpr (b2i_0.mp z)
        rw [Int.toNat_natCast]
        refine ⟨fun y => skip (fun b l hb hp hq hm => ?_), fun y => ⟨by omega, by omega, 31 + dp, by rw [Int.toNat_natCast]; exact rw1, ?_⟩⟩
        · apply y
          refine bt_z n1 (fun j => ?_)
          rw [n3, w3]
          cases c : W k j with
          | false => rfl
          | true =>
            have := (aAct b l hb hp hq hm).2 j (by have := hWl k j hkS c; omega) c
            rw [this]
            rfl
        · have hw : ∀ j, j < S → W k j = true → bt Q j = true := fun j hj hwj => by
            have := n3 j
            rw [y, bt0, w3, hwj] at this
            cases c : bt Q j with
            | true => rfl
            | false => rw [c] at this; exact absurd this (by decide)
          rw [rw2, rw3]
          simp only [Int.toNat_natCast, cond_true]
          rw [hr dp (Nat.le_refl _)]
          refine ⟨by omega, by omega, ?_⟩
          have rl := rdy_lat hNN hkS
          have laS : ∃ l : Nat, la = -1 ∨ (la = (l : Int) ∧ l < 7 ∧ bt Q l = true) := by
            rcases q10 with ⟨h, -⟩ | ⟨l, a1, a2, a3, -⟩
            · exact ⟨0, Or.inl h⟩
            · exact ⟨l, Or.inr ⟨a2, by omega, a3⟩⟩
          obtain ⟨la', hla'⟩ := laS
          obtain ⟨r, r1, r2⟩ := z88 (d := d - 1) (G := g) (k := k) (l := la') (st := G (31 + dp) k) (la := la) (by omega)
          refine pC1.of (by omega) r1 ⟨fun x => ⟨by omega, by omega, 31 + dp, by rw [rw1], ?_⟩, fun x => skip (fun b l hb hp hq hm => ?_)⟩
          · rw [rw2, rw3]
            simp only [cond_true]
            have hla : ∀ l : Nat, la = (l : Int) → G 28 l < G (31 + dp) k ∨ (G 28 l = G (31 + dp) k ∧ l ≤ k) := by
              intro l hl
              rcases r2 with ⟨-, r2⟩ | ⟨r2, -⟩
              · rcases hla' with h | ⟨h, -, h3⟩
                · omega
                · have el : l = la' := by omega
                  subst el
                  have := r2 (by omega)
                  rw [htr l h3] at this
                  exact this
              · omega
            rw [hr dp (Nat.le_refl _)]
            refine ⟨by omega, by omega, by omega, by omega, by omega, by omega, by omega, by omega, ?_⟩
            have tk := ht k hkS
            rw [pset_eq, pset_cl (b := 24) _ _ (by decide), (cg.2.1 k hkS).1, w32_id (x := G (31 + dp) k + t k) (by omega) (by omega)]
            intro x6 hx6
            rw [hx6, pmx_eq, w32_id (x := (dp : Int) + 1) (by omega) (by omega), w32_id (x := (k : Int) + 1) (by omega) (by omega)]
            obtain ⟨g1, hg1⟩ : ∃ g1, g1 = pset g 28 k (G (31 + dp) k) := ⟨_, rfl⟩
            rw [← hg1]
            have fg1 : fr sW8 [] g g1 := by rw [hg1]; exact fr.set (by decide) (by decide) _ _ _
            have cg1 := inv g1 (f.trans fg1)
            refine pC0.ox (by omega) (z89 (d := d - 1) (G := g1) (dp := dp) (k := k) (en := G (31 + dp) k + t k) cg1 (by omega) hkS (by omega)) (fun g2 hg2 => ?_)
            obtain ⟨f2, row2⟩ := hg2
            have f2' : fr sW8 [] g1 g2 := f2.mono (fun c hc => by rw [List.mem_singleton] at hc; rw [hc]; exact sW8_m (by omega)) (by decide)
            have fG2 := f.trans (fg1.trans f2')
            have cg2 := inv g2 fG2
            have e28 : g2 28 = vUpd (g 28) k (G (31 + dp) k) := by
              rw [f2.1 28 (by simp; omega) (by omega), hg1]
              funext j
              rw [pset_at, if_pos rfl]
              rfl
            have rows2 : ∀ e, e ≤ dp → g2 (31 + e) = G (31 + e) := fun e he => by rw [f2.1 _ (by simp; omega) (by omega), hg1, pset_cl _ _ (by omega)]; exact hr e he
            have row2' : ∀ j, j < S → g2 (31 + (dp + 1)) j = if F k j = true ∨ W j k = true then max (G (31 + dp) j) (G (31 + dp) k + t k) else G (31 + dp) j := fun j hj => by
              rw [row2 j hj, hg1, pset_cl _ _ (by omega), hr dp (Nat.le_refl _)]
            -- the node with the begins as they were told
            have st := ndI_step (r' := g2 (31 + (dp + 1))) S7 ht hWl hir hsy hNN hkS hq hw hla hcl row2'
            have q1' : 0 ≤ por Q (pshl 1 (k : Int)) ∧ por Q (pshl 1 (k : Int)) < 128 := st.1.1
            obtain ⟨p1, p2, p3, p4⟩ := por_set (a := Q) (k := k) q1 (by omega) (by omega)
            have trE : ∀ j, bt (por Q (pshl 1 (k : Int))) j = true → vUpd (G 28) k (G (31 + dp) k) j = g2 28 j := fun j hj => by
              rw [e28]
              rw [p3, Bool.or_eq_true, decide_eq_true_iff] at hj
              unfold vUpd
              by_cases e : j = k
              · rw [if_pos e, if_pos e]
              · rw [if_neg e, if_neg e]
                rcases hj with h | h
                · exact (htr j h).symm
                · exact absurd h e
            have stN : ndI S t W F (por Q (pshl 1 (k : Int))) (dp + 1) (k : Int) (max lat (G (31 + dp) k + t k)) (g2 28) (g2 (31 + (dp + 1))) := by
              obtain ⟨⟨a1, a2, a3, a4, a5, a6, a7, a8, a9, a10⟩, -⟩ := st
              refine ⟨a1, a2, a3, a4, fun j hj hb => ?_, ?_, fun i j hi hj hbi hbj hww => ?_, fun i j hi hj hbi hbj hne hf => ?_, fun mm hm => ?_, ?_⟩
              · rw [← trE j hb]; exact a5 j hj hb
              · rcases a6 with a6 | ⟨j, j1, j2, j3⟩
                · exact Or.inl a6
                · exact Or.inr ⟨j, j1, j2, by rw [← trE j j2]; exact j3⟩
              · rw [← trE i hbi, ← trE j hbj]; exact a7 i j hi hj hbi hbj hww
              · rw [← trE i hbi, ← trE j hbj]; exact a8 i j hi hj hbi hbj hne hf
              · obtain ⟨b1, b2, b3⟩ := a9 mm hm
                refine ⟨b1, fun j hj hb hor => by rw [← trE j hb]; exact b2 j hj hb hor, ?_⟩
                rcases b3 with b3 | ⟨j, j1, j2, j3, j4⟩
                · exact Or.inl b3
                · exact Or.inr ⟨j, j1, j2, j3, by rw [← trE j j2]; exact j4⟩
              · rcases a10 with a10 | ⟨l, b1, b2, b3, b4⟩
                · exact Or.inl a10
                · exact Or.inr ⟨l, b1, b2, b3, fun j hj hb => by rw [← trE j hb, ← trE l b3]; exact b4 j hj hb⟩
            have e22 : g2 22 = g 22 := by rw [f2.1 22 (by simp; omega) (by omega), hg1, pset_cl _ _ (by decide)]
            have e23 : g2 23 = g 23 := by rw [f2.1 23 (by simp; omega) (by omega), hg1, pset_cl _ _ (by decide)]
            have zg2 : zok S t W F g2 := by unfold zok at *; rw [e22, e23]; exact hzg
            refine pC0.ox (by omega) (IH n' hn' (d := d - 1) (dp := dp + 1) (G := g2) cg2 (by omega) (by omega) stN st.2 zg2) (fun g3 hg3 => ?_)
            obtain ⟨o1, o2, o3, o4, o5, o6⟩ := hg3
            rw [e22, e23] at o5
            rintro _ rfl
            refine ih (k + 1) g3 (by omega) (fG2.trans o1) (fun e he => by rw [o2 e (by omega)]; exact rows2 e he) (fun j hj => ?_) o4 (fun z => ?_) (fun b l hb hp kk k1 k2 k3 k4 => ?_)
            · have hj' : bt (por Q (pshl 1 (k : Int))) j = true := by rw [p3, hj]; rfl
              rw [o3 j hj', e28]
              unfold vUpd
              rw [if_neg (fun e => by rw [e, hq] at hj; exact absurd hj (by decide))]
              exact htr j hj
            · obtain ⟨a1, a2⟩ := hmo z
              obtain ⟨b1, b2⟩ := o5 (by omega)
              exact ⟨b1, plLe_tr b2 a2⟩
            · by_cases e : kk = k
              · subst e
                have ac := aAct b l hb hp hq k4
                refine o6 b l hb ?_
                have ps := pfx_step q1 q2 (by omega) hp hq k4 ac.1
                exact ⟨fun j hj hbj => by rw [← trE j hbj]; exact ps.1 j hj hbj, ps.2⟩
              · obtain ⟨a1, a2⟩ := hco b l hb hp kk k1 (by omega) k3 k4
                obtain ⟨b1, b2⟩ := o5 (by omega)
                exact ⟨b1, plLe_tr b2 a2⟩
          · rcases r2 with ⟨r2, -⟩ | ⟨-, r3, r4⟩
            · exact x r2
            · have ac := aAct b l hb hp hq hm
              rcases hla' with h | ⟨h, h2, h3⟩
              · exact r3 h
              · have lS := q3 la' h3
                have o := hp.2 la' k lS hkS h3 hq
                have e := hp.1 la' lS h3
                rw [htr la' h3, e, ac.1] at r4
                omega
    have e22 : g0 22 = G 22 := f0.c 22 (by decide)
    have e23 : g0 23 = G 23 := f0.c 23 (by decide)
    refine H S 0 g0 (by omega) (f0.mono (by decide) (by decide)) (fun e he => f0.1 _ (by simp; omega) (by omega)) (fun j _ => by rw [f0.c 28 (by decide)]) (by unfold zok at *; rw [e22, e23]; exact hz) (fun z => ?_) (fun b l hb hp kk k1 k2 => by omega)
    rw [e22, e23]
    refine ⟨?_, plLe_rf _ _ _⟩
    rcases hz with h | h
    · exact absurd h z
    · exact h.1
  have go : ∀ g, fr [29] [] G g → (dp = S → G 22 3 ≠ 0 → plLe S lat (G 28) (G 22 2) (G 23)) → (((dp : Int) < g 3 2 → ∀ x5 : Int, x5 = 0 → pEnds pMT d 87 Yc R 67 [pR 22, pI (dp : Int), pI Q, pI la, pI lat, pI x5, pU] [] g) ∧ (g 3 2 ≤ (dp : Int) → ((0 ≤ (0 : Int) ∧ 0 ≤ (0 : Int) ∧ 0 ≤ (7 : Int) ∧ (0 : Int) + (7 : Int) ≤ (7 : Int) ∧ (0 : Int) + (7 : Int) ≤ (7 : Int)) ∧ (((1 : Int) = 0 ∨ (1 : Int) = 1) ∧ R none (pset (pset (pcpy g 28 (Int.toNat 0) 23 (Int.toNat 0) (Int.toNat 7)) 22 2 lat) 22 3 1))))) := by
    intro g f hb
    have cg := inv g (f.mono (by decide) (by decide))
    rw [cg.1.1]
    refine ⟨fun z => ?_, fun z => ⟨by decide, Or.inr rfl, LEAF g f (by omega) (hb (by omega))⟩⟩
    rintro _ rfl
    exact LOOP g f (by omega)
  refine ⟨fun z => go G (fr.refl _ _ _) (fun _ y => absurd z y), fun z => ?_⟩
  have laS : ∃ l : Nat, la = -1 ∨ (la = (l : Int) ∧ l < S ∧ bt Q l = true) := by
    rcases q10 with ⟨h, -⟩ | ⟨l, a1, a2, a3, -⟩
    · exact ⟨0, Or.inl h⟩
    · exact ⟨l, Or.inr ⟨a2, a1, a3⟩⟩
  obtain ⟨la', hla'⟩ := laS
  refine pC1.ox (by omega) (z90 (d := d - 1) (G := G) (dp := dp) (l := la') (la := la) (lat := lat) (Q := Q) hx (by omega) q1 q2 hla' (fun k hk => by have := rdy_lat hNN hk; omega) (fun j hj hb => by have := q5 j hj hb; have := ht j hj; omega) l0 (by omega) (by omega)) (fun r g hg => ?_)
  obtain ⟨fg, B, so, c1, c2, c3⟩ := hg
  refine ⟨fun y => go g fg (fun hS _ => ?_), fun y => ?_⟩
  · have all : ∀ j, j < S → bt Q j = true := cnt_all (X := bt Q) S (by omega)
    obtain ⟨b1, b2⟩ := c2 all
    rcases c1 with ⟨-, c1⟩ | ⟨c1, -⟩
    · rw [b1] at c1
      exact plLe_tr (Or.inr ⟨rfl, Or.inr (fun j hj => (b2 j hj).symm)⟩) c1
    · exact absurd c1 y
  · rw [hR]
    have e22 : g 22 = G 22 := fg.c 22 (by decide)
    have e23 : g 23 = G 23 := fg.c 23 (by decide)
    have found : G 22 3 = 1 := by
      rcases hz with h | h
      · exact absurd h z
      · exact h.1
    refine ⟨rfl, fg.mono (by decide) (by decide), fun e he => fg.1 _ (by simp; omega) (by omega), fun j _ => by rw [fg.c 28 (by decide)], by unfold zok at *; rw [e22, e23]; exact hz, fun _ => by rw [e22, e23]; exact ⟨found, plLe_rf _ _ _⟩, fun b l hb hp => ?_⟩
    rw [e22, e23]
    refine ⟨found, ?_⟩
    rcases c1 with ⟨c1, -⟩ | ⟨-, c1⟩
    · exact absurd y c1
    · have tg : tgt S t W F Q lat (G 28) (G (31 + dp)) b := by
        refine ⟨hb.1, hp, fun k hk hq => rdy_le (fun k hk => (ht k hk).1) hir q9 hp hb.1 hk hq, ?_⟩
        rcases q6 with q6 | ⟨j, j1, j2, j3⟩
        · rw [q6]; exact (plL_ge S t b).1
        · rw [j3, hp.1 j j1 j2]; exact (plL_ge S t b).2 j j1
      obtain ⟨s1, s2⟩ := c3 b tg
      rw [hb.2.1]
      refine plLe_tr c1 ?_
      by_cases e : B = plL S t b
      · exact Or.inr ⟨e, lx_cw s1⟩
      · exact Or.inl (by omega)
theorem z87 (S : Nat) (t : Nat → Int) (W F : Nat → Nat → Bool) (T : Nat → Int) : ∀ (n : Nat) {d dp : Nat} {Q la lat : Int} {G : pG}, cx G S t W F T → dp + n = S → n + 4 ≤ d → ndI S t W F Q dp la lat (G 28) (G (31 + dp)) → (∀ i j, i < S → bt Q i = true → W i j = true → bt Q j = true) → zok S t W F G → ∃ G', pRuns pMT d 87 [pR 22, pI (dp : Int), pI Q, pI la, pI lat] Yc G none G' ∧ zPost S t W F G dp Q G' := by
  intro n
  induction n with
  | zero =>
    intro d dp Q la lat G hx hdn hd hN hcl hz
    exact z87_aux S 0 t W F T (fun n' h => by omega) hx hdn hd hN hcl hz
  | succ n ih =>
    intro d dp Q la lat G hx hdn hd hN hcl hz
    exact z87_aux S (n + 1) t W F T (fun n' h => by
      obtain rfl : n' = n := by omega
      exact ih) hx hdn hd hN hcl hz
