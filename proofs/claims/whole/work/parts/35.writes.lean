theorem k_cp_s {stk : List pV} {k : Nat → Int → Nat → Int → Int → List pV → Option pO} {z : pO} (h : k_cp stk none k = some z) : ∃ (a0 : Nat) (sp : Int) (a : Nat) (dp n : Int) (st : List pV), stk = .inl n :: .inl dp :: .inr (.inr (some a)) :: .inl sp :: .inr (.inr (some a0)) :: st ∧ k a0 sp a dp n st = some z := by
  unfold k_cp at h; split at h
  · exact ⟨_, _, _, _, _, _, rfl, h⟩
  · cases h
/-- references among fields -/
theorem wR.putr {tys : List (ClassId × FieldType)} {Y : pY} {G : pG} {ws : va_W} {i a k z : Nat} {e e' : va_E} (h : wR tys Y G ws) (hi : ws[i]? = some (a, e)) (he : cR ws tys (Y.2.1 i) (G i) (fun j => if j = k then some z else Y.2.2 i j) e') : wR tys (prf Y i k z) G (ws.set i (a, e')) := by
  obtain ⟨h1, h2, h3, h4⟩ := h
  have hl := (List.getElem?_eq_some_iff.mp hi).1
  have hs : aS ws (ws.set i (a, e')) := aS.set hi
  refine ⟨by rw [List.length_set]; exact h1, h2, h3, fun j q hq => ?_⟩
  by_cases hj : j = i
  · subst hj
    rw [List.getElem?_set_self hl] at hq
    cases hq
    have hr : (prf Y j k z).2.2 j = (fun b => if b = k then some z else Y.2.2 j b) := by
      show (if j = j then _ else _) = _
      rw [if_pos rfl]
    rw [hr]
    exact he.mv hs (tS.rf _)
  · rw [List.getElem?_set_ne (Ne.symm hj)] at hq
    have hr : (prf Y i k z).2.2 j = Y.2.2 j := by
      show (if j = i then _ else _) = _
      rw [if_neg hj]
    rw [hr]
    exact (h4 j q hq).mv hs (tS.rf _)
/-- a cell more -/
theorem wR.push {tys tys' : List (ClassId × FieldType)} {Y : pY} {G : pG} {ws : va_W} {kind q : Nat} {len : Int} {e : va_E} (h : wR tys Y G ws) (hn : Y.1.1 ≤ 497) (ht : tS tys tys') (he : cR (ws ++ [(q, e)]) tys' (kind, len) (fun _ => 0) (fun _ => none) e) : wR tys' (pnw Y kind len) (pz G Y.1.1) (ws ++ [(q, e)]) := by
  obtain ⟨h1, h2, h3, h4⟩ := h
  refine ⟨by rw [List.length_append, h1]; rfl, by show Y.1.1 + 1 ≤ 498; omega, fun i hi => ?_, fun i x hx => ?_⟩
  · have hi : Y.1.1 + 1 ≤ i := hi
    show (if i = Y.1.1 then (kind, len) else Y.2.1 i).1 = 999
    rw [if_neg (by omega)]
    exact h3 i (by omega)
  · show cR _ tys' (if i = Y.1.1 then (kind, len) else Y.2.1 i) ((if i = Y.1.1 then (fun _ => 0) else G i)) ((if i = Y.1.1 then (fun _ => none) else Y.2.2 i)) x.2
    by_cases hi : i < ws.length
    · rw [List.getElem?_append_left hi] at hx
      rw [if_neg (by omega), if_neg (by omega), if_neg (by omega)]
      exact (h4 i x hx).mv (aS.app _ _) ht
    · rw [List.getElem?_append_right (by omega)] at hx
      have hz : i - ws.length < 1 := (List.getElem?_eq_some_iff.mp hx).1
      have hi2 : i = Y.1.1 := by omega
      rw [show i - ws.length = 0 by omega] at hx
      cases hx
      rw [if_pos hi2, if_pos hi2, if_pos hi2]
      exact he
theorem wR_last {ws : va_W} {n q : Nat} {e : va_E} (h : ws.length = n) : (ws ++ [(q, e)])[n]? = some (q, e) := by
  rw [List.getElem?_append_right (by omega), h, Nat.sub_self]; rfl
theorem if_32 {P : Int32 → Prop} {c : Prop} [Decidable c] {a b : Int32} (h1 : c → P a) (h2 : ¬ c → P b) : P (if c then a else b) := by
  split
  · exact h1 (by assumption)
  · exact h2 (by assumption)
theorem if_64 {P : Int64 → Prop} {c : Prop} [Decidable c] {a b : Int64} (h1 : c → P a) (h2 : ¬ c → P b) : P (if c then a else b) := by
  split
  · exact h1 (by assumption)
  · exact h2 (by assumption)
theorem mx_r (a b : Int32) : (if a < b then b else a).toInt = pmx a.toInt b.toInt := by
  unfold pmx
  by_cases h : a < b
  · rw [if_pos h, if_pos (Int32.lt_iff_toInt_lt.mp h)]
  · rw [if_neg h, if_neg (fun q => h (Int32.lt_iff_toInt_lt.mpr q))]
theorem mn_r (a b : Int32) : (if b < a then b else a).toInt = pmn a.toInt b.toInt := by
  unfold pmn
  by_cases h : b < a
  · rw [if_pos h, if_pos (Int32.lt_iff_toInt_lt.mp h)]
  · rw [if_neg h, if_neg (fun q => h (Int32.lt_iff_toInt_lt.mpr q))]
theorem mxl_r (a b : Int64) : (if b < a then a else b).toInt = pmx a.toInt b.toInt := by
  unfold pmx
  by_cases h : b < a
  · have := Int64.lt_iff_toInt_lt.mp h
    rw [if_pos h, if_neg (by omega)]
  · have h2 : ¬ b.toInt < a.toInt := fun q => h (Int64.lt_iff_toInt_lt.mpr q)
    rw [if_neg h]
    split <;> omega
theorem ab_r (a : Int32) : (if 0 ≤ a then a else 0 - a).toInt = if 0 < a.toInt then a.toInt else w32 (-a.toInt) := by
  have hz : (0 : Int32).toInt = 0 := rfl
  by_cases h : 0 ≤ a
  · have h2 := Int32.le_iff_toInt_le.mp h
    rw [hz] at h2
    rw [if_pos h]
    by_cases h3 : 0 < a.toInt
    · rw [if_pos h3]
    · rw [if_neg h3, show a.toInt = 0 by omega]; rfl
  · have h2 : ¬ 0 ≤ a.toInt := fun q => h (Int32.le_iff_toInt_le.mpr (by rw [hz]; exact q))
    rw [if_neg h, if_neg (by omega), w32_sub, hz, show (0 : Int) - a.toInt = -a.toInt by omega]
theorem abl_r (a : Int64) : (if 0 < a then a else -a).toInt = if 0 < a.toInt then a.toInt else w64 (-a.toInt) := by
  have hz : (0 : Int64).toInt = 0 := rfl
  by_cases h : 0 < a
  · have h2 := Int64.lt_iff_toInt_lt.mp h
    rw [hz] at h2
    rw [if_pos h, if_pos h2]
  · have h2 : ¬ 0 < a.toInt := fun q => h (Int64.lt_iff_toInt_lt.mpr (by rw [hz]; exact q))
    rw [if_neg h, if_neg h2, w64_neg]

theorem pfdecl : ∀ ci, ci < 13 → ∀ k, (pfT ci k).1 = pown ci
  | 0, _ => by intro k; show (TX0 k).1 = RX0; unfold TX0; split <;> rfl
  | 1, _ => by intro k; show (TX1 k).1 = RX1; unfold TX1; split <;> rfl
  | 2, _ => by intro k; show (TX2 k).1 = RX2; unfold TX2; split <;> rfl
  | 3, _ => by intro k; show (TX3 k).1 = RX3; unfold TX3; split <;> rfl
  | 4, _ => by intro k; show (TX4 k).1 = RX4; unfold TX4; split <;> rfl
  | 5, _ => by intro k; show (TX5 k).1 = RX5; unfold TX5; split <;> rfl
  | 6, _ => by intro k; show (TX6 k).1 = RX6; unfold TX6; split <;> rfl
  | 7, _ => by intro k; show (TX7 k).1 = RX7; unfold TX7; split <;> rfl
  | 8, _ => by intro k; show (TX8 k).1 = RX8; unfold TX8; split <;> rfl
  | 9, _ => by intro k; show (TX9 k).1 = RX9; unfold TX9; split <;> rfl
  | 10, _ => by intro k; show (TX10 k).1 = RX10; unfold TX10; split <;> rfl
  | 11, _ => by intro k; show (TX11 k).1 = RX11; unfold TX11; split <;> rfl
  | 12, _ => by intro k; show (TX12 k).1 = RX12; unfold TX12; split <;> rfl
  | n + 13, h => by omega

theorem ss_putfield {p : Program} {l : Launch} {e : Env} {R : Room} {s : State} {m : MethodId} {args : Array Value} {below : List Frame} {meth : Method} {c : Code} {Q : State → Prop} {D : va_G} {A : Nat → Prop} {sx : Nat → Option Nat} {cc : ByteArray} {nL K rt d n0 s0 : Nat} {ws0 : va_W} (hX : pCx p R s m args c sx A K nL d cc) {pc len : Nat} {e0 : pE} {i : Nat} (hfi : ∀ a b, e0 = (.putfield 0, len, a, b, 2) → meth.name = "<init>" ∧ b = K) (hd : decode cc pc = .ok (.putfield i, len)) (hp : ptr K rt pc (.putfield i) len = some e0) {Y Y' : pY} {G G' : pG} {pc' : Nat} {loc loc' stk stk' : List pV} (hs : pstep Y G e0 pc loc stk = some (.inl (pc', loc', stk', Y', G'))) (hrm : Y'.1.1 ≤ n0 + R.cells ∧ Y'.1.2 ≤ s0 + R.slots) (kk : pKK p l e R s m args below meth c Q D A sx nL n0 s0 ws0 pc' loc' stk' Y' G') : pKK p l e R s m args below meth c Q D A sx nL n0 s0 ws0 pc loc stk Y G := by
  have hX0 := hX
  obtain ⟨hx, hb, hml, hown, hts, hnest, hao, hstr, hAA, hfr, hlo⟩ := hX
  intro H locs ws tys ls st cells slots hW hA hl hst hc1 hc2
  obtain ⟨hlen, hp⟩ := bif_s hp
  have hlen : len = 3 := Nat.eq_of_beq_eq_true hlen
  subst hlen
  obtain ⟨⟨ci, k⟩, hq, hp⟩ := k_op_s hp
  cases hp
  have hbd := lkF_bd _ (lkf_mem hq)
  have hci : ci < 13 := hbd.1
  have hkN : k < pfN ci := hbd.2
  obtain ⟨hwR, hP, hD, hK, hS⟩ := hW
  have main : ∀ (r q : Nat) (v : Value) (st1 : List Value) (G' : pG) (Y' : pY), (Y.2.1 r).1 = ci → ((∃ e, ws[r]? = some (q, e)) ∨ (499 ≤ r ∧ sx r = some q)) → narrow (pfY ci k) v = v → fits (pfY ci k) v = true → ((pfT ci k).2.2.2 = false ∨ ((pfT ci k).2.2.2 = true ∧ meth.name = "<init>" ∧ ci = K)) →
      (∀ (fs : List Value), fs.length = pfN ci → (∀ j, j < pfN ci → fR ws (pfk ci j) fs[j]? (G r j) (Y.2.2 r j)) → ws[r]? = some (q, .inr (ci, fs)) → wR tys Y' G' (ws.set r (q, .inr (ci, fs.set k v)))) → Y'.1 = Y.1 → sR ws sx stk' st1 → pKK p l e R s m args below meth c Q D A sx nL n0 s0 ws0 (pc + 3) loc stk' Y' G' → W p l e R s m args below meth c H locs cells slots Q (F0 m pc ls (v :: .ref q :: st1)) := by
    intro r q v st1 G2 Y2 hkd h0 hna hfi2 hfin hw2 hy2 hst1 kk2
    obtain ⟨e1, he, hcr⟩ := hwR.cell h0 (by omega)
    obtain ⟨fs, rfl, hfl, hff⟩ := cR_o hcr (by omega)
    rw [hkd] at hfl hff he
    have go : ∀ (H1 : Heap) (locs1 : List Loc), va_P D pcl (ws.set r (q, .inr (ci, fs.set k v))) H1 → va_D A (ws.set r (q, .inr (ci, fs.set k v))) → va_S A s.heap H1 locs1 → W p l e R s m args below meth c H1 locs1 cells slots Q (F0 m (pc + 3) ls st1) := fun H1 locs1 hP1 hD1 hS1 =>
      kk2 H1 locs1 _ tys ls _ cells slots ⟨hw2 fs hfl hff he, hP1, hD1, hK, hS1⟩ (hA.tr (aS.set he)) (hl.mv (aS.set he)) (hst1.mv (aS.set he)) (by rw [hy2]; exact hc1) (by rw [hy2]; exact hc2)
    rcases hfin with hf | ⟨hf, hf2, rfl⟩
    · exact va_put (C := pown ci) (T := pfT ci) (N := pfN ci) hx hb hts (pin hci) (pfY ci) (pfY_ok ci hci) (pfNm ci hci) hown hK hP hD hS r he (pcl_at ci hci) k hkN (hts _ (lkF_in hq)) (fun _ h => h) hf (pfY_ok ci hci k hkN) hna hfi2 (by omega) hd go
    · exact va_putF (C := pown ci) (T := pfT ci) (N := pfN ci) hx hb hts (pin hci) (pfY ci) (pfY_ok ci hci) (pfNm ci hci) hown hK hP hD hS r he (pcl_at ci hci) k hkN (hts _ (lkF_in hq)) (fun _ h => h) hf hf2 (pfdecl ci hci k) (pfY_ok ci hci k hkN) hna hfi2 (by omega) hd go
  have setI : ∀ (r q : Nat) (v : Value) (x : Int), (Y.2.1 r).1 = ci → fR ws (pfk ci k) (some v) x (Y.2.2 r k) → ∀ (fs : List Value), fs.length = pfN ci → (∀ j, j < pfN ci → fR ws (pfk ci j) fs[j]? (G r j) (Y.2.2 r j)) → ws[r]? = some (q, .inr (ci, fs)) → wR tys Y (pset G r k x) (ws.set r (q, .inr (ci, fs.set k v))) := by
    intro r q v x hkd hv fs hfl hff he
    refine hwR.put he (pset_o _ _ _ _) ?_
    have hc := cR_fset (tys := tys) (kl := Y.2.1 r) (g := G r) (g' := pset G r k x r) (rf := Y.2.2 r) (rf' := Y.2.2 r) (fs := fs) (k := k) (v := v) (by omega) (by rw [hkd]; exact hfl) (by rw [hkd]; exact hff) (by rw [hkd]; exact hkN) (fun j hj => by rw [pset_s, if_neg hj]) (fun _ _ => rfl) (by rw [hkd, pset_s, if_pos rfl]; exact hv)
    rw [hkd] at hc
    exact hc
  unfold pstep at hs
  dsimp only at hs
  rcases (pf3 ci hci k hkN).1 with h3 | h3 | h3 | h3
  · rw [h3] at hs
    try dsimp only at hs
    obtain ⟨r, x, stk0, rfl, hs2⟩ := k_ri_s hs
    obtain ⟨hkd, hs2⟩ := bif_s hs2
    cases pnx_s hs2
    obtain ⟨b1, st0, rfl, rfl, h0⟩ := sR_i hst
    obtain ⟨q, st1, rfl, h2, h1⟩ := sR_r h0
    have hft := pfin ci hci k hkN
    exact main r q _ _ _ _ (beq_e hkd) h2 (by rw [pfk0 h3]; rfl) (by rw [pfk0 h3]; rfl) (Or.inl (hft.resolve_left (by omega))) (setI r q _ _ (beq_e hkd) (by rw [h3]; unfold fR; rw [if_neg (by decide), if_neg (by decide)]; exact ⟨b1, rfl, rfl⟩)) rfl h1 kk
  · rw [h3] at hs
    try dsimp only at hs
    obtain ⟨r, x, stk0, rfl, hs2⟩ := k_rl_s hs
    obtain ⟨hkd, hs2⟩ := bif_s hs2
    cases pnx_s hs2
    obtain ⟨b1, st0, rfl, rfl, h0⟩ := sR_l hst
    obtain ⟨q, st1, rfl, h2, h1⟩ := sR_r h0
    have hft := pfin ci hci k hkN
    exact main r q _ _ _ _ (beq_e hkd) h2 (by rw [pfk1 h3]; rfl) (by rw [pfk1 h3]; rfl) (Or.inl (hft.resolve_left (by omega))) (setI r q _ _ (beq_e hkd) (by rw [h3]; unfold fR; rw [if_pos rfl]; exact ⟨b1, rfl, rfl⟩)) rfl h1 kk
  · rw [h3] at hs hfi
    try dsimp only at hs
    obtain ⟨r, x, stk0, rfl, hs2⟩ := k_rr_s hs
    obtain ⟨hkd0, hs2⟩ := bif_s hs2
    rw [Bool.and_eq_true] at hkd0
    have hkd := hkd0.1
    have hx8 := Nat.le_of_ble_eq_true hkd0.2
    cases pnx_s hs2
    obtain ⟨b1, st0, rfl, hb1, h0⟩ := sR_r hst
    obtain ⟨q, st1, rfl, h2, h1⟩ := sR_r h0
    obtain ⟨hi1, hi2⟩ := hfi _ _ rfl
    obtain ⟨hr1, hr2⟩ := pfref ci hci k hkN h3
    refine main r q _ _ G (prf Y r k x) (beq_e hkd) h2 (refn hr2 _).1 (refn hr2 _).2 (Or.inr ⟨hr1, hi1, hi2⟩) (fun fs hfl hff he => ?_) rfl h1 kk
    have hxx : ∃ e, ws[x]? = some (b1, e) := by
      rcases hb1 with h | h
      · exact h
      · omega
    refine hwR.putr he ?_
    have hkd2 := beq_e hkd
    have hc := cR_fset (tys := tys) (kl := Y.2.1 r) (g := G r) (g' := G r) (rf := Y.2.2 r) (rf' := fun j => if j = k then some x else Y.2.2 r j) (fs := fs) (k := k) (v := .ref b1) (by omega) (by rw [hkd2]; exact hfl) (by rw [hkd2]; exact hff) (by rw [hkd2]; exact hkN) (fun _ _ => rfl) (fun j hj => by show (if j = k then _ else _) = _; rw [if_neg hj]) (by
      rw [hkd2, h3]; unfold fR; rw [if_neg (by decide), if_pos rfl]
      intro a ha
      have ha : (if k = k then some x else Y.2.2 r k) = some a := ha
      rw [if_pos rfl] at ha
      cases ha
      obtain ⟨e9, h9⟩ := hxx
      exact ⟨b1, e9, rfl, h9⟩)
    rw [hkd2] at hc
    exact hc
  · rw [h3] at hs
    try dsimp only at hs
    obtain ⟨r, x, stk0, rfl, hs2⟩ := k_ri_s hs
    obtain ⟨hkd, hs2⟩ := bif_s hs2
    obtain ⟨h01, hs2⟩ := if_s hs2
    cases pnx_s hs2
    obtain ⟨b1, st0, rfl, rfl, h0⟩ := sR_i hst
    obtain ⟨q, st1, rfl, h2, h1⟩ := sR_r h0
    have hft := pfin ci hci k hkN
    exact main r q _ _ _ _ (beq_e hkd) h2 (by rw [pfk3 h3]; exact (booln h01).1) (by rw [pfk3 h3]; exact (booln h01).2) (Or.inl (hft.resolve_left (by omega))) (setI r q _ _ (beq_e hkd) (by rw [h3]; unfold fR; rw [if_neg (by decide), if_neg (by decide)]; exact ⟨b1, rfl, rfl⟩)) rfl h1 kk

theorem ss_iastore {p : Program} {l : Launch} {e : Env} {R : Room} {s : State} {m : MethodId} {args : Array Value} {below : List Frame} {meth : Method} {c : Code} {Q : State → Prop} {D : va_G} {A : Nat → Prop} {sx : Nat → Option Nat} {cc : ByteArray} {nL K rt d n0 s0 : Nat} {ws0 : va_W} (hX : pCx p R s m args c sx A K nL d cc) {pc len : Nat} {e0 : pE} (hd : decode cc pc = .ok (.iastore, len)) (hp : ptr K rt pc (.iastore) len = some e0) {Y Y' : pY} {G G' : pG} {pc' : Nat} {loc loc' stk stk' : List pV} (hs : pstep Y G e0 pc loc stk = some (.inl (pc', loc', stk', Y', G'))) (hrm : Y'.1.1 ≤ n0 + R.cells ∧ Y'.1.2 ≤ s0 + R.slots) (kk : pKK p l e R s m args below meth c Q D A sx nL n0 s0 ws0 pc' loc' stk' Y' G') : pKK p l e R s m args below meth c Q D A sx nL n0 s0 ws0 pc loc stk Y G := by
  have hX0 := hX
  obtain ⟨hx, hb, hml, hown, hts, hnest, hao, hstr, hAA, hfr, hlo⟩ := hX
  intro H locs ws tys ls st cells slots hW hA hl hst hc1 hc2
  obtain ⟨hlen, hp⟩ := bif_s hp
  have hlen : len = 1 := Nat.eq_of_beq_eq_true hlen
  subst hlen
  cases hp
  obtain ⟨r, i, x, stk0, rfl, hs2⟩ := k_rii_s hs
  obtain ⟨hkd, hs2⟩ := bif_s hs2
  have hkd := beq_e hkd
  obtain ⟨hbd, hs2⟩ := if_s hs2
  cases pnx_s hs2
  obtain ⟨b1, st9, rfl, rfl, h9⟩ := sR_i hst
  obtain ⟨j, st0, rfl, rfl, h0⟩ := sR_i h9
  obtain ⟨q, st1, rfl, h2, h1⟩ := sR_r h0
  obtain ⟨hwR, hP, hD, hK, hS⟩ := hW
  obtain ⟨e1, he, hcr⟩ := hwR.cell h2 (by omega)
  obtain ⟨cA, n, f, t, rfl, hn, hn2, ht, hf⟩ := cR_i hcr hkd
  refine va_iast hx hb hK hP hD hS r t he ht (i32_in hbd.1 (by omega)) hd (fun H1 locs1 hP1 hD1 hS1 => kk H1 locs1 _ tys ls _ cells slots ⟨hwR.put he (pset_o _ _ _ _) ?_, hP1, hD1, hK, hS1⟩ (hA.tr (aS.set he)) (hl.mv (aS.set he)) (h1.mv (aS.set he)) hc1 hc2)
  refine ⟨hn, hn2, Or.inl ⟨hkd, t, ht⟩, fun z hz => ?_⟩
  have hcl : j.toInt.toNat = j.toNatClampNeg := rfl
  rw [pset_s, hcl]
  by_cases hz2 : z = j.toNatClampNeg
  · subst hz2
    rw [if_pos rfl, pk_us]
  · rw [if_neg (fun q => hz2 q), pk_un hz2]
    exact hf z hz

theorem ss_lastore {p : Program} {l : Launch} {e : Env} {R : Room} {s : State} {m : MethodId} {args : Array Value} {below : List Frame} {meth : Method} {c : Code} {Q : State → Prop} {D : va_G} {A : Nat → Prop} {sx : Nat → Option Nat} {cc : ByteArray} {nL K rt d n0 s0 : Nat} {ws0 : va_W} (hX : pCx p R s m args c sx A K nL d cc) {pc len : Nat} {e0 : pE} (hd : decode cc pc = .ok (.lastore, len)) (hp : ptr K rt pc (.lastore) len = some e0) {Y Y' : pY} {G G' : pG} {pc' : Nat} {loc loc' stk stk' : List pV} (hs : pstep Y G e0 pc loc stk = some (.inl (pc', loc', stk', Y', G'))) (hrm : Y'.1.1 ≤ n0 + R.cells ∧ Y'.1.2 ≤ s0 + R.slots) (kk : pKK p l e R s m args below meth c Q D A sx nL n0 s0 ws0 pc' loc' stk' Y' G') : pKK p l e R s m args below meth c Q D A sx nL n0 s0 ws0 pc loc stk Y G := by
  have hX0 := hX
  obtain ⟨hx, hb, hml, hown, hts, hnest, hao, hstr, hAA, hfr, hlo⟩ := hX
  intro H locs ws tys ls st cells slots hW hA hl hst hc1 hc2
  obtain ⟨hlen, hp⟩ := bif_s hp
  have hlen : len = 1 := Nat.eq_of_beq_eq_true hlen
  subst hlen
  cases hp
  obtain ⟨r, i, x, stk0, rfl, hs2⟩ := k_ril_s hs
  obtain ⟨hkd, hs2⟩ := bif_s hs2
  have hkd := beq_e hkd
  obtain ⟨hbd, hs2⟩ := if_s hs2
  cases pnx_s hs2
  obtain ⟨b1, st9, rfl, rfl, h9⟩ := sR_l hst
  obtain ⟨j, st0, rfl, rfl, h0⟩ := sR_i h9
  obtain ⟨q, st1, rfl, h2, h1⟩ := sR_r h0
  obtain ⟨hwR, hP, hD, hK, hS⟩ := hW
  obtain ⟨e1, he, hcr⟩ := hwR.cell h2 (by omega)
  obtain ⟨cA, n, f, t, rfl, hn, hn2, ht, hf⟩ := cR_l hcr hkd
  refine va_last hx hb hK hP hD hS r t he ht (i32_in hbd.1 (by omega)) hd (fun H1 locs1 hP1 hD1 hS1 => kk H1 locs1 _ tys ls _ cells slots ⟨hwR.put he (pset_o _ _ _ _) ?_, hP1, hD1, hK, hS1⟩ (hA.tr (aS.set he)) (hl.mv (aS.set he)) (h1.mv (aS.set he)) hc1 hc2)
  refine ⟨hn, hn2, hkd, ⟨t, ht⟩, fun z hz => ?_⟩
  have hcl : j.toInt.toNat = j.toNatClampNeg := rfl
  rw [pset_s, hcl]
  by_cases hz2 : z = j.toNatClampNeg
  · subst hz2
    rw [if_pos rfl, pk_uLs]
  · rw [if_neg (fun q => hz2 q), pk_uLn hz2]
    exact hf z hz

theorem ss_bastore {p : Program} {l : Launch} {e : Env} {R : Room} {s : State} {m : MethodId} {args : Array Value} {below : List Frame} {meth : Method} {c : Code} {Q : State → Prop} {D : va_G} {A : Nat → Prop} {sx : Nat → Option Nat} {cc : ByteArray} {nL K rt d n0 s0 : Nat} {ws0 : va_W} (hX : pCx p R s m args c sx A K nL d cc) {pc len : Nat} {e0 : pE} (hd : decode cc pc = .ok (.bastore, len)) (hp : ptr K rt pc (.bastore) len = some e0) {Y Y' : pY} {G G' : pG} {pc' : Nat} {loc loc' stk stk' : List pV} (hs : pstep Y G e0 pc loc stk = some (.inl (pc', loc', stk', Y', G'))) (hrm : Y'.1.1 ≤ n0 + R.cells ∧ Y'.1.2 ≤ s0 + R.slots) (kk : pKK p l e R s m args below meth c Q D A sx nL n0 s0 ws0 pc' loc' stk' Y' G') : pKK p l e R s m args below meth c Q D A sx nL n0 s0 ws0 pc loc stk Y G := by
  have hX0 := hX
  obtain ⟨hx, hb, hml, hown, hts, hnest, hao, hstr, hAA, hfr, hlo⟩ := hX
  intro H locs ws tys ls st cells slots hW hA hl hst hc1 hc2
  obtain ⟨hlen, hp⟩ := bif_s hp
  have hlen : len = 1 := Nat.eq_of_beq_eq_true hlen
  subst hlen
  cases hp
  obtain ⟨r, i, x, stk0, rfl, hs2⟩ := k_rii_s hs
  obtain ⟨hkd, hs2⟩ := bif_s hs2
  have hkd := beq_e hkd
  obtain ⟨hbd, hs2⟩ := if_s hs2
  cases pnx_s hs2
  obtain ⟨b1, st9, rfl, rfl, h9⟩ := sR_i hst
  obtain ⟨j, st0, rfl, rfl, h0⟩ := sR_i h9
  obtain ⟨q, st1, rfl, h2, h1⟩ := sR_r h0
  obtain ⟨hwR, hP, hD, hK, hS⟩ := hW
  obtain ⟨e1, he, hcr⟩ := hwR.cell h2 (by omega)
  obtain ⟨cA, n, f, t, rfl, hn, hn2, ht, hf⟩ := cR_b hcr hkd
  refine va_bast hx hb hK hP hD hS r t he ht (i32_in hbd.1 (by omega)) hd (fun H1 locs1 hP1 hD1 hS1 => kk H1 locs1 _ tys ls _ cells slots ⟨hwR.put he (pset_o _ _ _ _) ?_, hP1, hD1, hK, hS1⟩ (hA.tr (aS.set he)) (hl.mv (aS.set he)) (h1.mv (aS.set he)) hc1 hc2)
  refine ⟨hn, hn2, Or.inr ⟨hkd, t, ht⟩, fun z hz => ?_⟩
  have hcl : j.toInt.toNat = j.toNatClampNeg := rfl
  rw [pset_s, hcl]
  by_cases hz2 : z = j.toNatClampNeg
  · subst hz2
    rw [if_pos rfl, pk_us]
    rw [vp_nar_byte]; simp [w8]
  · rw [if_neg (fun q => hz2 q), pk_un hz2]
    exact hf z hz

theorem ss_new {p : Program} {l : Launch} {e : Env} {R : Room} {s : State} {m : MethodId} {args : Array Value} {below : List Frame} {meth : Method} {c : Code} {Q : State → Prop} {D : va_G} {A : Nat → Prop} {sx : Nat → Option Nat} {cc : ByteArray} {nL K rt d n0 s0 : Nat} {ws0 : va_W} (hX : pCx p R s m args c sx A K nL d cc) {pc len : Nat} {e0 : pE} {i : Nat} (hd : decode cc pc = .ok (.new i, len)) (hp : ptr K rt pc (.new i) len = some e0) {Y Y' : pY} {G G' : pG} {pc' : Nat} {loc loc' stk stk' : List pV} (hs : pstep Y G e0 pc loc stk = some (.inl (pc', loc', stk', Y', G'))) (hrm : Y'.1.1 ≤ n0 + R.cells ∧ Y'.1.2 ≤ s0 + R.slots) (kk : pKK p l e R s m args below meth c Q D A sx nL n0 s0 ws0 pc' loc' stk' Y' G') : pKK p l e R s m args below meth c Q D A sx nL n0 s0 ws0 pc loc stk Y G := by
  have hX0 := hX
  obtain ⟨hx, hb, hml, hown, hts, hnest, hao, hstr, hAA, hfr, hlo⟩ := hX
  intro H locs ws tys ls st cells slots hW hA hl hst hc1 hc2
  obtain ⟨hlen, hp⟩ := bif_s hp
  have hlen : len = 3 := Nat.eq_of_beq_eq_true hlen
  subst hlen
  obtain ⟨ci, hq, hp⟩ := k_op_s hp
  cases hp
  have hci : ci < 13 := lkC_bd _ (lkf_mem hq)
  obtain ⟨hkd, hs2⟩ := bif_s hs
  have hkd := Nat.le_of_ble_eq_true hkd
  cases pnx_s hs2
  obtain ⟨hwR, hP, hD, hK, hS⟩ := hW
  have hr1 : Y.1.1 + 1 ≤ n0 + R.cells := hrm.1
  have hr2 : Y.1.2 + ((pfN ci : Nat) : Int).toNat ≤ s0 + R.slots := hrm.2
  rw [Int.toNat_natCast] at hr2
  have hlen : ws.length = Y.1.1 := hwR.1
  refine va_new (C := pown ci) (T := pfT ci) (N := pfN ci) (ci := ci) (fs := (List.range (pfN ci)).map (fun j => defaultValue (pfY ci j))) hx hb hts (pin hci) (pfY ci) (pfY_ok ci hci) hown (hts _ (lkC_in hq)) (hts _ (lk12_in (lk12_all ci hci))) (hts _ (w1_in (t := 7) lk7_eq (lk7_all ci (by omega)) (by omega))) hK hP hD hS hAA (pcl_at ci hci) (fun j hj => ?_) (by omega) (by omega) hd (fun q H1 hP1 hD1 hS1 => kk H1 locs _ tys ls _ (cells + 1) (slots + pfN ci) ⟨hwR.push hkd (tS.rf _) ?_, hP1, hD1, hK, hS1⟩ (hA.tr (aS.app _ _)) (hl.mv (aS.app _ _)) ⟨⟨q, rfl, Or.inl ⟨_, wR_last hlen⟩⟩, hst.mv (aS.app _ _)⟩ (by show Y.1.1 + 1 = n0 + (cells + 1); omega) (by show Y.1.2 + ((pfN ci : Nat) : Int).toNat = s0 + (slots + pfN ci); rw [Int.toNat_natCast]; omega))
  · show defaultValue (pfY ci j) = (List.map _ _).getD j .null
    simp [List.getD_eq_getElem?_getD, hj]
  · refine ⟨rfl, hci, by simp, fun j hj => ?_⟩
    have hg : ((List.range (pfN ci)).map (fun j => defaultValue (pfY ci j)))[j]? = some (defaultValue (pfY ci j)) := by simp [hj]
    rw [hg]
    rcases (pf3 ci hci j hj).1 with h3 | h3 | h3 | h3
    · rw [h3, pfk0 h3]; unfold fR; rw [if_neg (by decide), if_neg (by decide)]; exact ⟨0, rfl, rfl⟩
    · rw [h3, pfk1 h3]; unfold fR; rw [if_pos rfl]; exact ⟨0, rfl, rfl⟩
    · rw [h3]; unfold fR; rw [if_neg (by decide), if_pos rfl]; intro a ha; cases ha
    · rw [h3, pfk3 h3]; unfold fR; rw [if_neg (by decide), if_neg (by decide)]; exact ⟨0, rfl, rfl⟩

theorem ss_newarr_int {p : Program} {l : Launch} {e : Env} {R : Room} {s : State} {m : MethodId} {args : Array Value} {below : List Frame} {meth : Method} {c : Code} {Q : State → Prop} {D : va_G} {A : Nat → Prop} {sx : Nat → Option Nat} {cc : ByteArray} {nL K rt d n0 s0 : Nat} {ws0 : va_W} (hX : pCx p R s m args c sx A K nL d cc) {pc len : Nat} {e0 : pE} (hd : decode cc pc = .ok (.newarray .int, len)) (hp : ptr K rt pc (.newarray .int) len = some e0) {Y Y' : pY} {G G' : pG} {pc' : Nat} {loc loc' stk stk' : List pV} (hs : pstep Y G e0 pc loc stk = some (.inl (pc', loc', stk', Y', G'))) (hrm : Y'.1.1 ≤ n0 + R.cells ∧ Y'.1.2 ≤ s0 + R.slots) (kk : pKK p l e R s m args below meth c Q D A sx nL n0 s0 ws0 pc' loc' stk' Y' G') : pKK p l e R s m args below meth c Q D A sx nL n0 s0 ws0 pc loc stk Y G := by
  have hX0 := hX
  obtain ⟨hx, hb, hml, hown, hts, hnest, hao, hstr, hAA, hfr, hlo⟩ := hX
  intro H locs ws tys ls st cells slots hW hA hl hst hc1 hc2
  obtain ⟨hlen, hp⟩ := bif_s hp
  have hlen : len = 2 := Nat.eq_of_beq_eq_true hlen
  subst hlen
  cases hp
  obtain ⟨x, stk0, rfl, hs2⟩ := k_i_s hs
  obtain ⟨hbd, hs2⟩ := if_s hs2
  cases pnx_s hs2
  obtain ⟨b1, st1, rfl, rfl, h1⟩ := sR_i hst
  obtain ⟨hwR, hP, hD, hK, hS⟩ := hW
  have hr1 : Y.1.1 + 1 ≤ n0 + R.cells := hrm.1
  have hr2 : Y.1.2 + b1.toInt.toNat ≤ s0 + R.slots := hrm.2
  have hlen : ws.length = Y.1.1 := hwR.1
  have hby : b1.toInt.toNat * componentBytes .int ≤ 536870912 := by
    have h8 : componentBytes .int ≤ 8 := by decide
    have h9 := Nat.mul_le_mul (show b1.toInt.toNat ≤ 100000 by omega) h8
    omega
  refine va_newa (atype := .int) (ty := .int) (a0 := (b1.toInt.toNat, .inl (fun _ => 0))) hx hb (hts _ jw_arint) rfl hK hP hD hS hAA (fun _ => rfl) (fun q => by have := Int32.lt_iff_toInt_lt.mp q; rw [show (0 : Int32).toInt = 0 from rfl] at this; omega) (i32_cl) hby (by omega) (by omega) hd (fun q cA H1 hK1 hP1 hD1 hS1 => kk H1 locs _ _ ls _ (cells + 1) (slots + b1.toInt.toNat) ⟨hwR.push hbd.1 (tS.app _ _) ?_, hP1, hD1, hK1, hS1⟩ (hA.tr (aS.app _ _)) (hl.mv (aS.app _ _)) ⟨⟨q, rfl, Or.inl ⟨_, wR_last hlen⟩⟩, h1.mv (aS.app _ _)⟩ (by show Y.1.1 + 1 = n0 + (cells + 1); omega) (by show Y.1.2 + b1.toInt.toNat = s0 + (slots + b1.toInt.toNat); omega))
  · exact ⟨by show ((b1.toInt.toNat : Nat) : Int) = b1.toInt; omega, by omega, Or.inl ⟨rfl, tys.length, by simp⟩, fun _ _ => rfl⟩

theorem ss_newarr_long {p : Program} {l : Launch} {e : Env} {R : Room} {s : State} {m : MethodId} {args : Array Value} {below : List Frame} {meth : Method} {c : Code} {Q : State → Prop} {D : va_G} {A : Nat → Prop} {sx : Nat → Option Nat} {cc : ByteArray} {nL K rt d n0 s0 : Nat} {ws0 : va_W} (hX : pCx p R s m args c sx A K nL d cc) {pc len : Nat} {e0 : pE} (hd : decode cc pc = .ok (.newarray .long, len)) (hp : ptr K rt pc (.newarray .long) len = some e0) {Y Y' : pY} {G G' : pG} {pc' : Nat} {loc loc' stk stk' : List pV} (hs : pstep Y G e0 pc loc stk = some (.inl (pc', loc', stk', Y', G'))) (hrm : Y'.1.1 ≤ n0 + R.cells ∧ Y'.1.2 ≤ s0 + R.slots) (kk : pKK p l e R s m args below meth c Q D A sx nL n0 s0 ws0 pc' loc' stk' Y' G') : pKK p l e R s m args below meth c Q D A sx nL n0 s0 ws0 pc loc stk Y G := by
  have hX0 := hX
  obtain ⟨hx, hb, hml, hown, hts, hnest, hao, hstr, hAA, hfr, hlo⟩ := hX
  intro H locs ws tys ls st cells slots hW hA hl hst hc1 hc2
  obtain ⟨hlen, hp⟩ := bif_s hp
  have hlen : len = 2 := Nat.eq_of_beq_eq_true hlen
  subst hlen
  cases hp
  obtain ⟨x, stk0, rfl, hs2⟩ := k_i_s hs
  obtain ⟨hbd, hs2⟩ := if_s hs2
  cases pnx_s hs2
  obtain ⟨b1, st1, rfl, rfl, h1⟩ := sR_i hst
  obtain ⟨hwR, hP, hD, hK, hS⟩ := hW
  have hr1 : Y.1.1 + 1 ≤ n0 + R.cells := hrm.1
  have hr2 : Y.1.2 + b1.toInt.toNat ≤ s0 + R.slots := hrm.2
  have hlen : ws.length = Y.1.1 := hwR.1
  have hby : b1.toInt.toNat * componentBytes .long ≤ 536870912 := by
    have h8 : componentBytes .long ≤ 8 := by decide
    have h9 := Nat.mul_le_mul (show b1.toInt.toNat ≤ 100000 by omega) h8
    omega
  refine va_newa (atype := .long) (ty := .long) (a0 := (b1.toInt.toNat, .inr (.inl (fun _ => 0)))) hx hb (hts _ jw_arlong) rfl hK hP hD hS hAA (fun _ => rfl) (fun q => by have := Int32.lt_iff_toInt_lt.mp q; rw [show (0 : Int32).toInt = 0 from rfl] at this; omega) (i32_cl) hby (by omega) (by omega) hd (fun q cA H1 hK1 hP1 hD1 hS1 => kk H1 locs _ _ ls _ (cells + 1) (slots + b1.toInt.toNat) ⟨hwR.push hbd.1 (tS.app _ _) ?_, hP1, hD1, hK1, hS1⟩ (hA.tr (aS.app _ _)) (hl.mv (aS.app _ _)) ⟨⟨q, rfl, Or.inl ⟨_, wR_last hlen⟩⟩, h1.mv (aS.app _ _)⟩ (by show Y.1.1 + 1 = n0 + (cells + 1); omega) (by show Y.1.2 + b1.toInt.toNat = s0 + (slots + b1.toInt.toNat); omega))
  · exact ⟨by show ((b1.toInt.toNat : Nat) : Int) = b1.toInt; omega, by omega, rfl, ⟨tys.length, by simp⟩, fun _ _ => rfl⟩

theorem ss_newarr_byte {p : Program} {l : Launch} {e : Env} {R : Room} {s : State} {m : MethodId} {args : Array Value} {below : List Frame} {meth : Method} {c : Code} {Q : State → Prop} {D : va_G} {A : Nat → Prop} {sx : Nat → Option Nat} {cc : ByteArray} {nL K rt d n0 s0 : Nat} {ws0 : va_W} (hX : pCx p R s m args c sx A K nL d cc) {pc len : Nat} {e0 : pE} (hd : decode cc pc = .ok (.newarray .byte, len)) (hp : ptr K rt pc (.newarray .byte) len = some e0) {Y Y' : pY} {G G' : pG} {pc' : Nat} {loc loc' stk stk' : List pV} (hs : pstep Y G e0 pc loc stk = some (.inl (pc', loc', stk', Y', G'))) (hrm : Y'.1.1 ≤ n0 + R.cells ∧ Y'.1.2 ≤ s0 + R.slots) (kk : pKK p l e R s m args below meth c Q D A sx nL n0 s0 ws0 pc' loc' stk' Y' G') : pKK p l e R s m args below meth c Q D A sx nL n0 s0 ws0 pc loc stk Y G := by
  have hX0 := hX
  obtain ⟨hx, hb, hml, hown, hts, hnest, hao, hstr, hAA, hfr, hlo⟩ := hX
  intro H locs ws tys ls st cells slots hW hA hl hst hc1 hc2
  obtain ⟨hlen, hp⟩ := bif_s hp
  have hlen : len = 2 := Nat.eq_of_beq_eq_true hlen
  subst hlen
  cases hp
  obtain ⟨x, stk0, rfl, hs2⟩ := k_i_s hs
  obtain ⟨hbd, hs2⟩ := if_s hs2
  cases pnx_s hs2
  obtain ⟨b1, st1, rfl, rfl, h1⟩ := sR_i hst
  obtain ⟨hwR, hP, hD, hK, hS⟩ := hW
  have hr1 : Y.1.1 + 1 ≤ n0 + R.cells := hrm.1
  have hr2 : Y.1.2 + b1.toInt.toNat ≤ s0 + R.slots := hrm.2
  have hlen : ws.length = Y.1.1 := hwR.1
  have hby : b1.toInt.toNat * componentBytes .byte ≤ 536870912 := by
    have h8 : componentBytes .byte ≤ 8 := by decide
    have h9 := Nat.mul_le_mul (show b1.toInt.toNat ≤ 100000 by omega) h8
    omega
  refine va_newa (atype := .byte) (ty := .byte) (a0 := (b1.toInt.toNat, .inl (fun _ => 0))) hx hb (hts _ jw_arbyte) rfl hK hP hD hS hAA (fun _ => rfl) (fun q => by have := Int32.lt_iff_toInt_lt.mp q; rw [show (0 : Int32).toInt = 0 from rfl] at this; omega) (i32_cl) hby (by omega) (by omega) hd (fun q cA H1 hK1 hP1 hD1 hS1 => kk H1 locs _ _ ls _ (cells + 1) (slots + b1.toInt.toNat) ⟨hwR.push hbd.1 (tS.app _ _) ?_, hP1, hD1, hK1, hS1⟩ (hA.tr (aS.app _ _)) (hl.mv (aS.app _ _)) ⟨⟨q, rfl, Or.inl ⟨_, wR_last hlen⟩⟩, h1.mv (aS.app _ _)⟩ (by show Y.1.1 + 1 = n0 + (cells + 1); omega) (by show Y.1.2 + b1.toInt.toNat = s0 + (slots + b1.toInt.toNat); omega))
  · exact ⟨by show ((b1.toInt.toNat : Nat) : Int) = b1.toInt; omega, by omega, Or.inr ⟨rfl, tys.length, by simp⟩, fun _ _ => rfl⟩

