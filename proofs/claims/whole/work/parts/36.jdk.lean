theorem ss_objinit {p : Program} {l : Launch} {e : Env} {R : Room} {s : State} {m : MethodId} {args : Array Value} {below : List Frame} {meth : Method} {c : Code} {Q : State → Prop} {D : va_G} {A : Nat → Prop} {sx : Nat → Option Nat} {cc : ByteArray} {nL K rt d n0 s0 : Nat} {ws0 : va_W} (hX : pCx p R s m args c sx A K nL d cc) {pc len : Nat} {e0 : pE} {Y Y' : pY} {G G' : pG} {pc' : Nat} {loc loc' stk stk' : List pV} {i : Nat} (hd : decode cc pc = .ok (.invokespecial i, 3)) (hj : lkf lkJ K i = some 0) (he0 : e0 = (.pop, 3, 0, 0, 0)) (hs : pstep Y G e0 pc loc stk = some (.inl (pc', loc', stk', Y', G'))) (hrm : Y'.1.1 ≤ n0 + R.cells ∧ Y'.1.2 ≤ s0 + R.slots) (kk : pKK p l e R s m args below meth c Q D A sx nL n0 s0 ws0 pc' loc' stk' Y' G') : pKK p l e R s m args below meth c Q D A sx nL n0 s0 ws0 pc loc stk Y G := by
  have hX0 := hX
  obtain ⟨hx, hb, hml, hown, hts, hnest, hao, hstr, hAA, hfr, hlo⟩ := hX
  intro H locs ws tys ls st cells slots hW hA hl hst hc1 hc2
  subst he0
  obtain ⟨x, stk0, rfl, hs2⟩ := k_r_s hs
  obtain ⟨h8, hs2⟩ := bif_s hs2
  have h8 := Nat.le_of_ble_eq_true h8
  cases pnx_s hs2
  obtain ⟨q, st1, rfl, h0, h1⟩ := sR_r hst
  have hcat := h1.cat
  exact W.objInit hx hb hown (hts _ (lkJ_in hj)) (hts _ jw_oi) (hts _ jw_oc) rfl (by rw [hml]; exact hl.1) rfl hd (by omega) (by
    have h9 := lv_room (m := m) (pc := pc) (ls := ls) (rest := .ref q :: st1) (st := st1) (by omega)
    have : 2 * (F0 m pc ls (.ref q :: st1)).monitorRoom + (st1.map fun v => v.category).sum ≤ 8 := h9
    omega) (kk H locs ws tys ls _ cells slots hW hA hl h1 hc1 hc2)

theorem ss_mmax {p : Program} {l : Launch} {e : Env} {R : Room} {s : State} {m : MethodId} {args : Array Value} {below : List Frame} {meth : Method} {c : Code} {Q : State → Prop} {D : va_G} {A : Nat → Prop} {sx : Nat → Option Nat} {cc : ByteArray} {nL K rt d n0 s0 : Nat} {ws0 : va_W} (hX : pCx p R s m args c sx A K nL d cc) {pc len : Nat} {e0 : pE} {Y Y' : pY} {G G' : pG} {pc' : Nat} {loc loc' stk stk' : List pV} {i : Nat} (hd : decode cc pc = .ok (.invokestatic i, 3)) (hj : lkf lkJ K i = some 1) (he0 : e0 = (.f2d, 3, 0, 0, 0)) (hs : pstep Y G e0 pc loc stk = some (.inl (pc', loc', stk', Y', G'))) (hrm : Y'.1.1 ≤ n0 + R.cells ∧ Y'.1.2 ≤ s0 + R.slots) (kk : pKK p l e R s m args below meth c Q D A sx nL n0 s0 ws0 pc' loc' stk' Y' G') : pKK p l e R s m args below meth c Q D A sx nL n0 s0 ws0 pc loc stk Y G := by
  have hX0 := hX
  obtain ⟨hx, hb, hml, hown, hts, hnest, hao, hstr, hAA, hfr, hlo⟩ := hX
  intro H locs ws tys ls st cells slots hW hA hl hst hc1 hc2
  subst he0
  obtain ⟨x, y, stk0, rfl, hs2⟩ := k_ii_s hs
  obtain ⟨h8, hs2⟩ := bif_s hs2
  have h8 := Nat.le_of_ble_eq_true h8
  cases pnx_s hs2
  obtain ⟨b1, st0, rfl, rfl, h0⟩ := sR_i hst
  obtain ⟨a1, st1, rfl, rfl, h1⟩ := sR_i h0
  have hcat := h1.cat
  have hr1 : cells ≤ R.cells := by have := hrm.1; omega
  have hr2 : slots ≤ R.slots := by have := hrm.2; omega
  exact va_mmax hx hb (by rw [hml]; exact hl.1.symm) hown (hts _ (lkJ_in hj)) (hts _ jw_maxs) (hts _ jw_mi) (hts _ jw_maxc) (by omega) (by omega) hr1 hr2 hd (kk H locs ws tys ls _ cells slots hW hA hl ⟨⟨_, rfl, mx_r _ _⟩, h1⟩ hc1 hc2)

theorem ss_mmin {p : Program} {l : Launch} {e : Env} {R : Room} {s : State} {m : MethodId} {args : Array Value} {below : List Frame} {meth : Method} {c : Code} {Q : State → Prop} {D : va_G} {A : Nat → Prop} {sx : Nat → Option Nat} {cc : ByteArray} {nL K rt d n0 s0 : Nat} {ws0 : va_W} (hX : pCx p R s m args c sx A K nL d cc) {pc len : Nat} {e0 : pE} {Y Y' : pY} {G G' : pG} {pc' : Nat} {loc loc' stk stk' : List pV} {i : Nat} (hd : decode cc pc = .ok (.invokestatic i, 3)) (hj : lkf lkJ K i = some 2) (he0 : e0 = (.f2i, 3, 0, 0, 0)) (hs : pstep Y G e0 pc loc stk = some (.inl (pc', loc', stk', Y', G'))) (hrm : Y'.1.1 ≤ n0 + R.cells ∧ Y'.1.2 ≤ s0 + R.slots) (kk : pKK p l e R s m args below meth c Q D A sx nL n0 s0 ws0 pc' loc' stk' Y' G') : pKK p l e R s m args below meth c Q D A sx nL n0 s0 ws0 pc loc stk Y G := by
  have hX0 := hX
  obtain ⟨hx, hb, hml, hown, hts, hnest, hao, hstr, hAA, hfr, hlo⟩ := hX
  intro H locs ws tys ls st cells slots hW hA hl hst hc1 hc2
  subst he0
  obtain ⟨x, y, stk0, rfl, hs2⟩ := k_ii_s hs
  obtain ⟨h8, hs2⟩ := bif_s hs2
  have h8 := Nat.le_of_ble_eq_true h8
  cases pnx_s hs2
  obtain ⟨b1, st0, rfl, rfl, h0⟩ := sR_i hst
  obtain ⟨a1, st1, rfl, rfl, h1⟩ := sR_i h0
  have hcat := h1.cat
  have hr1 : cells ≤ R.cells := by have := hrm.1; omega
  have hr2 : slots ≤ R.slots := by have := hrm.2; omega
  exact va_mmin hx hb (by rw [hml]; exact hl.1.symm) hown (hts _ (lkJ_in hj)) (hts _ jw_mins) (hts _ jw_mi) (hts _ jw_minc) (by omega) (by omega) hr1 hr2 hd (kk H locs ws tys ls _ cells slots hW hA hl ⟨⟨_, rfl, mn_r _ _⟩, h1⟩ hc1 hc2)

theorem ss_mmaxl {p : Program} {l : Launch} {e : Env} {R : Room} {s : State} {m : MethodId} {args : Array Value} {below : List Frame} {meth : Method} {c : Code} {Q : State → Prop} {D : va_G} {A : Nat → Prop} {sx : Nat → Option Nat} {cc : ByteArray} {nL K rt d n0 s0 : Nat} {ws0 : va_W} (hX : pCx p R s m args c sx A K nL d cc) {pc len : Nat} {e0 : pE} {Y Y' : pY} {G G' : pG} {pc' : Nat} {loc loc' stk stk' : List pV} {i : Nat} (hd : decode cc pc = .ok (.invokestatic i, 3)) (hj : lkf lkJ K i = some 5) (he0 : e0 = (.d2i, 3, 0, 0, 0)) (hs : pstep Y G e0 pc loc stk = some (.inl (pc', loc', stk', Y', G'))) (hrm : Y'.1.1 ≤ n0 + R.cells ∧ Y'.1.2 ≤ s0 + R.slots) (kk : pKK p l e R s m args below meth c Q D A sx nL n0 s0 ws0 pc' loc' stk' Y' G') : pKK p l e R s m args below meth c Q D A sx nL n0 s0 ws0 pc loc stk Y G := by
  have hX0 := hX
  obtain ⟨hx, hb, hml, hown, hts, hnest, hao, hstr, hAA, hfr, hlo⟩ := hX
  intro H locs ws tys ls st cells slots hW hA hl hst hc1 hc2
  subst he0
  obtain ⟨x, y, stk0, rfl, hs2⟩ := k_ll_s hs
  obtain ⟨h8, hs2⟩ := bif_s hs2
  have h8 := Nat.le_of_ble_eq_true h8
  cases pnx_s hs2
  obtain ⟨b1, st0, rfl, rfl, h0⟩ := sR_l hst
  obtain ⟨a1, st1, rfl, rfl, h1⟩ := sR_l h0
  have hcat := h1.cat
  have hr1 : cells ≤ R.cells := by have := hrm.1; omega
  have hr2 : slots ≤ R.slots := by have := hrm.2; omega
  exact va_mmax_long hx hb (by rw [hml]; exact hl.1.symm) hown (hts _ (lkJ_in hj)) (hts _ jw_max_longs) (hts _ jw_mi) (hts _ jw_max_longc) (by omega) (by omega) hr1 hr2 hd (kk H locs ws tys ls _ cells slots hW hA hl ⟨⟨_, rfl, mxl_r _ _⟩, h1⟩ hc1 hc2)

theorem ss_mabs {p : Program} {l : Launch} {e : Env} {R : Room} {s : State} {m : MethodId} {args : Array Value} {below : List Frame} {meth : Method} {c : Code} {Q : State → Prop} {D : va_G} {A : Nat → Prop} {sx : Nat → Option Nat} {cc : ByteArray} {nL K rt d n0 s0 : Nat} {ws0 : va_W} (hX : pCx p R s m args c sx A K nL d cc) {pc len : Nat} {e0 : pE} {Y Y' : pY} {G G' : pG} {pc' : Nat} {loc loc' stk stk' : List pV} {i : Nat} (hd : decode cc pc = .ok (.invokestatic i, 3)) (hj : lkf lkJ K i = some 3) (he0 : e0 = (.f2l, 3, 0, 0, 0)) (hs : pstep Y G e0 pc loc stk = some (.inl (pc', loc', stk', Y', G'))) (hrm : Y'.1.1 ≤ n0 + R.cells ∧ Y'.1.2 ≤ s0 + R.slots) (kk : pKK p l e R s m args below meth c Q D A sx nL n0 s0 ws0 pc' loc' stk' Y' G') : pKK p l e R s m args below meth c Q D A sx nL n0 s0 ws0 pc loc stk Y G := by
  have hX0 := hX
  obtain ⟨hx, hb, hml, hown, hts, hnest, hao, hstr, hAA, hfr, hlo⟩ := hX
  intro H locs ws tys ls st cells slots hW hA hl hst hc1 hc2
  subst he0
  obtain ⟨x, stk0, rfl, hs2⟩ := k_i_s hs
  obtain ⟨h8, hs2⟩ := bif_s hs2
  have h8 := Nat.le_of_ble_eq_true h8
  cases pnx_s hs2
  obtain ⟨a1, st1, rfl, rfl, h1⟩ := sR_i hst
  have hcat := h1.cat
  have hr1 : cells ≤ R.cells := by have := hrm.1; omega
  have hr2 : slots ≤ R.slots := by have := hrm.2; omega
  exact va_mabs hx hb (by rw [hml]; exact hl.1.symm) hown (hts _ (lkJ_in hj)) (hts _ jw_abss) (hts _ jw_mi) (hts _ jw_absc) (by omega) (by omega) hr1 hr2 hd (kk H locs ws tys ls _ cells slots hW hA hl ⟨⟨_, rfl, ab_r _⟩, h1⟩ hc1 hc2)

theorem ss_mabsl {p : Program} {l : Launch} {e : Env} {R : Room} {s : State} {m : MethodId} {args : Array Value} {below : List Frame} {meth : Method} {c : Code} {Q : State → Prop} {D : va_G} {A : Nat → Prop} {sx : Nat → Option Nat} {cc : ByteArray} {nL K rt d n0 s0 : Nat} {ws0 : va_W} (hX : pCx p R s m args c sx A K nL d cc) {pc len : Nat} {e0 : pE} {Y Y' : pY} {G G' : pG} {pc' : Nat} {loc loc' stk stk' : List pV} {i : Nat} (hd : decode cc pc = .ok (.invokestatic i, 3)) (hj : lkf lkJ K i = some 4) (he0 : e0 = (.d2f, 3, 0, 0, 0)) (hs : pstep Y G e0 pc loc stk = some (.inl (pc', loc', stk', Y', G'))) (hrm : Y'.1.1 ≤ n0 + R.cells ∧ Y'.1.2 ≤ s0 + R.slots) (kk : pKK p l e R s m args below meth c Q D A sx nL n0 s0 ws0 pc' loc' stk' Y' G') : pKK p l e R s m args below meth c Q D A sx nL n0 s0 ws0 pc loc stk Y G := by
  have hX0 := hX
  obtain ⟨hx, hb, hml, hown, hts, hnest, hao, hstr, hAA, hfr, hlo⟩ := hX
  intro H locs ws tys ls st cells slots hW hA hl hst hc1 hc2
  subst he0
  obtain ⟨x, stk0, rfl, hs2⟩ := k_l_s hs
  obtain ⟨h8, hs2⟩ := bif_s hs2
  have h8 := Nat.le_of_ble_eq_true h8
  cases pnx_s hs2
  obtain ⟨a1, st1, rfl, rfl, h1⟩ := sR_l hst
  have hcat := h1.cat
  have hr1 : cells ≤ R.cells := by have := hrm.1; omega
  have hr2 : slots ≤ R.slots := by have := hrm.2; omega
  exact va_mabs_long hx hb (by rw [hml]; exact hl.1.symm) hown (hts _ (lkJ_in hj)) (hts _ jw_abs_longs) (hts _ jw_mi) (hts _ jw_abs_longc) (by omega) (by omega) hr1 hr2 hd (kk H locs ws tys ls _ cells slots hW hA hl ⟨⟨_, rfl, abl_r _⟩, h1⟩ hc1 hc2)

theorem nfw : nativeFrameWords "java/lang/System" "arraycopy" 5 ≤ 50 := by decide
theorem pcpy_o (G : pG) (a0 sp a dp n : Nat) : ∀ j, j ≠ a → pcpy G a0 sp a dp n j = G j := fun j hj => by unfold pcpy; rw [if_neg hj]
theorem pcpy_s (G : pG) (a0 sp a dp n b : Nat) : pcpy G a0 sp a dp n a b = if dp ≤ b ∧ b < dp + n then G a0 (sp + (b - dp)) else G a b := by unfold pcpy; rw [if_pos rfl]

theorem ss_arraycopy {p : Program} {l : Launch} {e : Env} {R : Room} {s : State} {m : MethodId} {args : Array Value} {below : List Frame} {meth : Method} {c : Code} {Q : State → Prop} {D : va_G} {A : Nat → Prop} {sx : Nat → Option Nat} {cc : ByteArray} {nL K rt d n0 s0 : Nat} {ws0 : va_W} (hX : pCx p R s m args c sx A K nL d cc) {pc len : Nat} {e0 : pE} {Y Y' : pY} {G G' : pG} {pc' : Nat} {loc loc' stk stk' : List pV} {i : Nat} (hd : decode cc pc = .ok (.invokestatic i, 3)) (hj : lkf lkJ K i = some 6) (he0 : e0 = (.d2l, 3, 0, 0, 0)) (hs : pstep Y G e0 pc loc stk = some (.inl (pc', loc', stk', Y', G'))) (hrm : Y'.1.1 ≤ n0 + R.cells ∧ Y'.1.2 ≤ s0 + R.slots) (kk : pKK p l e R s m args below meth c Q D A sx nL n0 s0 ws0 pc' loc' stk' Y' G') : pKK p l e R s m args below meth c Q D A sx nL n0 s0 ws0 pc loc stk Y G := by
  have hX0 := hX
  obtain ⟨hx, hb, hml, hown, hts, hnest, hao, hstr, hAA, hfr, hlo⟩ := hX
  intro H locs ws tys ls st cells slots hW hA hl hst hc1 hc2
  subst he0
  obtain ⟨a0, sp, a, dp, n, stk0, rfl, hs2⟩ := k_cp_s hs
  obtain ⟨h8, hs2⟩ := bif_s hs2
  have h8 := Nat.le_of_ble_eq_true h8
  obtain ⟨hk, hs2⟩ := bif_s hs2
  obtain ⟨hbd, hs2⟩ := if_s hs2
  cases pnx_s hs2
  obtain ⟨n1, st5, rfl, rfl, g5⟩ := sR_i hst
  obtain ⟨d1, st4, rfl, rfl, g4⟩ := sR_i g5
  obtain ⟨q1, st3, rfl, ha1, g3⟩ := sR_r g4
  obtain ⟨s1, st2, rfl, rfl, g2⟩ := sR_i g3
  obtain ⟨q0, st1, rfl, ha0, h1⟩ := sR_r g2
  have hcat := h1.cat
  obtain ⟨hwR, hP, hD, hK, hS⟩ := hW
  have hz : (0 : Int32).toInt = 0 := rfl
  have n0' : ¬ n1 < 0 := fun q => by have := Int32.lt_iff_toInt_lt.mp q; omega
  have d0' : ¬ d1 < 0 := fun q => by have := Int32.lt_iff_toInt_lt.mp q; omega
  have s0' : ¬ s1 < 0 := fun q => by have := Int32.lt_iff_toInt_lt.mp q; omega
  have hnf := nfw
  simp only [Bool.or_eq_true, Bool.and_eq_true] at hk
  rcases hk with ⟨hk0, hk1⟩ | ⟨hk0, hk1⟩
  · have hk0' := beq_e hk0
    have hk1' := beq_e hk1
    obtain ⟨e0', he0, hcr0⟩ := hwR.cell ha0 (by omega)
    obtain ⟨e1', he1, hcr1⟩ := hwR.cell ha1 (by omega)
    obtain ⟨c0, m0, f, t0, rfl, hn0, hm0, ht0, hf0⟩ := cR_i hcr0 hk0'
    obtain ⟨c1, m1, g, t1, rfl, hn1, hm1, ht1, hf1⟩ := cR_i hcr1 hk1'
    refine va_copyi hx hb (by rw [hml]; exact hl.1.symm) hown (hts _ (lkJ_in hj)) (hts _ jw_an) (hts _ jw_as) (hts _ jw_si) hK hP hD hS a0 a t0 t1 he0 he1 ht0 ht1 rfl s0' d0' n0' (by rw [i32_cl, i32_cl]; omega) (by rw [i32_cl, i32_cl]; omega) (fun _ _ => rfl) (by omega) (by omega) hd (fun H1 locs1 hP1 hD1 hS1 => kk H1 locs1 _ tys ls _ cells slots ⟨hwR.put he1 (pcpy_o _ _ _ _ _ _) ?_, hP1, hD1, hK, hS1⟩ (hA.tr (aS.set he1)) (hl.mv (aS.set he1)) (h1.mv (aS.set he1)) hc1 hc2)
    refine ⟨hn1, hm1, Or.inl ⟨beq_e hk1, t1, ht1⟩, fun z hz3 => ?_⟩
    rw [pcpy_s]
    unfold va_cpy
    by_cases hz2 : d1.toInt.toNat ≤ z ∧ z < d1.toInt.toNat + n1.toInt.toNat
    · rw [if_pos hz2, if_pos (show d1.toNatClampNeg ≤ z ∧ z < d1.toNatClampNeg + n1.toNatClampNeg from hz2)]
      exact hf0 _ (by rw [i32_cl, i32_cl]; omega)
    · rw [if_neg hz2, if_neg (show ¬ (d1.toNatClampNeg ≤ z ∧ z < d1.toNatClampNeg + n1.toNatClampNeg) from hz2)]
      exact hf1 z hz3
  · have hk0' := beq_e hk0
    have hk1' := beq_e hk1
    obtain ⟨e0', he0, hcr0⟩ := hwR.cell ha0 (by omega)
    obtain ⟨e1', he1, hcr1⟩ := hwR.cell ha1 (by omega)
    obtain ⟨c0, m0, f, t0, rfl, hn0, hm0, ht0, hf0⟩ := cR_l hcr0 hk0'
    obtain ⟨c1, m1, g, t1, rfl, hn1, hm1, ht1, hf1⟩ := cR_l hcr1 hk1'
    refine va_copyl hx hb (by rw [hml]; exact hl.1.symm) hown (hts _ (lkJ_in hj)) (hts _ jw_an) (hts _ jw_as) (hts _ jw_si) hK hP hD hS a0 a t0 t1 he0 he1 ht0 ht1 rfl s0' d0' n0' (by rw [i32_cl, i32_cl]; omega) (by rw [i32_cl, i32_cl]; omega) (fun _ _ => rfl) (by omega) (by omega) hd (fun H1 locs1 hP1 hD1 hS1 => kk H1 locs1 _ tys ls _ cells slots ⟨hwR.put he1 (pcpy_o _ _ _ _ _ _) ?_, hP1, hD1, hK, hS1⟩ (hA.tr (aS.set he1)) (hl.mv (aS.set he1)) (h1.mv (aS.set he1)) hc1 hc2)
    refine ⟨hn1, hm1, beq_e hk1, ⟨t1, ht1⟩, fun z hz3 => ?_⟩
    rw [pcpy_s]
    unfold va_cpy
    by_cases hz2 : d1.toInt.toNat ≤ z ∧ z < d1.toInt.toNat + n1.toInt.toNat
    · rw [if_pos hz2, if_pos (show d1.toNatClampNeg ≤ z ∧ z < d1.toNatClampNeg + n1.toNatClampNeg from hz2)]
      exact hf0 _ (by rw [i32_cl, i32_cl]; omega)
    · rw [if_neg hz2, if_neg (show ¬ (d1.toNatClampNeg ≤ z ∧ z < d1.toNatClampNeg + n1.toNatClampNeg) from hz2)]
      exact hf1 z hz3

/-- rows of a table more -/
theorem wR.push2 {tys tys' : List (ClassId × FieldType)} {Y : pY} {G : pG} {ws : va_W} {N Kk q : Nat} {r : Nat → Nat} {cA cy : ClassId} (h : wR tys Y G ws) (hn : Y.1.1 + N ≤ 497) (hN : N ≤ 100000) (hK : Kk ≤ 100000) (ht : tS tys tys') (hA : ∃ t : Nat, tys'[t]? = some (cA, FieldType.array FieldType.int)) (hy : ∃ t : Nat, tys'[t]? = some (cy, FieldType.int)) : wR tys' (pmn2 Y N Kk) (pz2 G Y.1.1 N) (ws ++ ((q, .inl (cA, N, .inr (.inr (.inr (.inr (fun i => if i < N then some (r i) else none)))))) :: (List.range N).map (fun i => (r i, .inl (cy, Kk, .inl (fun _ => 0)))))) := by
  obtain ⟨h1, h2, h3, h4⟩ := h
  have hget : ∀ j, j < N → (ws ++ ((q, .inl (cA, N, .inr (.inr (.inr (.inr (fun i => if i < N then some (r i) else none)))))) :: (List.range N).map (fun i => ((r i, .inl (cy, Kk, .inl (fun _ => 0))) : Nat × va_E))))[Y.1.1 + 1 + j]? = some (r j, .inl (cy, Kk, .inl (fun _ => 0))) := fun j hj => by
    rw [List.getElem?_append_right (by omega), show Y.1.1 + 1 + j - ws.length = j + 1 by omega, List.getElem?_cons_succ, List.getElem?_map, List.getElem?_range hj]
    rfl
  refine ⟨by rw [List.length_append, List.length_cons, List.length_map, List.length_range, h1]; show Y.1.1 + (N + 1) = Y.1.1 + 1 + N; omega, by show Y.1.1 + 1 + N ≤ 498; omega, fun i hi => ?_, fun i x hx => ?_⟩
  · have hi : Y.1.1 + 1 + N ≤ i := hi
    show (if i < Y.1.1 then Y.2.1 i else if i = Y.1.1 then (103, (N : Int)) else if i < Y.1.1 + 1 + N then (100, (Kk : Int)) else Y.2.1 i).1 = 999
    rw [if_neg (by omega), if_neg (by omega), if_neg (by omega)]
    exact h3 i (by omega)
  · show cR _ tys' (if i < Y.1.1 then Y.2.1 i else if i = Y.1.1 then (103, (N : Int)) else if i < Y.1.1 + 1 + N then (100, (Kk : Int)) else Y.2.1 i) (if Y.1.1 ≤ i ∧ i < Y.1.1 + 1 + N then (fun _ => 0) else G i) (if i = Y.1.1 then (fun j => if j < N then some (Y.1.1 + 1 + j) else none) else if Y.1.1 < i ∧ i < Y.1.1 + 1 + N then (fun _ => none) else Y.2.2 i) x.2
    by_cases hi : i < ws.length
    · rw [List.getElem?_append_left hi] at hx
      rw [if_pos (by omega), if_neg (by omega), if_neg (by omega), if_neg (by omega)]
      exact (h4 i x hx).mv (aS.app _ _) ht
    · by_cases hi2 : i = Y.1.1
      · rw [List.getElem?_append_right (by omega), show i - ws.length = 0 by omega] at hx
        cases hx
        rw [if_neg (by omega), if_pos hi2, if_pos hi2]
        refine ⟨rfl, hN, rfl, hA, fun j hj a ha => ?_⟩
        have ha : (if j < N then some (Y.1.1 + 1 + j) else none) = some a := ha
        rw [if_pos hj] at ha
        cases ha
        exact ⟨r j, _, if_pos hj, hget j hj⟩
      · have hlt := (List.getElem?_eq_some_iff.mp hx).1
        rw [List.length_append, List.length_cons, List.length_map, List.length_range] at hlt
        have hj := hget (i - (Y.1.1 + 1)) (by omega)
        rw [show Y.1.1 + 1 + (i - (Y.1.1 + 1)) = i by omega, hx] at hj
        cases hj
        rw [if_neg (by omega), if_neg hi2, if_pos (by omega), if_pos (by omega), if_neg hi2, if_pos (by omega)]
        obtain ⟨t, hy⟩ := hy
        exact ⟨rfl, hK, Or.inl ⟨rfl, t, hy⟩, fun _ _ => rfl⟩

theorem ss_multi {p : Program} {l : Launch} {e : Env} {R : Room} {s : State} {m : MethodId} {args : Array Value} {below : List Frame} {meth : Method} {c : Code} {Q : State → Prop} {D : va_G} {A : Nat → Prop} {sx : Nat → Option Nat} {cc : ByteArray} {nL K rt d n0 s0 : Nat} {ws0 : va_W} (hX : pCx p R s m args c sx A K nL d cc) {pc len : Nat} {e0 : pE} {Y Y' : pY} {G G' : pG} {pc' : Nat} {loc loc' stk stk' : List pV} {i z : Nat} (hM : pMNA) (hd : decode cc pc = .ok (.multianewarray i 2, 4)) (hj : lkf lkA K i = some z) (he0 : e0 = (.multianewarray 0 2, 4, 0, 0, 0)) (hs : pstep Y G e0 pc loc stk = some (.inl (pc', loc', stk', Y', G'))) (hrm : Y'.1.1 ≤ n0 + R.cells ∧ Y'.1.2 ≤ s0 + R.slots) (kk : pKK p l e R s m args below meth c Q D A sx nL n0 s0 ws0 pc' loc' stk' Y' G') : pKK p l e R s m args below meth c Q D A sx nL n0 s0 ws0 pc loc stk Y G := by
  have hX0 := hX
  obtain ⟨hx, hb, hml, hown, hts, hnest, hao, hstr, hAA, hfr, hlo⟩ := hX
  intro H locs ws tys ls st cells slots hW hA hl hst hc1 hc2
  subst he0
  obtain ⟨x, y, stk0, rfl, hs2⟩ := k_ii_s hs
  obtain ⟨hbd, hs2⟩ := if_s hs2
  cases pnx_s hs2
  obtain ⟨b1, st0, rfl, rfl, h0⟩ := sR_i hst
  obtain ⟨a1, st1, rfl, rfl, h1⟩ := sR_i h0
  obtain ⟨hwR, hP, hD, hK, hS⟩ := hW
  have hr1 : Y.1.1 + 1 + a1.toInt.toNat ≤ n0 + R.cells := hrm.1
  have hr2 : Y.1.2 + a1.toInt.toNat + a1.toInt.toNat * b1.toInt.toNat ≤ s0 + R.slots := hrm.2
  have hlen : ws.length = Y.1.1 := hwR.1
  refine hM p l e R s m args below meth c H locs cells slots Q cc pc ls st1 D A tys ws (pown K) i a1 b1 hx hb hown (hts _ (lkA_in hj)) hao (hts _ jw_arint) hK hP hD hS hAA hbd.2.1 hbd.2.2.2.1 hbd.2.2.1 hbd.2.2.2.2 (by omega) (by omega) hd (fun q r cA cy H1 hK1 hP1 hD1 hS1 => kk H1 locs _ _ ls _ (cells + 1 + a1.toInt.toNat) (slots + a1.toInt.toNat + a1.toInt.toNat * b1.toInt.toNat) ⟨hwR.push2 (by omega) (by omega) (by omega) (tS.app _ _) ⟨tys.length, ?_⟩ ⟨tys.length + 1, ?_⟩, hP1, hD1, hK1, hS1⟩ (hA.tr (aS.app _ _)) (hl.mv (aS.app _ _)) ⟨⟨q, rfl, Or.inl ⟨.inl (cA, a1.toInt.toNat, .inr (.inr (.inr (.inr (fun i => if i < a1.toInt.toNat then some (r i) else none))))), ?_⟩⟩, h1.mv (aS.app _ _)⟩ (by show Y.1.1 + 1 + a1.toInt.toNat = _; omega) (by show Y.1.2 + a1.toInt.toNat + a1.toInt.toNat * b1.toInt.toNat = _; omega))
  · rw [List.getElem?_append_right (by omega), Nat.sub_self]; rfl
  · rw [List.getElem?_append_right (by omega), show tys.length + 1 - tys.length = 1 by omega]; rfl
  · rw [List.getElem?_append_right (by omega), hlen, Nat.sub_self]; rfl

/-- the script -/
def pScr (sx : Nat → Option Nat) (s : State) (A : Nat → Prop) (G : pG) : Prop := ∃ (b L : Nat) (xs : Nat → Int32), sx 499 = some b ∧ va_X b L xs s s.heap ∧ b < s.heap.size ∧ ¬ A b ∧ L < 2 ^ 31 ∧ G 498 0 = (L : Int) ∧ ∀ j, j < L → G 499 j = (xs j).toInt
theorem sx_at {ws : va_W} {tys : List (ClassId × FieldType)} {Y : pY} {G : pG} {sx : Nat → Option Nat} {q : Nat} (h : wR tys Y G ws) (hv : (∃ e, ws[499]? = some (q, e)) ∨ (499 ≤ 499 ∧ sx 499 = some q)) : sx 499 = some q := by
  rcases hv with ⟨e, he⟩ | ⟨-, h2⟩
  · have := (List.getElem?_eq_some_iff.mp he).1
    have h1 := h.1
    have h2 := h.2.1
    omega
  · exact h2

theorem ss_faload {p : Program} {l : Launch} {e : Env} {R : Room} {s : State} {m : MethodId} {args : Array Value} {below : List Frame} {meth : Method} {c : Code} {Q : State → Prop} {D : va_G} {A : Nat → Prop} {sx : Nat → Option Nat} {cc : ByteArray} {nL K rt d n0 s0 : Nat} {ws0 : va_W} (hX : pCx p R s m args c sx A K nL d cc) {pc len : Nat} {e0 : pE} {Y Y' : pY} {G G' : pG} {pc' : Nat} {loc loc' stk stk' : List pV} (hd : decode cc pc = .ok (.iaload, 1)) (hsc : pScr sx s A G) (he0 : e0 = (.faload, 1, 0, 0, 0)) (hs : pstep Y G e0 pc loc stk = some (.inl (pc', loc', stk', Y', G'))) (hrm : Y'.1.1 ≤ n0 + R.cells ∧ Y'.1.2 ≤ s0 + R.slots) (kk : pKK p l e R s m args below meth c Q D A sx nL n0 s0 ws0 pc' loc' stk' Y' G') : pKK p l e R s m args below meth c Q D A sx nL n0 s0 ws0 pc loc stk Y G := by
  have hX0 := hX
  obtain ⟨hx, hb, hml, hown, hts, hnest, hao, hstr, hAA, hfr, hlo⟩ := hX
  intro H locs ws tys ls st cells slots hW hA hl hst hc1 hc2
  subst he0
  obtain ⟨r, i, stk0, rfl, hs2⟩ := k_ri_s hs
  obtain ⟨hkd, hs2⟩ := bif_s hs2
  have hkd := beq_e hkd
  obtain ⟨hbd, hs2⟩ := if_s hs2
  cases pnx_s hs2
  obtain ⟨j, st0, rfl, rfl, h0⟩ := sR_i hst
  obtain ⟨q, st1, rfl, h2, h1⟩ := sR_r h0
  subst hkd
  obtain ⟨b, L, xs, g1, g2, g3, g4, g5, g6, g7⟩ := hsc
  have hq := sx_at hW.1 h2
  rw [g1] at hq
  cases hq
  exact va_sld hx hb g2 g3 g4 hW.2.2.2.2 (i32_in hbd.1 (by omega)) hd (kk H locs ws tys ls _ cells slots hW hA hl ⟨⟨_, rfl, (g7 j.toNatClampNeg (by rw [i32_cl]; omega)).symm⟩, h1⟩ hc1 hc2)

theorem ss_fastore {p : Program} {l : Launch} {e : Env} {R : Room} {s : State} {m : MethodId} {args : Array Value} {below : List Frame} {meth : Method} {c : Code} {Q : State → Prop} {D : va_G} {A : Nat → Prop} {sx : Nat → Option Nat} {cc : ByteArray} {nL K rt d n0 s0 : Nat} {ws0 : va_W} (hX : pCx p R s m args c sx A K nL d cc) {pc len : Nat} {e0 : pE} {Y Y' : pY} {G G' : pG} {pc' : Nat} {loc loc' stk stk' : List pV} (hd : decode cc pc = .ok (.arraylength, 1)) (hsc : pScr sx s A G) (he0 : e0 = (.fastore, 1, 0, 0, 0)) (hs : pstep Y G e0 pc loc stk = some (.inl (pc', loc', stk', Y', G'))) (hrm : Y'.1.1 ≤ n0 + R.cells ∧ Y'.1.2 ≤ s0 + R.slots) (kk : pKK p l e R s m args below meth c Q D A sx nL n0 s0 ws0 pc' loc' stk' Y' G') : pKK p l e R s m args below meth c Q D A sx nL n0 s0 ws0 pc loc stk Y G := by
  have hX0 := hX
  obtain ⟨hx, hb, hml, hown, hts, hnest, hao, hstr, hAA, hfr, hlo⟩ := hX
  intro H locs ws tys ls st cells slots hW hA hl hst hc1 hc2
  subst he0
  obtain ⟨r, stk0, rfl, hs2⟩ := k_r_s hs
  obtain ⟨hkd, hs2⟩ := bif_s hs2
  have hkd := beq_e hkd
  cases pnx_s hs2
  obtain ⟨q, st1, rfl, h2, h1⟩ := sR_r hst
  subst hkd
  obtain ⟨b, L, xs, g1, g2, g3, g4, g5, g6, g7⟩ := hsc
  have hq := sx_at hW.1 h2
  rw [g1] at hq
  cases hq
  exact va_slen hx hb g2 g3 g4 hW.2.2.2.2 hd (kk H locs ws tys ls _ cells slots hW hA hl ⟨⟨_, rfl, by rw [g6]; exact nI_toInt g5⟩, h1⟩ hc1 hc2)

theorem ss_ldc {p : Program} {l : Launch} {e : Env} {R : Room} {s : State} {m : MethodId} {args : Array Value} {below : List Frame} {meth : Method} {c : Code} {Q : State → Prop} {D : va_G} {A : Nat → Prop} {sx : Nat → Option Nat} {cc : ByteArray} {nL K rt d n0 s0 : Nat} {ws0 : va_W} (hX : pCx p R s m args c sx A K nL d cc) {pc len : Nat} {e0 : pE} {Y Y' : pY} {G G' : pG} {pc' : Nat} {loc loc' stk stk' : List pV} {i z : Nat} (hM : pLDC) (hd : decode cc pc = .ok (.ldc i, 2)) (hj : lkf lkS K i = some z) (he0 : e0 = (.ldc 0, 2, 500 + z, 0, 0)) (hs : pstep Y G e0 pc loc stk = some (.inl (pc', loc', stk', Y', G'))) (hrm : Y'.1.1 ≤ n0 + R.cells ∧ Y'.1.2 ≤ s0 + R.slots) (kk : pKK p l e R s m args below meth c Q D A sx nL n0 s0 ws0 pc' loc' stk' Y' G') : pKK p l e R s m args below meth c Q D A sx nL n0 s0 ws0 pc loc stk Y G := by
  have hX0 := hX
  obtain ⟨hx, hb, hml, hown, hts, hnest, hao, hstr, hAA, hfr, hlo⟩ := hX
  intro H locs ws tys ls st cells slots hW hA hl hst hc1 hc2
  subst he0
  cases pnx_s hs
  obtain ⟨a, ha, hr⟩ := hstr.1 _ (lkf_mem hj)
  exact hM p l e R s m args below meth c H locs cells slots Q cc pc ls st (pown K) _ i a hx hb hown hr hd (kk H locs ws tys ls _ cells slots hW hA hl ⟨⟨a, rfl, Or.inr ⟨by omega, ha⟩⟩, hst⟩ hc1 hc2)

theorem sx_str {ws : va_W} {tys : List (ClassId × FieldType)} {Y : pY} {G : pG} {sx : Nat → Option Nat} {A : Nat → Prop} {U : State} {r q : Nat} (h : wR tys Y G ws) (hs : pStr sx A U) (hr : 500 ≤ r) (hv : (∃ e, ws[r]? = some (q, e)) ∨ (499 ≤ r ∧ sx r = some q)) : ∃ i, i < 5 ∧ r = 500 + i ∧ sx (500 + i) = some q := by
  rcases hv with ⟨e, he⟩ | ⟨-, h2⟩
  · have := (List.getElem?_eq_some_iff.mp he).1
    have h1 := h.1
    have h2 := h.2.1
    omega
  · by_cases h5 : r < 505
    · exact ⟨r - 500, by omega, by omega, by rw [show 500 + (r - 500) = r by omega]; exact h2⟩
    · rw [hs.2.1 r (by omega)] at h2
      cases h2
theorem pstr_len : ∀ i, i < 5 → ∀ s, pn pstr i = some s → (Int32.ofNat (pstL.getD i 0)).toInt = (s.length : Int) ∧ pstL.getD i 0 = s.length := by
  intro i hi s hs
  have h5 : i = 0 ∨ i = 1 ∨ i = 2 ∨ i = 3 ∨ i = 4 := by omega
  rcases h5 with rfl | rfl | rfl | rfl | rfl <;> cases hs <;> exact ⟨by decide, by decide⟩
theorem pstr_ch : ∀ i, i < 5 → ∀ s, pn pstr i = some s → ∀ j ch, pn s j = some ch → ((pstB.getD i []).getD j 0).toInt = ch := by
  intro i hi s hs j ch hj
  have hl := pn_lt hj
  have h5 : i = 0 ∨ i = 1 ∨ i = 2 ∨ i = 3 ∨ i = 4 := by omega
  rcases h5 with rfl | rfl | rfl | rfl | rfl <;> cases hs <;> (have hl2 : j < 5 := by simp at hl; omega) <;> (have h6 : j = 0 ∨ j = 1 ∨ j = 2 ∨ j = 3 ∨ j = 4 := by omega) <;> rcases h6 with rfl | rfl | rfl | rfl | rfl <;> cases hj <;> decide

theorem ss_strlen (hM : pSLN) {p : Program} {l : Launch} {e : Env} {R : Room} {s : State} {m : MethodId} {args : Array Value} {below : List Frame} {meth : Method} {c : Code} {Q : State → Prop} {D : va_G} {A : Nat → Prop} {sx : Nat → Option Nat} {cc : ByteArray} {nL K rt d n0 s0 : Nat} {ws0 : va_W} (hX : pCx p R s m args c sx A K nL d cc) {pc len : Nat} {e0 : pE} {Y Y' : pY} {G G' : pG} {pc' : Nat} {loc loc' stk stk' : List pV} {i : Nat} (hd : decode cc pc = .ok (.invokevirtual i, 3)) (hj : lkf lkJ K i = some 7) (he0 : e0 = (.daload, 3, 0, 0, 0)) (hs : pstep Y G e0 pc loc stk = some (.inl (pc', loc', stk', Y', G'))) (hrm : Y'.1.1 ≤ n0 + R.cells ∧ Y'.1.2 ≤ s0 + R.slots) (kk : pKK p l e R s m args below meth c Q D A sx nL n0 s0 ws0 pc' loc' stk' Y' G') : pKK p l e R s m args below meth c Q D A sx nL n0 s0 ws0 pc loc stk Y G := by
  have hX0 := hX
  obtain ⟨hx, hb, hml, hown, hts, hnest, hao, hstr, hAA, hfr, hlo⟩ := hX
  intro H locs ws tys ls st cells slots hW hA hl hst hc1 hc2
  subst he0
  obtain ⟨r, stk0, rfl, hs2⟩ := k_r_s hs
  obtain ⟨h8, hs2⟩ := bif_s hs2
  rw [Bool.and_eq_true] at h8
  have h9 := Nat.le_of_ble_eq_true h8.1
  have h7 := Nat.le_of_ble_eq_true h8.2
  obtain ⟨tx, htx, hs2⟩ := k_op_s (o := pn pstr (r - 500)) hs2
  cases pnx_s hs2
  obtain ⟨q, st1, rfl, h2, h1⟩ := sR_r hst
  have hcat := h1.cat
  obtain ⟨n, hn, rfl, hn2⟩ := sx_str hW.1 hstr h7 h2
  rw [show 500 + n - 500 = n by omega] at htx
  have hr1 : cells ≤ R.cells := by have := hrm.1; omega
  have hr2 : slots ≤ R.slots := by have := hrm.2; omega
  exact hM p l e R s m args below meth c H locs cells slots Q cc pc ls st1 sx A K nL d i n q hX0 hl.1 hW.2.2.2.2 (lkJ_in hj) hn hn2 (by omega) hr1 hr2 hd (kk H locs ws tys ls _ cells slots hW hA hl ⟨⟨_, rfl, (pstr_len n hn tx htx).1⟩, h1⟩ hc1 hc2)

theorem ss_strchr (hM : pSCH) {p : Program} {l : Launch} {e : Env} {R : Room} {s : State} {m : MethodId} {args : Array Value} {below : List Frame} {meth : Method} {c : Code} {Q : State → Prop} {D : va_G} {A : Nat → Prop} {sx : Nat → Option Nat} {cc : ByteArray} {nL K rt d n0 s0 : Nat} {ws0 : va_W} (hX : pCx p R s m args c sx A K nL d cc) {pc len : Nat} {e0 : pE} {Y Y' : pY} {G G' : pG} {pc' : Nat} {loc loc' stk stk' : List pV} {i : Nat} (hd : decode cc pc = .ok (.invokevirtual i, 3)) (hj : lkf lkJ K i = some 8) (he0 : e0 = (.dastore, 3, 0, 0, 0)) (hs : pstep Y G e0 pc loc stk = some (.inl (pc', loc', stk', Y', G'))) (hrm : Y'.1.1 ≤ n0 + R.cells ∧ Y'.1.2 ≤ s0 + R.slots) (kk : pKK p l e R s m args below meth c Q D A sx nL n0 s0 ws0 pc' loc' stk' Y' G') : pKK p l e R s m args below meth c Q D A sx nL n0 s0 ws0 pc loc stk Y G := by
  have hX0 := hX
  obtain ⟨hx, hb, hml, hown, hts, hnest, hao, hstr, hAA, hfr, hlo⟩ := hX
  intro H locs ws tys ls st cells slots hW hA hl hst hc1 hc2
  subst he0
  obtain ⟨r, j, stk0, rfl, hs2⟩ := k_ri_s hs
  obtain ⟨h8, hs2⟩ := bif_s hs2
  rw [Bool.and_eq_true] at h8
  have h9 := Nat.le_of_ble_eq_true h8.1
  have h7 := Nat.le_of_ble_eq_true h8.2
  obtain ⟨tx, htx, hs2⟩ := k_op_s (o := pn pstr (r - 500)) hs2
  obtain ⟨hj0, hs2⟩ := if_s hs2
  obtain ⟨ch, hch, hs2⟩ := k_op_s (o := pn tx j.toNat) hs2
  cases pnx_s hs2
  obtain ⟨b1, st0, rfl, rfl, h0⟩ := sR_i hst
  obtain ⟨q, st1, rfl, h2, h1⟩ := sR_r h0
  have hcat := h1.cat
  obtain ⟨n, hn, rfl, hn2⟩ := sx_str hW.1 hstr h7 h2
  rw [show 500 + n - 500 = n by omega] at htx
  have hr1 : cells ≤ R.cells := by have := hrm.1; omega
  have hr2 : slots ≤ R.slots := by have := hrm.2; omega
  exact hM p l e R s m args below meth c H locs cells slots Q cc pc ls st1 sx A K nL d i n q b1 hX0 hl.1 hW.2.2.2.2 (lkJ_in hj) hn hn2 hj0 (by rw [(pstr_len n hn tx htx).2]; exact pn_lt hch) (by omega) hr1 hr2 hd (kk H locs ws tys ls _ cells slots hW hA hl ⟨⟨_, rfl, pstr_ch n hn tx htx _ _ hch⟩, h1⟩ hc1 hc2)

