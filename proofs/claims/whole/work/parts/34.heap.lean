set_option maxRecDepth 100000 in
theorem jw_maxs : Cond.static Lib.Math.max.name ∈ lw_use := use_mem (List.mem_of_getElem? (i := 837) rfl) rfl
set_option maxRecDepth 100000 in
theorem jw_maxc : Cond.code Lib.Math.max.name Lib.Math.max.code 2 (some .int) ∈ lw_use := use_mem (List.mem_of_getElem? (i := 838) rfl) rfl
set_option maxRecDepth 100000 in
theorem jw_mins : Cond.static Lib.Math.min.name ∈ lw_use := use_mem (List.mem_of_getElem? (i := 864) rfl) rfl
set_option maxRecDepth 100000 in
theorem jw_minc : Cond.code Lib.Math.min.name Lib.Math.min.code 2 (some .int) ∈ lw_use := use_mem (List.mem_of_getElem? (i := 865) rfl) rfl
set_option maxRecDepth 100000 in
theorem jw_abss : Cond.static Lib.Math.abs.name ∈ lw_use := use_mem (List.mem_of_getElem? (i := 2040) rfl) rfl
set_option maxRecDepth 100000 in
theorem jw_absc : Cond.code Lib.Math.abs.name Lib.Math.abs.code 1 (some .int) ∈ lw_use := use_mem (List.mem_of_getElem? (i := 2041) rfl) rfl
set_option maxRecDepth 100000 in
theorem jw_abs_longs : Cond.static Lib.MathLoose.abs_long.x ∈ lw_use := use_mem (List.mem_of_getElem? (i := 1111) rfl) rfl
set_option maxRecDepth 100000 in
theorem jw_abs_longc : Cond.code Lib.MathLoose.abs_long.x Lib.MathLoose.abs_long.code 2 (some .long) ∈ lw_use := use_mem (List.mem_of_getElem? (i := 1112) rfl) rfl
set_option maxRecDepth 100000 in
theorem jw_max_longs : Cond.static Lib.MathLoose.max_long.x ∈ lw_use := use_mem (List.mem_of_getElem? (i := 1122) rfl) rfl
set_option maxRecDepth 100000 in
theorem jw_max_longc : Cond.code Lib.MathLoose.max_long.x Lib.MathLoose.max_long.code 4 (some .long) ∈ lw_use := use_mem (List.mem_of_getElem? (i := 1123) rfl) rfl
set_option maxRecDepth 100000 in
theorem jw_mi : Cond.initialized "java/lang/Math" ∈ lw_use := use_mem (List.mem_of_getElem? (i := 117) rfl) rfl
set_option maxRecDepth 100000 in
theorem jw_si : Cond.initialized "java/lang/System" ∈ lw_use := use_mem (List.mem_of_getElem? (i := 118) rfl) rfl
set_option maxRecDepth 100000 in
theorem jw_an : Cond.native arraycopyName ∈ lw_use := use_mem (List.mem_of_getElem? (i := 813) rfl) rfl
set_option maxRecDepth 100000 in
theorem jw_as : Cond.static arraycopyName ∈ lw_use := use_mem (List.mem_of_getElem? (i := 812) rfl) rfl
set_option maxRecDepth 100000 in
theorem jw_oi : Cond.instanceMethod Lib.objectInit ∈ lw_use := use_mem (List.mem_of_getElem? (i := 129) rfl) rfl
set_option maxRecDepth 100000 in
theorem jw_oc : Cond.code Lib.objectInit ⟨#[0xb1]⟩ 1 none ∈ lw_use := use_mem (List.mem_of_getElem? (i := 130) rfl) rfl
set_option maxRecDepth 100000 in
theorem jw_arint : Cond.arrayClass .int ∈ lw_use := use_mem (List.mem_of_getElem? (i := 241) rfl) rfl
set_option maxRecDepth 100000 in
theorem jw_arlong : Cond.arrayClass .long ∈ lw_use := use_mem (List.mem_of_getElem? (i := 240) rfl) rfl
set_option maxRecDepth 100000 in
theorem jw_arbyte : Cond.arrayClass .byte ∈ lw_use := use_mem (List.mem_of_getElem? (i := 164) rfl) rfl
theorem pfref : ∀ ci, ci < 13 → ∀ k, k < pfN ci → pfk ci k = 2 → (pfT ci k).2.2.2 = true ∧ ((pfY ci k).isReference = true) := by decide +kernel
theorem pf3 : ∀ ci, ci < 13 → ∀ k, k < pfN ci → (pfk ci k = 0 ∨ pfk ci k = 1 ∨ pfk ci k = 2 ∨ pfk ci k = 3) ∧ pfN ci ≤ 74 := by decide +kernel
theorem pfk0 {ci k : Nat} (h : pfk ci k = 0) : pfY ci k = .int := by
  unfold pfk at h; split at h <;> first | assumption | (exact absurd h (by decide))
theorem pfk1 {ci k : Nat} (h : pfk ci k = 1) : pfY ci k = .long := by
  unfold pfk at h; split at h <;> first | assumption | (exact absurd h (by decide))
theorem pfk3 {ci k : Nat} (h : pfk ci k = 3) : pfY ci k = .boolean := by
  unfold pfk at h; split at h <;> first | assumption | (exact absurd h (by decide))
theorem pfg_v {ci k : Nat} (h : pfk ci k = 0 ∨ pfk ci k = 3) : pfg ci k = 0 := by
  unfold pfg; rcases h with h | h <;> rw [h] <;> rfl
theorem pfg_1 {ci k : Nat} (h : pfk ci k = 1) : pfg ci k = 1 := by unfold pfg; rw [h]; rfl
theorem pfg_2 {ci k : Nat} (h : pfk ci k = 2) : pfg ci k = 2 := by unfold pfg; rw [h]; rfl
theorem fR_i {ws : va_W} {kd x : Int} {o : Option Value} {r : Option Nat} (h : fR ws kd o x r) (hk : kd = 0 ∨ kd = 3) : ∃ y : Int32, o = some (.int y) ∧ y.toInt = x := by
  unfold fR at h; rcases hk with rfl | rfl
  · rw [if_neg (by decide), if_neg (by decide)] at h; exact h
  · rw [if_neg (by decide), if_neg (by decide)] at h; exact h
theorem fR_l {ws : va_W} {x : Int} {o : Option Value} {r : Option Nat} (h : fR ws 1 o x r) : ∃ y : Int64, o = some (.long y) ∧ y.toInt = x := by
  unfold fR at h; rw [if_pos rfl] at h; exact h
theorem fR_r {ws : va_W} {x : Int} {o : Option Value} {r : Option Nat} (h : fR ws 2 o x r) : ∀ a, r = some a → ∃ (q : Nat) (e : va_E), o = some (.ref q) ∧ ws[a]? = some (q, e) := by
  unfold fR at h; rw [if_neg (by decide), if_pos rfl] at h; exact h
theorem beq_e {a b : Nat} (h : Nat.beq a b = true) : a = b := Nat.eq_of_beq_eq_true h
theorem pset_o (G : pG) (r k : Nat) (v : Int) : ∀ j, j ≠ r → pset G r k v j = G j := fun j hj => by unfold pset; rw [if_neg hj]
theorem pset_s (G : pG) (r k : Nat) (v : Int) (b : Nat) : pset G r k v r b = if b = k then v else G r b := by unfold pset; rw [if_pos rfl]
/-- a field is written -/
theorem cR_fset {ws : va_W} {tys : List (ClassId × FieldType)} {kl : Nat × Int} {g g' : Nat → Int} {rf rf' : Nat → Option Nat} {fs : List Value} {k : Nat} {v : Value} (hk : kl.1 < 13) (hl : fs.length = pfN kl.1) (hf : ∀ j, j < pfN kl.1 → fR ws (pfk kl.1 j) fs[j]? (g j) (rf j)) (hkN : k < pfN kl.1) (hg : ∀ j, j ≠ k → g' j = g j) (hr : ∀ j, j ≠ k → rf' j = rf j) (hv : fR ws (pfk kl.1 k) (some v) (g' k) (rf' k)) : cR ws tys kl g' rf' (.inr (kl.1, fs.set k v)) := by
  refine ⟨rfl, hk, by rw [List.length_set]; exact hl, fun j hj => ?_⟩
  by_cases e : j = k
  · subst e
    rw [List.getElem?_set_self (by omega)]
    exact hv
  · rw [List.getElem?_set_ne (Ne.symm e), hg j e, hr j e]
    exact hf j hj
theorem refn {ty : FieldType} (h : ty.isReference = true) (q : Nat) : narrow ty (.ref q) = .ref q ∧ fits ty (.ref q) = true := by
  cases ty <;> first | (exact ⟨rfl, rfl⟩) | (cases h)
theorem booln {b : Int32} (h : b.toInt = 0 ∨ b.toInt = 1) : narrow .boolean (.int b) = .int b ∧ fits .boolean (.int b) = true := by
  have h2 : b = 0 ∨ b = 1 := by
    rcases h with h | h
    · exact Or.inl (Int32.toInt_inj.mp h)
    · exact Or.inr (Int32.toInt_inj.mp h)
  rcases h2 with rfl | rfl <;> exact ⟨by decide, by decide⟩
theorem plks_eq (d x : Int) : ∀ ps : List (Int × Int), Op.lookupswitch.offset ps d x = plks ps d x
  | [] => by first | rfl | simp [plks, Op.lookupswitch.offset]
  | (k, o) :: r => by
    rw [Op.lookupswitch.offset_cons, plks_eq d x r]
    show _ = if x = k then o else plks r d x
    by_cases h : x = k
    · rw [if_pos h, if_pos h.symm]
    · rw [if_neg h, if_neg (fun q => h q.symm)]
theorem plks_in {d x : Int} {P : Int → Prop} (h0 : P d) : ∀ {ps : List (Int × Int)}, (∀ q ∈ ps, P q.2) → P (plks ps d x)
  | [], _ => h0
  | (k, o) :: r, h => by
    unfold plks
    split
    · exact h _ List.mem_cons_self
    · exact plks_in h0 (fun q hq => h q (List.mem_cons_of_mem _ hq))
theorem pn_get {α : Type} : ∀ {l : List α} {i : Nat}, pn l i = l[i]?
  | [], _ => rfl
  | _ :: _, 0 => rfl
  | _ :: l, i + 1 => by rw [List.getElem?_cons_succ]; exact pn_get (l := l)

theorem ss_table {p : Program} {l : Launch} {e : Env} {R : Room} {s : State} {m : MethodId} {args : Array Value} {below : List Frame} {meth : Method} {c : Code} {Q : State → Prop} {D : va_G} {A : Nat → Prop} {sx : Nat → Option Nat} {cc : ByteArray} {nL K rt d n0 s0 : Nat} {ws0 : va_W} (hX : pCx p R s m args c sx A K nL d cc) {pc len : Nat} {e0 : pE} {dd lo hi : Int} {offs : Array Int} (hd : decode cc pc = .ok (.tableswitch dd lo hi offs, len)) (hp : ptr K rt pc (.tableswitch dd lo hi offs) len = some e0) {Y Y' : pY} {G G' : pG} {pc' : Nat} {loc loc' stk stk' : List pV} (hs : pstep Y G e0 pc loc stk = some (.inl (pc', loc', stk', Y', G'))) (kk : pKK p l e R s m args below meth c Q D A sx nL n0 s0 ws0 pc' loc' stk' Y' G') : pKK p l e R s m args below meth c Q D A sx nL n0 s0 ws0 pc loc stk Y G := by
  obtain ⟨hx, hb, hml, hown, hts, hnest, hao, hstr, hAA, hfr, hlo⟩ := hX
  intro H locs ws tys ls st cells slots hW hA hl hst hc1 hc2
  obtain ⟨-, hp⟩ := bif_s hp
  obtain ⟨h0, hp⟩ := bif_s hp
  cases hp
  rw [Bool.and_eq_true] at h0
  obtain ⟨x, stk0, rfl, hs2⟩ := k_i_s hs
  obtain ⟨a1, st1, rfl, rfl, h1⟩ := sR_i hst
  by_cases hc : a1.toInt < lo ∨ hi < a1.toInt
  · rw [if_pos hc] at hs2
    cases pnx_s hs2
    exact lv_tableOut hx hb hd hc (pnneg_s h0.1) (kk H locs ws tys ls _ cells slots hW hA hl h1 hc1 hc2)
  · rw [if_neg hc] at hs2
    obtain ⟨off, ho, hs3⟩ := k_op_s hs2
    cases pnx_s hs3
    rw [pn_get] at ho
    exact lv_tableIn hx hb hd (fun q => hc (Or.inl q)) (fun q => hc (Or.inr q)) (by rw [← Array.getElem?_toList]; exact ho) (pnneg_s (List.all_eq_true.mp h0.2 off (List.mem_of_getElem? ho))) (kk H locs ws tys ls _ cells slots hW hA hl h1 hc1 hc2)

theorem ss_lookup {p : Program} {l : Launch} {e : Env} {R : Room} {s : State} {m : MethodId} {args : Array Value} {below : List Frame} {meth : Method} {c : Code} {Q : State → Prop} {D : va_G} {A : Nat → Prop} {sx : Nat → Option Nat} {cc : ByteArray} {nL K rt d n0 s0 : Nat} {ws0 : va_W} (hX : pCx p R s m args c sx A K nL d cc) {pc len : Nat} {e0 : pE} {dd : Int} {ps : Array (Int × Int)} (hd : decode cc pc = .ok (.lookupswitch dd ps, len)) (hp : ptr K rt pc (.lookupswitch dd ps) len = some e0) {Y Y' : pY} {G G' : pG} {pc' : Nat} {loc loc' stk stk' : List pV} (hs : pstep Y G e0 pc loc stk = some (.inl (pc', loc', stk', Y', G'))) (kk : pKK p l e R s m args below meth c Q D A sx nL n0 s0 ws0 pc' loc' stk' Y' G') : pKK p l e R s m args below meth c Q D A sx nL n0 s0 ws0 pc loc stk Y G := by
  obtain ⟨hx, hb, hml, hown, hts, hnest, hao, hstr, hAA, hfr, hlo⟩ := hX
  intro H locs ws tys ls st cells slots hW hA hl hst hc1 hc2
  obtain ⟨-, hp⟩ := bif_s hp
  obtain ⟨h0, hp⟩ := bif_s hp
  cases hp
  rw [Bool.and_eq_true, Bool.and_eq_true] at h0
  obtain ⟨x, stk0, rfl, hs2⟩ := k_i_s hs
  obtain ⟨a1, st1, rfl, rfl, h1⟩ := sR_i hst
  cases pnx_s hs2
  have ht : (pc : Int) + plks ps.toList dd a1.toInt = (((pc : Int) + plks ps.toList dd a1.toInt).toNat : Int) := plks_in (P := fun o => (pc : Int) + o = (((pc : Int) + o).toNat : Int)) (pnneg_s h0.1.1) (fun q hq => pnneg_s (List.all_eq_true.mp h0.1.2 q hq))
  exact lv_lookup hx hb hd h0.2 (plks_eq _ _ _) ht (kk H locs ws tys ls _ cells slots hW hA hl h1 hc1 hc2)

theorem ss_getfield {p : Program} {l : Launch} {e : Env} {R : Room} {s : State} {m : MethodId} {args : Array Value} {below : List Frame} {meth : Method} {c : Code} {Q : State → Prop} {D : va_G} {A : Nat → Prop} {sx : Nat → Option Nat} {cc : ByteArray} {nL K rt d n0 s0 : Nat} {ws0 : va_W} (hX : pCx p R s m args c sx A K nL d cc) {pc len : Nat} {e0 : pE} {i : Nat} (hd : decode cc pc = .ok (.getfield i, len)) (hp : ptr K rt pc (.getfield i) len = some e0) {Y Y' : pY} {G G' : pG} {pc' : Nat} {loc loc' stk stk' : List pV} (hs : pstep Y G e0 pc loc stk = some (.inl (pc', loc', stk', Y', G'))) (hrm : Y'.1.1 ≤ n0 + R.cells ∧ Y'.1.2 ≤ s0 + R.slots) (kk : pKK p l e R s m args below meth c Q D A sx nL n0 s0 ws0 pc' loc' stk' Y' G') : pKK p l e R s m args below meth c Q D A sx nL n0 s0 ws0 pc loc stk Y G := by
  obtain ⟨hx, hb, hml, hown, hts, hnest, hao, hstr, hAA, hfr, hlo⟩ := hX
  intro H locs ws tys ls st cells slots hW hA hl hst hc1 hc2
  obtain ⟨hlen, hp⟩ := bif_s hp
  have hlen : len = 3 := Nat.eq_of_beq_eq_true hlen
  subst hlen
  obtain ⟨⟨ci, k⟩, hq, hp⟩ := k_op_s hp
  cases hp
  have hbd := lkF_bd _ (lkf_mem hq)
  have hci : ci < 13 := hbd.1
  have hkN : k < pfN ci := hbd.2
  obtain ⟨r, stk0, rfl, hs2⟩ := k_r_s hs
  obtain ⟨hkd, hs2⟩ := bif_s hs2
  have hkd := beq_e hkd
  obtain ⟨q, st1, rfl, h0, h1⟩ := sR_r hst
  obtain ⟨e1, he, hcr⟩ := hW.1.cell h0 (by omega)
  obtain ⟨fs, rfl, hfl, hff⟩ := cR_o hcr (by omega)
  rw [hkd] at hfl hff he
  have hf := hff k hkN
  have row : ∀ v, fs[k]? = some v → W p l e R s m args below meth c H locs cells slots Q (F0 m (pc + 3) ls (v :: st1)) → W p l e R s m args below meth c H locs cells slots Q (F0 m pc ls (.ref q :: st1)) := fun v hv kk2 => va_get (C := pown ci) (T := pfT ci) (N := pfN ci) hx hb hts (pin hci) hown hW.2.2.2.1 hW.2.1 r he (pcl_at ci hci) k hkN (hts _ (lkF_in hq)) (fun _ h => h) hv hd kk2
  rcases (pf3 ci hci k hkN).1 with h3 | h3 | h3 | h3
  · rw [pfg_v (Or.inl h3)] at hs2
    cases pnx_s hs2
    obtain ⟨y, hv, hy⟩ := fR_i hf (Or.inl h3)
    exact row _ hv (kk H locs ws tys ls _ cells slots hW hA hl ⟨⟨y, rfl, hy⟩, h1⟩ hc1 hc2)
  · rw [pfg_1 h3] at hs2
    cases pnx_s hs2
    rw [h3] at hf
    obtain ⟨y, hv, hy⟩ := fR_l hf
    exact row _ hv (kk H locs ws tys ls _ cells slots hW hA hl ⟨⟨y, rfl, hy⟩, h1⟩ hc1 hc2)
  · rw [pfg_2 h3] at hs2
    obtain ⟨a, ha, hs3⟩ := k_op_s (o := Y.2.2 r k) hs2
    cases pnx_s hs3
    rw [h3] at hf
    obtain ⟨y, e2, hv, hy⟩ := fR_r hf a ha
    exact row _ hv (kk H locs ws tys ls _ cells slots hW hA hl ⟨⟨y, rfl, Or.inl ⟨e2, hy⟩⟩, h1⟩ hc1 hc2)
  · rw [pfg_v (Or.inr h3)] at hs2
    cases pnx_s hs2
    obtain ⟨y, hv, hy⟩ := fR_i hf (Or.inr h3)
    exact row _ hv (kk H locs ws tys ls _ cells slots hW hA hl ⟨⟨y, rfl, hy⟩, h1⟩ hc1 hc2)

theorem ss_iaload {p : Program} {l : Launch} {e : Env} {R : Room} {s : State} {m : MethodId} {args : Array Value} {below : List Frame} {meth : Method} {c : Code} {Q : State → Prop} {D : va_G} {A : Nat → Prop} {sx : Nat → Option Nat} {cc : ByteArray} {nL K rt d n0 s0 : Nat} {ws0 : va_W} (hX : pCx p R s m args c sx A K nL d cc) {pc len : Nat} {e0 : pE} (hK13 : Nat.beq K 13 = false) (hd : decode cc pc = .ok (.iaload, len)) (hp : ptr K rt pc (.iaload) len = some e0) {Y Y' : pY} {G G' : pG} {pc' : Nat} {loc loc' stk stk' : List pV} (hs : pstep Y G e0 pc loc stk = some (.inl (pc', loc', stk', Y', G'))) (hrm : Y'.1.1 ≤ n0 + R.cells ∧ Y'.1.2 ≤ s0 + R.slots) (kk : pKK p l e R s m args below meth c Q D A sx nL n0 s0 ws0 pc' loc' stk' Y' G') : pKK p l e R s m args below meth c Q D A sx nL n0 s0 ws0 pc loc stk Y G := by
  obtain ⟨hx, hb, hml, hown, hts, hnest, hao, hstr, hAA, hfr, hlo⟩ := hX
  intro H locs ws tys ls st cells slots hW hA hl hst hc1 hc2
  obtain ⟨hlen, hp⟩ := bif_s hp
  have hlen : len = 1 := Nat.eq_of_beq_eq_true hlen
  subst hlen
  have hp : some ((bif Nat.beq K 13 then Instr.faload else Instr.iaload), 1, 0, 0, (0 : Int)) = some e0 := hp
  rw [hK13] at hp
  cases hp
  obtain ⟨r, i, stk0, rfl, hs2⟩ := k_ri_s hs
  obtain ⟨hkd, hs2⟩ := bif_s hs2
  have hkd := beq_e hkd
  obtain ⟨hbd, hs2⟩ := if_s hs2
  cases pnx_s hs2
  obtain ⟨j, st0, rfl, rfl, h0⟩ := sR_i hst
  obtain ⟨q, st1, rfl, h2, h1⟩ := sR_r h0
  obtain ⟨e1, he, hcr⟩ := hW.1.cell h2 (by omega)
  obtain ⟨cA, n, f, t, rfl, hn, hn2, ht, hf⟩ := cR_i hcr hkd
  exact va_iald hx hb hW.2.2.2.1 hW.2.1 r t he ht (i32_in hbd.1 (by omega)) hd (kk H locs ws tys ls _ cells slots hW hA hl ⟨⟨_, rfl, hf _ (by rw [i32_cl]; omega)⟩, h1⟩ hc1 hc2)

theorem ss_laload {p : Program} {l : Launch} {e : Env} {R : Room} {s : State} {m : MethodId} {args : Array Value} {below : List Frame} {meth : Method} {c : Code} {Q : State → Prop} {D : va_G} {A : Nat → Prop} {sx : Nat → Option Nat} {cc : ByteArray} {nL K rt d n0 s0 : Nat} {ws0 : va_W} (hX : pCx p R s m args c sx A K nL d cc) {pc len : Nat} {e0 : pE} (hd : decode cc pc = .ok (.laload, len)) (hp : ptr K rt pc (.laload) len = some e0) {Y Y' : pY} {G G' : pG} {pc' : Nat} {loc loc' stk stk' : List pV} (hs : pstep Y G e0 pc loc stk = some (.inl (pc', loc', stk', Y', G'))) (hrm : Y'.1.1 ≤ n0 + R.cells ∧ Y'.1.2 ≤ s0 + R.slots) (kk : pKK p l e R s m args below meth c Q D A sx nL n0 s0 ws0 pc' loc' stk' Y' G') : pKK p l e R s m args below meth c Q D A sx nL n0 s0 ws0 pc loc stk Y G := by
  obtain ⟨hx, hb, hml, hown, hts, hnest, hao, hstr, hAA, hfr, hlo⟩ := hX
  intro H locs ws tys ls st cells slots hW hA hl hst hc1 hc2
  obtain ⟨hlen, hp⟩ := bif_s hp
  have hlen : len = 1 := Nat.eq_of_beq_eq_true hlen
  subst hlen
  cases hp
  obtain ⟨r, i, stk0, rfl, hs2⟩ := k_ri_s hs
  obtain ⟨hkd, hs2⟩ := bif_s hs2
  have hkd := beq_e hkd
  obtain ⟨hbd, hs2⟩ := if_s hs2
  cases pnx_s hs2
  obtain ⟨j, st0, rfl, rfl, h0⟩ := sR_i hst
  obtain ⟨q, st1, rfl, h2, h1⟩ := sR_r h0
  obtain ⟨e1, he, hcr⟩ := hW.1.cell h2 (by omega)
  obtain ⟨cA, n, f, t, rfl, hn, hn2, ht, hf⟩ := cR_l hcr hkd
  exact va_lald hx hb hW.2.2.2.1 hW.2.1 r t he ht (i32_in hbd.1 (by omega)) hd (kk H locs ws tys ls _ cells slots hW hA hl ⟨⟨_, rfl, hf _ (by rw [i32_cl]; omega)⟩, h1⟩ hc1 hc2)

theorem ss_baload {p : Program} {l : Launch} {e : Env} {R : Room} {s : State} {m : MethodId} {args : Array Value} {below : List Frame} {meth : Method} {c : Code} {Q : State → Prop} {D : va_G} {A : Nat → Prop} {sx : Nat → Option Nat} {cc : ByteArray} {nL K rt d n0 s0 : Nat} {ws0 : va_W} (hX : pCx p R s m args c sx A K nL d cc) {pc len : Nat} {e0 : pE} (hd : decode cc pc = .ok (.baload, len)) (hp : ptr K rt pc (.baload) len = some e0) {Y Y' : pY} {G G' : pG} {pc' : Nat} {loc loc' stk stk' : List pV} (hs : pstep Y G e0 pc loc stk = some (.inl (pc', loc', stk', Y', G'))) (hrm : Y'.1.1 ≤ n0 + R.cells ∧ Y'.1.2 ≤ s0 + R.slots) (kk : pKK p l e R s m args below meth c Q D A sx nL n0 s0 ws0 pc' loc' stk' Y' G') : pKK p l e R s m args below meth c Q D A sx nL n0 s0 ws0 pc loc stk Y G := by
  obtain ⟨hx, hb, hml, hown, hts, hnest, hao, hstr, hAA, hfr, hlo⟩ := hX
  intro H locs ws tys ls st cells slots hW hA hl hst hc1 hc2
  obtain ⟨hlen, hp⟩ := bif_s hp
  have hlen : len = 1 := Nat.eq_of_beq_eq_true hlen
  subst hlen
  cases hp
  obtain ⟨r, i, stk0, rfl, hs2⟩ := k_ri_s hs
  obtain ⟨hkd, hs2⟩ := bif_s hs2
  have hkd := beq_e hkd
  obtain ⟨hbd, hs2⟩ := if_s hs2
  cases pnx_s hs2
  obtain ⟨j, st0, rfl, rfl, h0⟩ := sR_i hst
  obtain ⟨q, st1, rfl, h2, h1⟩ := sR_r h0
  obtain ⟨e1, he, hcr⟩ := hW.1.cell h2 (by omega)
  obtain ⟨cA, n, f, t, rfl, hn, hn2, ht, hf⟩ := cR_b hcr hkd
  exact va_bald hx hb hW.2.2.2.1 hW.2.1 r t he ht (i32_in hbd.1 (by omega)) hd (kk H locs ws tys ls _ cells slots hW hA hl ⟨⟨_, rfl, hf _ (by rw [i32_cl]; omega)⟩, h1⟩ hc1 hc2)

theorem ss_aaload {p : Program} {l : Launch} {e : Env} {R : Room} {s : State} {m : MethodId} {args : Array Value} {below : List Frame} {meth : Method} {c : Code} {Q : State → Prop} {D : va_G} {A : Nat → Prop} {sx : Nat → Option Nat} {cc : ByteArray} {nL K rt d n0 s0 : Nat} {ws0 : va_W} (hX : pCx p R s m args c sx A K nL d cc) {pc len : Nat} {e0 : pE} (hd : decode cc pc = .ok (.aaload, len)) (hp : ptr K rt pc (.aaload) len = some e0) {Y Y' : pY} {G G' : pG} {pc' : Nat} {loc loc' stk stk' : List pV} (hs : pstep Y G e0 pc loc stk = some (.inl (pc', loc', stk', Y', G'))) (hrm : Y'.1.1 ≤ n0 + R.cells ∧ Y'.1.2 ≤ s0 + R.slots) (kk : pKK p l e R s m args below meth c Q D A sx nL n0 s0 ws0 pc' loc' stk' Y' G') : pKK p l e R s m args below meth c Q D A sx nL n0 s0 ws0 pc loc stk Y G := by
  obtain ⟨hx, hb, hml, hown, hts, hnest, hao, hstr, hAA, hfr, hlo⟩ := hX
  intro H locs ws tys ls st cells slots hW hA hl hst hc1 hc2
  obtain ⟨hlen, hp⟩ := bif_s hp
  have hlen : len = 1 := Nat.eq_of_beq_eq_true hlen
  subst hlen
  cases hp
  obtain ⟨r, i, stk0, rfl, hs2⟩ := k_ri_s hs
  obtain ⟨hkd, hs2⟩ := bif_s hs2
  have hkd := beq_e hkd
  obtain ⟨hbd, hs2⟩ := if_s hs2
  obtain ⟨a, ha, hs3⟩ := k_op_s (o := Y.2.2 r i.toNat) hs2
  cases pnx_s hs3
  obtain ⟨j, st0, rfl, rfl, h0⟩ := sR_i hst
  obtain ⟨q, st1, rfl, h2, h1⟩ := sR_r h0
  obtain ⟨e1, he, hcr⟩ := hW.1.cell h2 (by omega)
  obtain ⟨cA, n, f, t, rfl, hn, hn2, ht, hf⟩ := cR_q hcr hkd
  have hjn : j.toNatClampNeg < n := by rw [i32_cl]; omega
  obtain ⟨q2, e2, hv, hy⟩ := hf j.toNatClampNeg hjn a ha
  have hin : vp_in j n := i32_in hbd.1 (by omega)
  refine W.aald (v := va_rf (f j.toNatClampNeg)) (ty := .array .int) hx hb (hW.2.1 r _ he) ((hW.2.2.2.1.2 t _ ht).1 n (fun j => va_rf (f j))) rfl (fun q => by cases q) (by show ¬ (j < 0 ∨ (arrV _ _ _).slots.size ≤ _); rw [arrV_size]; exact hin) (by show (arrV _ _ _).slots[_]? = _; rw [arrV_read _ _ hjn]) rfl rfl hd ?_
  rw [hv]
  exact kk H locs ws tys ls _ cells slots hW hA hl ⟨⟨q2, rfl, Or.inl ⟨e2, hy⟩⟩, h1⟩ hc1 hc2

theorem ss_arraylength {p : Program} {l : Launch} {e : Env} {R : Room} {s : State} {m : MethodId} {args : Array Value} {below : List Frame} {meth : Method} {c : Code} {Q : State → Prop} {D : va_G} {A : Nat → Prop} {sx : Nat → Option Nat} {cc : ByteArray} {nL K rt d n0 s0 : Nat} {ws0 : va_W} (hX : pCx p R s m args c sx A K nL d cc) {pc len : Nat} {e0 : pE} (hK13 : Nat.beq K 13 = false) (hd : decode cc pc = .ok (.arraylength, len)) (hp : ptr K rt pc (.arraylength) len = some e0) {Y Y' : pY} {G G' : pG} {pc' : Nat} {loc loc' stk stk' : List pV} (hs : pstep Y G e0 pc loc stk = some (.inl (pc', loc', stk', Y', G'))) (hrm : Y'.1.1 ≤ n0 + R.cells ∧ Y'.1.2 ≤ s0 + R.slots) (kk : pKK p l e R s m args below meth c Q D A sx nL n0 s0 ws0 pc' loc' stk' Y' G') : pKK p l e R s m args below meth c Q D A sx nL n0 s0 ws0 pc loc stk Y G := by
  obtain ⟨hx, hb, hml, hown, hts, hnest, hao, hstr, hAA, hfr, hlo⟩ := hX
  intro H locs ws tys ls st cells slots hW hA hl hst hc1 hc2
  obtain ⟨hlen, hp⟩ := bif_s hp
  have hlen : len = 1 := Nat.eq_of_beq_eq_true hlen
  subst hlen
  have hp : some ((bif Nat.beq K 13 then Instr.fastore else Instr.arraylength), 1, 0, 0, (0 : Int)) = some e0 := hp
  rw [hK13] at hp
  cases hp
  obtain ⟨r, stk0, rfl, hs2⟩ := k_r_s hs
  obtain ⟨hkd, hs2⟩ := bif_s hs2
  rw [Bool.and_eq_true] at hkd
  have hk1 := Nat.le_of_ble_eq_true hkd.1
  have hk2 := Nat.le_of_ble_eq_true hkd.2
  cases pnx_s hs2
  obtain ⟨q, st1, rfl, h2, h1⟩ := sR_r hst
  obtain ⟨e1, he, hcr⟩ := hW.1.cell h2 (by omega)
  have hk3 : (Y.2.1 r).1 = 100 ∨ (Y.2.1 r).1 = 101 ∨ (Y.2.1 r).1 = 102 ∨ (Y.2.1 r).1 = 103 := by omega
  rcases hk3 with h3 | h3 | h3 | h3
  · obtain ⟨cA, n, f, t, rfl, hn, hn2, ht, hf⟩ := cR_i hcr h3
    exact va_alen hx hb hW.2.2.2.1 hW.2.1 r t he ht rfl hd (kk H locs ws tys ls _ cells slots hW hA hl ⟨⟨_, rfl, by rw [← hn]; exact nI_toInt (by omega)⟩, h1⟩ hc1 hc2)
  · obtain ⟨cA, n, f, t, rfl, hn, hn2, ht, hf⟩ := cR_l hcr h3
    exact va_alen hx hb hW.2.2.2.1 hW.2.1 r t he ht rfl hd (kk H locs ws tys ls _ cells slots hW hA hl ⟨⟨_, rfl, by rw [← hn]; exact nI_toInt (by omega)⟩, h1⟩ hc1 hc2)
  · obtain ⟨cA, n, f, t, rfl, hn, hn2, ht, hf⟩ := cR_b hcr h3
    exact va_alen hx hb hW.2.2.2.1 hW.2.1 r t he ht rfl hd (kk H locs ws tys ls _ cells slots hW hA hl ⟨⟨_, rfl, by rw [← hn]; exact nI_toInt (by omega)⟩, h1⟩ hc1 hc2)
  · obtain ⟨cA, n, f, t, rfl, hn, hn2, ht, hf⟩ := cR_q hcr h3
    exact va_alen hx hb hW.2.2.2.1 hW.2.1 r t he ht rfl hd (kk H locs ws tys ls _ cells slots hW hA hl ⟨⟨_, rfl, by rw [← hn]; exact nI_toInt (by omega)⟩, h1⟩ hc1 hc2)

