theorem pcalM_s {way M : Nat} {e0 : pE} (h : pcalM way M = some e0) : ∃ w, pmw M = some w ∧ way = (bif w.2.2.2.2 then 1 else (bif pini M then 2 else 0)) ∧ e0 = (.invokestatic (prc1 w.2.2.1), 3, M, w.2.2.2.1, bif Nat.beq way 1 then -1 else (w.1 : Int)) := by
  obtain ⟨w, h1, h2⟩ := k_op_s h
  obtain ⟨h3, h4⟩ := bif_s h2
  exact ⟨w, h1, beq_e h3, (Option.some.inj h4).symm⟩
def pjE : List (Nat × pE) := [(2, (.pop, 3, 0, 0, 0)), (1, (.f2d, 3, 0, 0, 0)), (1, (.f2i, 3, 0, 0, 0)), (1, (.f2l, 3, 0, 0, 0)), (1, (.d2f, 3, 0, 0, 0)), (1, (.d2i, 3, 0, 0, 0)), (1, (.d2l, 3, 0, 0, 0)), (0, (.daload, 3, 0, 0, 0)), (0, (.dastore, 3, 0, 0, 0))]
theorem pcal_s {K way i : Nat} {e0 : pE} (h : pcal K way i = some e0) : (∃ M, (lkf lkM K i = some M ∨ lkf lkN K i = some M) ∧ pcalM way M = some e0) ∨ ∃ J, lkf lkJ K i = some J ∧ pn pjE J = some (way, e0) := by
  unfold pcal at h
  split at h
  · exact Or.inl ⟨_, Or.inl (by assumption), h⟩
  · split at h
    · exact Or.inl ⟨_, Or.inr (by assumption), h⟩
    · split at h
      · refine Or.inr ⟨_, by assumption, ?_⟩
        split at h
        all_goals first | (obtain ⟨h3, h4⟩ := bif_s h; cases h4; rw [beq_e h3]; rfl) | (cases h)
      · cases h
theorem inv_no {Y : pY} {G : pG} {rc M n : Nat} {c : Int} {pc : Nat} {loc stk : List pV} {z : Nat × List pV × List pV × pY × pG} (h : pstep Y G (.invokestatic rc, 3, M, n, c) pc loc stk = some (.inl z)) : False := by
  obtain ⟨q, -, h2⟩ := k_op_s (o := ppop n stk []) h
  obtain ⟨-, h3⟩ := bif_s h2
  cases h3
theorem iret_no {Y : pY} {G : pG} {len : Nat} {c : Int} {pc : Nat} {loc stk : List pV} {z : Nat × List pV × List pV × pY × pG} (h : pstep Y G (.ireturn, len, 0, 0, c) pc loc stk = some (.inl z)) : False := by
  unfold pstep at h
  dsimp only at h
  split at h
  · cases hb : (c == 3) with
    | true =>
      rw [hb] at h
      obtain ⟨-, h⟩ := if_s h
      cases h
    | false => rw [hb] at h; cases h
  · cases h
theorem ptr_l {K rt pc len : Nat} {r : Instr} {e0 : pE} (h : ptr K rt pc r len = some e0) : len = plen r len ∧ ptr0 K rt pc r len = some e0 := by
  obtain ⟨h1, h2⟩ := bif_s h
  exact ⟨beq_e h1, h2⟩

set_option maxHeartbeats 2000000 in
/-- one step of the pure machine is one of the kit's -/
theorem sim_step {p : Program} {l : Launch} {e : Env} {R : Room} {s : State} {m : MethodId} {args : Array Value} {below : List Frame} {meth : Method} {c : Code} {Q : State → Prop} {D : va_G} {A : Nat → Prop} {sx : Nat → Option Nat} {cc : ByteArray} {nL K rt d n0 s0 : Nat} {ws0 : va_W} (hR : pRows) (hX : pCx p R s m args c sx A K nL d cc) {pc len : Nat} {r : Instr} {e0 : pE} {Y Y' : pY} {G G' : pG} {pc' : Nat} {loc loc' stk stk' : List pV} (hsc : Nat.beq K 13 = true → (r = .iaload ∨ r = .arraylength) → pScr sx s A G) (hfi : ∀ a b, e0 = (.putfield 0, len, a, b, 2) → meth.name = "<init>" ∧ b = K) (hd : decode cc pc = .ok (r, len)) (hp : ptr K rt pc r len = some e0) (hs : pstep Y G e0 pc loc stk = some (.inl (pc', loc', stk', Y', G'))) (hrm : Y'.1.1 ≤ n0 + R.cells ∧ Y'.1.2 ≤ s0 + R.slots) (kk : pKK p l e R s m args below meth c Q D A sx nL n0 s0 ws0 pc' loc' stk' Y' G') : pKK p l e R s m args below meth c Q D A sx nL n0 s0 ws0 pc loc stk Y G := by
  cases r
  case iadd => exact ss_iadd hX hd hp hs kk
  case isub => exact ss_isub hX hd hp hs kk
  case imul => exact ss_imul hX hd hp hs kk
  case iand => exact ss_iand hX hd hp hs kk
  case ior => exact ss_ior hX hd hp hs kk
  case ixor => exact ss_ixor hX hd hp hs kk
  case ishl => exact ss_ishl hX hd hp hs kk
  case ishr => exact ss_ishr hX hd hp hs kk
  case iushr => exact ss_iushr hX hd hp hs kk
  case idiv => exact ss_idiv hX hd hp hs kk
  case irem => exact ss_irem hX hd hp hs kk
  case ladd => exact ss_ladd hX hd hp hs kk
  case lsub => exact ss_lsub hX hd hp hs kk
  case lmul => exact ss_lmul hX hd hp hs kk
  case land => exact ss_land hX hd hp hs kk
  case lor => exact ss_lor hX hd hp hs kk
  case ldiv => exact ss_ldiv hX hd hp hs kk
  case lrem => exact ss_lrem hX hd hp hs kk
  case lshl => exact ss_lshl hX hd hp hs kk
  case lshr => exact ss_lshr hX hd hp hs kk
  case lcmp => exact ss_lcmp hX hd hp hs kk
  case ineg => exact ss_ineg hX hd hp hs kk
  case lneg => exact ss_lneg hX hd hp hs kk
  case i2l => exact ss_i2l hX hd hp hs kk
  case l2i => exact ss_l2i hX hd hp hs kk
  case i2b => exact ss_i2b hX hd hp hs kk
  case dup => exact ss_dup hX hd hp hs kk
  case dup2 => exact ss_dup2 hX hd hp hs kk
  case iconst n => exact ss_iconst hX hd hp hs kk
  case bipush n => exact ss_bipush hX hd hp hs kk
  case sipush n => exact ss_sipush hX hd hp hs kk
  case lconst n => exact ss_lconst hX hd hp hs kk
  case ldc2_w n => exact ss_ldc2 hX hd hp hs kk
  case iload n => exact ss_iload hX hd hp hs kk
  case iload_n n => exact ss_iload_n hX hd hp hs kk
  case istore n => exact ss_istore hX hd hp hs kk
  case istore_n n => exact ss_istore_n hX hd hp hs kk
  case lload n => exact ss_lload hX hd hp hs kk
  case lload_n n => exact ss_lload_n hX hd hp hs kk
  case lstore n => exact ss_lstore hX hd hp hs kk
  case lstore_n n => exact ss_lstore_n hX hd hp hs kk
  case aload n => exact ss_aload hX hd hp hs kk
  case aload_n n => exact ss_aload_n hX hd hp hs kk
  case astore n => exact ss_astore hX hd hp hs kk
  case astore_n n => exact ss_astore_n hX hd hp hs kk
  case iinc n z => exact ss_iinc hX hd hp hs kk
  case goto off => exact ss_goto hX hd hp hs kk
  case ifCond cn off =>
    cases cn
    case eq => exact ss_if_eq hX hd hp hs kk
    case ne => exact ss_if_ne hX hd hp hs kk
    case lt => exact ss_if_lt hX hd hp hs kk
    case ge => exact ss_if_ge hX hd hp hs kk
    case gt => exact ss_if_gt hX hd hp hs kk
    case le => exact ss_if_le hX hd hp hs kk
  case if_icmp cn off =>
    cases cn
    case eq => exact ss_icmp_eq hX hd hp hs kk
    case ne => exact ss_icmp_ne hX hd hp hs kk
    case lt => exact ss_icmp_lt hX hd hp hs kk
    case ge => exact ss_icmp_ge hX hd hp hs kk
    case gt => exact ss_icmp_gt hX hd hp hs kk
    case le => exact ss_icmp_le hX hd hp hs kk
  case tableswitch dd lo hi offs => exact ss_table hX hd hp hs kk
  case lookupswitch dd ps => exact ss_lookup hX hd hp hs kk
  case getfield i => exact ss_getfield hX hd hp hs hrm kk
  case putfield i => exact ss_putfield hX hfi hd hp hs hrm kk
  case laload => exact ss_laload hX hd hp hs hrm kk
  case baload => exact ss_baload hX hd hp hs hrm kk
  case aaload => exact ss_aaload hX hd hp hs hrm kk
  case iastore => exact ss_iastore hX hd hp hs hrm kk
  case lastore => exact ss_lastore hX hd hp hs hrm kk
  case bastore => exact ss_bastore hX hd hp hs hrm kk
  case iaload =>
    cases hK : Nat.beq K 13 with
    | false => exact ss_iaload hX hK hd hp hs hrm kk
    | true =>
      obtain ⟨hl, hp⟩ := ptr_l hp
      have hl : len = 1 := hl
      subst hl
      have hp : some ((bif Nat.beq K 13 then Instr.faload else Instr.iaload), 1, 0, 0, (0 : Int)) = some e0 := hp
      rw [hK] at hp
      exact ss_faload (len := 0) (rt := rt) hX hd (hsc hK (Or.inl rfl)) (Option.some.inj hp).symm hs hrm kk
  case arraylength =>
    cases hK : Nat.beq K 13 with
    | false => exact ss_arraylength hX hK hd hp hs hrm kk
    | true =>
      obtain ⟨hl, hp⟩ := ptr_l hp
      have hl : len = 1 := hl
      subst hl
      have hp : some ((bif Nat.beq K 13 then Instr.fastore else Instr.arraylength), 1, 0, 0, (0 : Int)) = some e0 := hp
      rw [hK] at hp
      exact ss_fastore (len := 0) (rt := rt) hX hd (hsc hK (Or.inr rfl)) (Option.some.inj hp).symm hs hrm kk
  case new i => exact ss_new hX hd hp hs hrm kk
  case newarray t =>
    cases t
    case int => exact ss_newarr_int hX hd hp hs hrm kk
    case long => exact ss_newarr_long hX hd hp hs hrm kk
    case byte => exact ss_newarr_byte hX hd hp hs hrm kk
    all_goals (obtain ⟨-, hp⟩ := ptr_l hp; cases hp)
  case multianewarray i n =>
    obtain ⟨hl, hp⟩ := ptr_l hp
    have hl : len = 4 := hl
    subst hl
    obtain ⟨hn, hp⟩ := bif_s hp
    have hn := beq_e hn
    subst hn
    obtain ⟨z, hz, hp⟩ := k_op_s hp
    exact ss_multi (len := 0) (rt := rt) hX hR.1 hd hz (Option.some.inj hp).symm hs hrm kk
  case ldc i =>
    obtain ⟨hl, hp⟩ := ptr_l hp
    have hl : len = 2 := hl
    subst hl
    obtain ⟨z, hz, hp⟩ := k_op_s hp
    exact ss_ldc (len := 0) (rt := rt) hX hR.2.2.2 hd hz (Option.some.inj hp).symm hs hrm kk
  case invokevirtual i =>
    obtain ⟨hl, hp⟩ := ptr_l hp
    have hl : len = 3 := hl
    subst hl
    have hp : pcal K 0 i = some e0 := hp
    rcases pcal_s hp with ⟨M, -, hM⟩ | ⟨J, hJ, hE⟩
    · obtain ⟨w, -, -, rfl⟩ := pcalM_s hM
      exact (inv_no hs).elim
    · have hJ9 := pn_lt hE
      have hJ9 : J < 9 := hJ9
      have h9 : J = 0 ∨ J = 1 ∨ J = 2 ∨ J = 3 ∨ J = 4 ∨ J = 5 ∨ J = 6 ∨ J = 7 ∨ J = 8 := by omega
      rcases h9 with rfl | rfl | rfl | rfl | rfl | rfl | rfl | rfl | rfl
      · cases hE
      · cases hE
      · cases hE
      · cases hE
      · cases hE
      · cases hE
      · cases hE
      · cases hE; exact ss_strlen hR.2.1 (len := 0) (rt := rt) hX hd hJ rfl hs hrm kk
      · cases hE; exact ss_strchr hR.2.2.1 (len := 0) (rt := rt) hX hd hJ rfl hs hrm kk
  case invokestatic i =>
    obtain ⟨hl, hp⟩ := ptr_l hp
    have hl : len = 3 := hl
    subst hl
    have hp : pcal K 1 i = some e0 := hp
    rcases pcal_s hp with ⟨M, -, hM⟩ | ⟨J, hJ, hE⟩
    · obtain ⟨w, -, -, rfl⟩ := pcalM_s hM
      exact (inv_no hs).elim
    · have hJ9 := pn_lt hE
      have hJ9 : J < 9 := hJ9
      have h9 : J = 0 ∨ J = 1 ∨ J = 2 ∨ J = 3 ∨ J = 4 ∨ J = 5 ∨ J = 6 ∨ J = 7 ∨ J = 8 := by omega
      rcases h9 with rfl | rfl | rfl | rfl | rfl | rfl | rfl | rfl | rfl
      · cases hE
      · cases hE; exact ss_mmax (len := 0) (rt := rt) hX hd hJ rfl hs hrm kk
      · cases hE; exact ss_mmin (len := 0) (rt := rt) hX hd hJ rfl hs hrm kk
      · cases hE; exact ss_mabs (len := 0) (rt := rt) hX hd hJ rfl hs hrm kk
      · cases hE; exact ss_mabsl (len := 0) (rt := rt) hX hd hJ rfl hs hrm kk
      · cases hE; exact ss_mmaxl (len := 0) (rt := rt) hX hd hJ rfl hs hrm kk
      · cases hE; exact ss_arraycopy (len := 0) (rt := rt) hX hd hJ rfl hs hrm kk
      · cases hE
      · cases hE
  case invokespecial i =>
    obtain ⟨hl, hp⟩ := ptr_l hp
    have hl : len = 3 := hl
    subst hl
    have hp : pcal K 2 i = some e0 := hp
    rcases pcal_s hp with ⟨M, -, hM⟩ | ⟨J, hJ, hE⟩
    · obtain ⟨w, -, -, rfl⟩ := pcalM_s hM
      exact (inv_no hs).elim
    · have hJ9 := pn_lt hE
      have hJ9 : J < 9 := hJ9
      have h9 : J = 0 ∨ J = 1 ∨ J = 2 ∨ J = 3 ∨ J = 4 ∨ J = 5 ∨ J = 6 ∨ J = 7 ∨ J = 8 := by omega
      rcases h9 with rfl | rfl | rfl | rfl | rfl | rfl | rfl | rfl | rfl
      · cases hE; exact ss_objinit (len := 0) (rt := rt) hX hd hJ rfl hs hrm kk
      · cases hE
      · cases hE
      · cases hE
      · cases hE
      · cases hE
      · cases hE
      · cases hE
      · cases hE
  case ireturn =>
    obtain ⟨-, hp⟩ := ptr_l hp
    cases hp
    exact (iret_no hs).elim
  all_goals (obtain ⟨-, hp⟩ := ptr_l hp; first | (cases hp; done) | (cases hp; cases hs; done) | (cases hp; unfold pstep at hs; dsimp only at hs; split at hs <;> first | (cases hs; done) | (obtain ⟨-, hs⟩ := bif_s hs; cases hs; done) | skip))

