/-- instructions that only go on -/
def pgo (r : Instr) : Bool := match r with
  | .ireturn => false
  | .lreturn => false
  | .return_ => false
  | .invokestatic _ => false
  | _ => true
def pI1 (q : Option pO) : Prop := ∀ z, q = some z → ∃ x, z = .inl x
theorem pI1_n : pI1 none := fun _ h => by cases h
theorem pI1_x {Y : pY} {G : pG} {pc : Nat} {l st : List pV} : pI1 (pnx Y G pc l st) := fun z h => ⟨_, pnx_s h⟩
theorem pI1_if {c : Prop} [Decidable c] {a b : Option pO} (h1 : pI1 a) (h2 : pI1 b) : pI1 (if c then a else b) := by split <;> assumption
theorem pI1_bif {c : Bool} {a b : Option pO} (h1 : pI1 a) (h2 : pI1 b) : pI1 (bif c then a else b) := by cases c <;> assumption
theorem pI1_op {β : Type} {q : Option β} {k : β → Option pO} (h : ∀ b, pI1 (k b)) : pI1 (k_op q none k) := by cases q <;> first | exact pI1_n | exact h _
theorem pI1_i {stk : List pV} {k : Int → List pV → Option pO} (h : ∀ a0 st, pI1 (k a0 st)) : pI1 (k_i stk none k) := by
  unfold k_i; split
  · exact h _ _
  · exact pI1_n
theorem pI1_l {stk : List pV} {k : Int → List pV → Option pO} (h : ∀ a0 st, pI1 (k a0 st)) : pI1 (k_l stk none k) := by
  unfold k_l; split
  · exact h _ _
  · exact pI1_n
theorem pI1_r {stk : List pV} {k : Nat → List pV → Option pO} (h : ∀ a0 st, pI1 (k a0 st)) : pI1 (k_r stk none k) := by
  unfold k_r; split
  · exact h _ _
  · exact pI1_n
theorem pI1_ii {stk : List pV} {k : Int → Int → List pV → Option pO} (h : ∀ a0 a1 st, pI1 (k a0 a1 st)) : pI1 (k_ii stk none k) := by
  unfold k_ii; split
  · exact h _ _ _
  · exact pI1_n
theorem pI1_ll {stk : List pV} {k : Int → Int → List pV → Option pO} (h : ∀ a0 a1 st, pI1 (k a0 a1 st)) : pI1 (k_ll stk none k) := by
  unfold k_ll; split
  · exact h _ _ _
  · exact pI1_n
theorem pI1_li {stk : List pV} {k : Int → Int → List pV → Option pO} (h : ∀ a0 a1 st, pI1 (k a0 a1 st)) : pI1 (k_li stk none k) := by
  unfold k_li; split
  · exact h _ _ _
  · exact pI1_n
theorem pI1_ri {stk : List pV} {k : Nat → Int → List pV → Option pO} (h : ∀ a0 a1 st, pI1 (k a0 a1 st)) : pI1 (k_ri stk none k) := by
  unfold k_ri; split
  · exact h _ _ _
  · exact pI1_n
theorem pI1_rl {stk : List pV} {k : Nat → Int → List pV → Option pO} (h : ∀ a0 a1 st, pI1 (k a0 a1 st)) : pI1 (k_rl stk none k) := by
  unfold k_rl; split
  · exact h _ _ _
  · exact pI1_n
theorem pI1_rr {stk : List pV} {k : Nat → Nat → List pV → Option pO} (h : ∀ a0 a1 st, pI1 (k a0 a1 st)) : pI1 (k_rr stk none k) := by
  unfold k_rr; split
  · exact h _ _ _
  · exact pI1_n
theorem pI1_rii {stk : List pV} {k : Nat → Int → Int → List pV → Option pO} (h : ∀ a0 a1 a2 st, pI1 (k a0 a1 a2 st)) : pI1 (k_rii stk none k) := by
  unfold k_rii; split
  · exact h _ _ _ _
  · exact pI1_n
theorem pI1_ril {stk : List pV} {k : Nat → Int → Int → List pV → Option pO} (h : ∀ a0 a1 a2 st, pI1 (k a0 a1 a2 st)) : pI1 (k_ril stk none k) := by
  unfold k_ril; split
  · exact h _ _ _ _
  · exact pI1_n
theorem pI1_cp {stk : List pV} {k : Nat → Int → Nat → Int → Int → List pV → Option pO} (h : ∀ a0 a1 a2 a3 a4 st, pI1 (k a0 a1 a2 a3 a4 st)) : pI1 (k_cp stk none k) := by
  unfold k_cp; split
  · exact h _ _ _ _ _ _
  · exact pI1_n
theorem pI1_d {stk : List pV} {k : pV → List pV → Option pO} (h : ∀ v st, pI1 (k v st)) : pI1 (k_d stk none k) := by
  unfold k_d k_c1; split
  · split
    · exact pI1_n
    · exact h _ _
  · exact pI1_n
theorem pI1_d2 {stk : List pV} {k : pV → pV → List pV → Option pO} (h : ∀ v w st, pI1 (k v w st)) : pI1 (k_d2 stk none k) := by
  unfold k_d2 k_c1; split
  · split
    · exact pI1_n
    · split
      · exact pI1_n
      · exact h _ _ _
  · exact pI1_n
theorem pI1_oi {q : Option pV} {k : Int → Option pO} (h : ∀ x, pI1 (k x)) : pI1 (k_oi q none k) := by
  unfold k_oi; split
  · exact h _
  · exact pI1_n
theorem pI1_ol {q : Option pV} {k : Int → Option pO} (h : ∀ x, pI1 (k x)) : pI1 (k_ol q none k) := by
  unfold k_ol; split
  · exact h _
  · exact pI1_n
theorem pI1_or {q : Option pV} {k : Nat → Option pO} (h : ∀ x, pI1 (k x)) : pI1 (k_or q none k) := by
  unfold k_or; split
  · exact h _
  · exact pI1_n
set_option maxHeartbeats 4000000 in
set_option maxRecDepth 20000 in
theorem pI1_step {Y : pY} {G : pG} {e : pE} {pc : Nat} {l stk : List pV} (hg : pgo e.1 = true) : pI1 (pstep Y G e pc l stk) := by
  obtain ⟨o, len, a, b, c⟩ := e
  cases o
  case iconst x => exact pI1_x
  case ldc2_w x => exact pI1_x
  case ldc x => exact pI1_x
  case goto x => exact pI1_x
  case iload i => exact pI1_oi (fun _ => pI1_x)
  case lload i => exact pI1_ol (fun _ => pI1_x)
  case aload i => exact pI1_or (fun _ => pI1_x)
  case istore i => exact pI1_i (fun _ _ => pI1_bif (pI1_x) pI1_n)
  case lstore i => exact pI1_l (fun _ _ => pI1_bif (pI1_x) pI1_n)
  case astore i => exact pI1_r (fun _ _ => pI1_bif (pI1_x) pI1_n)
  case iinc i k => exact pI1_oi (fun _ => pI1_x)
  case iadd => exact pI1_ii (fun _ _ _ => pI1_x)
  case isub => exact pI1_ii (fun _ _ _ => pI1_x)
  case imul => exact pI1_ii (fun _ _ _ => pI1_x)
  case iand => exact pI1_ii (fun _ _ _ => pI1_x)
  case ior => exact pI1_ii (fun _ _ _ => pI1_x)
  case ixor => exact pI1_ii (fun _ _ _ => pI1_x)
  case ishl => exact pI1_ii (fun _ _ _ => pI1_x)
  case ishr => exact pI1_ii (fun _ _ _ => pI1_x)
  case iushr => exact pI1_ii (fun _ _ _ => pI1_x)
  case ladd => exact pI1_ll (fun _ _ _ => pI1_x)
  case lsub => exact pI1_ll (fun _ _ _ => pI1_x)
  case lmul => exact pI1_ll (fun _ _ _ => pI1_x)
  case land => exact pI1_ll (fun _ _ _ => pI1_x)
  case lor => exact pI1_ll (fun _ _ _ => pI1_x)
  case lcmp => exact pI1_ll (fun _ _ _ => pI1_x)
  case lshl => exact pI1_li (fun _ _ _ => pI1_x)
  case lshr => exact pI1_li (fun _ _ _ => pI1_x)
  case idiv => exact pI1_ii (fun _ _ _ => pI1_if pI1_n pI1_x)
  case irem => exact pI1_ii (fun _ _ _ => pI1_if pI1_n pI1_x)
  case ldiv => exact pI1_ll (fun _ _ _ => pI1_if pI1_n pI1_x)
  case lrem => exact pI1_ll (fun _ _ _ => pI1_if pI1_n pI1_x)
  case ineg => exact pI1_i (fun _ _ => pI1_x)
  case i2l => exact pI1_i (fun _ _ => pI1_x)
  case i2b => exact pI1_i (fun _ _ => pI1_x)
  case lneg => exact pI1_l (fun _ _ => pI1_x)
  case l2i => exact pI1_l (fun _ _ => pI1_x)
  case dup => exact pI1_d (fun _ _ => pI1_x)
  case dup2 => exact pI1_d2 (fun _ _ _ => pI1_x)
  case ifCond cn off => exact pI1_i (fun _ _ => pI1_bif (pI1_x) pI1_x)
  case if_icmp cn off => exact pI1_ii (fun _ _ _ => pI1_bif (pI1_x) pI1_x)
  case tableswitch dflt lo hi offs => exact pI1_i (fun _ _ => pI1_if pI1_x (pI1_op (fun _ => pI1_x)))
  case lookupswitch dflt ps => exact pI1_i (fun _ _ => pI1_x)
  case getfield i => exact pI1_r (fun _ _ => pI1_bif (by
    split
    · exact pI1_x
    · exact pI1_op (fun _ => pI1_x)
    · exact pI1_x) pI1_n)
  case putfield i =>
    unfold pstep
    dsimp only
    split
    · exact pI1_ri (fun _ _ _ => pI1_bif (pI1_x) pI1_n)
    · exact pI1_rl (fun _ _ _ => pI1_bif (pI1_x) pI1_n)
    · exact pI1_ri (fun _ _ _ => pI1_bif (pI1_if (pI1_x) pI1_n) pI1_n)
    · exact pI1_rr (fun _ _ _ => pI1_bif (pI1_x) pI1_n)
  case iaload => exact pI1_ri (fun _ _ _ => pI1_bif (pI1_if pI1_x pI1_n) pI1_n)
  case laload => exact pI1_ri (fun _ _ _ => pI1_bif (pI1_if pI1_x pI1_n) pI1_n)
  case baload => exact pI1_ri (fun _ _ _ => pI1_bif (pI1_if pI1_x pI1_n) pI1_n)
  case faload => exact pI1_ri (fun _ _ _ => pI1_bif (pI1_if pI1_x pI1_n) pI1_n)
  case fastore => exact pI1_r (fun _ _ => pI1_bif (pI1_x) pI1_n)
  case aaload => exact pI1_ri (fun _ _ _ => pI1_bif (pI1_if (pI1_op (fun _ => pI1_x)) pI1_n) pI1_n)
  case iastore => exact pI1_rii (fun _ _ _ _ => pI1_bif (pI1_if (pI1_x) pI1_n) pI1_n)
  case bastore => exact pI1_rii (fun _ _ _ _ => pI1_bif (pI1_if (pI1_x) pI1_n) pI1_n)
  case lastore => exact pI1_ril (fun _ _ _ _ => pI1_bif (pI1_if (pI1_x) pI1_n) pI1_n)
  case arraylength => exact pI1_r (fun _ _ => pI1_bif (pI1_x) pI1_n)
  case invokestatic rc => cases hg
  case pop => exact pI1_r (fun _ _ => pI1_bif (pI1_x) pI1_n)
  case f2d => exact pI1_ii (fun _ _ _ => pI1_bif (pI1_x) pI1_n)
  case f2i => exact pI1_ii (fun _ _ _ => pI1_bif (pI1_x) pI1_n)
  case d2i => exact pI1_ll (fun _ _ _ => pI1_bif (pI1_x) pI1_n)
  case f2l => exact pI1_i (fun _ _ => pI1_bif (pI1_x) pI1_n)
  case d2f => exact pI1_l (fun _ _ => pI1_bif (pI1_x) pI1_n)
  case d2l => exact pI1_cp (fun _ _ _ _ _ _ => pI1_bif (pI1_bif (pI1_if (pI1_x) pI1_n) pI1_n) pI1_n)
  case daload => exact pI1_r (fun _ _ => pI1_bif (pI1_op (fun _ => pI1_x)) pI1_n)
  case dastore => exact pI1_ri (fun _ _ _ => pI1_bif (pI1_op (fun _ => pI1_if (pI1_op (fun _ => pI1_x)) pI1_n)) pI1_n)
  case new x => exact pI1_bif (pI1_x) pI1_n
  case newarray t => exact pI1_i (fun _ _ => pI1_if pI1_x pI1_n)
  case multianewarray i n => exact pI1_ii (fun _ _ _ => pI1_if pI1_x pI1_n)
  case ireturn => cases hg
  case lreturn => cases hg
  case return_ => cases hg
  all_goals exact pI1_n

set_option maxHeartbeats 2000000 in
theorem ptr_cls {K rt pc len : Nat} {r : Instr} {e0 : pE} (h : ptr K rt pc r len = some e0) : (r = .ireturn ∧ len = 1 ∧ e0 = (.ireturn, 1, 0, 0, bif Nat.beq rt 3 then 3 else 0)) ∨ (r = .lreturn ∧ len = 1 ∧ e0 = (.lreturn, 1, 0, 0, 0)) ∨ (r = .return_ ∧ len = 1 ∧ e0 = (.return_, 1, 0, 0, 0)) ∨ (∃ way i M, ((way = 0 ∧ r = .invokevirtual i) ∨ (way = 1 ∧ r = .invokestatic i) ∨ (way = 2 ∧ r = .invokespecial i)) ∧ len = 3 ∧ (lkf lkM K i = some M ∨ lkf lkN K i = some M) ∧ pcalM way M = some e0) ∨ pgo e0.1 = true := by
  obtain ⟨hl, hp⟩ := ptr_l h
  cases r
  case iconst n =>
    obtain ⟨-, hp⟩ := bif_s hp
    cases hp
    refine Or.inr (Or.inr (Or.inr (Or.inr ?_)))
    rfl
  case bipush n =>
    obtain ⟨-, hp⟩ := bif_s hp
    cases hp
    refine Or.inr (Or.inr (Or.inr (Or.inr ?_)))
    rfl
  case sipush n =>
    obtain ⟨-, hp⟩ := bif_s hp
    cases hp
    refine Or.inr (Or.inr (Or.inr (Or.inr ?_)))
    rfl
  case ldc2_w n =>
    obtain ⟨_, -, hp⟩ := k_op_s hp
    cases hp
    refine Or.inr (Or.inr (Or.inr (Or.inr ?_)))
    rfl
  case ldc n =>
    obtain ⟨_, -, hp⟩ := k_op_s hp
    cases hp
    refine Or.inr (Or.inr (Or.inr (Or.inr ?_)))
    rfl
  case getfield n =>
    obtain ⟨_, -, hp⟩ := k_op_s hp
    cases hp
    refine Or.inr (Or.inr (Or.inr (Or.inr ?_)))
    rfl
  case putfield n =>
    obtain ⟨_, -, hp⟩ := k_op_s hp
    cases hp
    refine Or.inr (Or.inr (Or.inr (Or.inr ?_)))
    rfl
  case new n =>
    obtain ⟨_, -, hp⟩ := k_op_s hp
    cases hp
    refine Or.inr (Or.inr (Or.inr (Or.inr ?_)))
    rfl
  case goto off =>
    have hp : ptgt pc off (fun t => some (.goto 0, len, t, 0, 0)) = some e0 := hp
    obtain ⟨_, -, hp⟩ := ptgt_s hp
    cases hp
    refine Or.inr (Or.inr (Or.inr (Or.inr ?_)))
    rfl
  case ifCond cn off =>
    have hp : ptgt pc off (fun t => some (.ifCond cn 0, len, t, 0, 0)) = some e0 := hp
    obtain ⟨_, -, hp⟩ := ptgt_s hp
    cases hp
    refine Or.inr (Or.inr (Or.inr (Or.inr ?_)))
    rfl
  case if_icmp cn off =>
    have hp : ptgt pc off (fun t => some (.if_icmp cn 0, len, t, 0, 0)) = some e0 := hp
    obtain ⟨_, -, hp⟩ := ptgt_s hp
    cases hp
    refine Or.inr (Or.inr (Or.inr (Or.inr ?_)))
    rfl
  case tableswitch a b c d =>
    obtain ⟨-, hp⟩ := bif_s hp
    cases hp
    refine Or.inr (Or.inr (Or.inr (Or.inr ?_)))
    rfl
  case lookupswitch a b =>
    obtain ⟨-, hp⟩ := bif_s hp
    cases hp
    refine Or.inr (Or.inr (Or.inr (Or.inr ?_)))
    rfl
  case iaload =>
    have hp : some ((bif Nat.beq K 13 then Instr.faload else Instr.iaload), len, 0, 0, (0 : Int)) = some e0 := hp
    refine Or.inr (Or.inr (Or.inr (Or.inr ?_)))
    cases hK : Nat.beq K 13 with
    | true => rw [hK] at hp; cases hp; rfl
    | false => rw [hK] at hp; cases hp; rfl
  case arraylength =>
    have hp : some ((bif Nat.beq K 13 then Instr.fastore else Instr.arraylength), len, 0, 0, (0 : Int)) = some e0 := hp
    refine Or.inr (Or.inr (Or.inr (Or.inr ?_)))
    cases hK : Nat.beq K 13 with
    | true => rw [hK] at hp; cases hp; rfl
    | false => rw [hK] at hp; cases hp; rfl
  case newarray t =>
    cases t
    all_goals first | (cases hp; done) | (cases hp; exact Or.inr (Or.inr (Or.inr (Or.inr rfl))))
  case multianewarray a b =>
    obtain ⟨-, hp⟩ := bif_s hp
    obtain ⟨_, -, hp⟩ := k_op_s hp
    cases hp
    refine Or.inr (Or.inr (Or.inr (Or.inr ?_)))
    rfl
  case invokevirtual i =>
    have hp : pcal K 0 i = some e0 := hp
    rcases pcal_s hp with ⟨M, h1, h2⟩ | ⟨J, hJ, hE⟩
    · exact Or.inr (Or.inr (Or.inr (Or.inl ⟨0, i, M, Or.inl ⟨rfl, rfl⟩, hl, h1, h2⟩)))
    · have hJ9 : J < 9 := pn_lt hE
      have h9 : J = 0 ∨ J = 1 ∨ J = 2 ∨ J = 3 ∨ J = 4 ∨ J = 5 ∨ J = 6 ∨ J = 7 ∨ J = 8 := by omega
      rcases h9 with rfl | rfl | rfl | rfl | rfl | rfl | rfl | rfl | rfl <;> first | (cases hE; done) | (cases hE; exact Or.inr (Or.inr (Or.inr (Or.inr rfl))))
  case invokestatic i =>
    have hp : pcal K 1 i = some e0 := hp
    rcases pcal_s hp with ⟨M, h1, h2⟩ | ⟨J, hJ, hE⟩
    · exact Or.inr (Or.inr (Or.inr (Or.inl ⟨1, i, M, Or.inr (Or.inl ⟨rfl, rfl⟩), hl, h1, h2⟩)))
    · have hJ9 : J < 9 := pn_lt hE
      have h9 : J = 0 ∨ J = 1 ∨ J = 2 ∨ J = 3 ∨ J = 4 ∨ J = 5 ∨ J = 6 ∨ J = 7 ∨ J = 8 := by omega
      rcases h9 with rfl | rfl | rfl | rfl | rfl | rfl | rfl | rfl | rfl <;> first | (cases hE; done) | (cases hE; exact Or.inr (Or.inr (Or.inr (Or.inr rfl))))
  case invokespecial i =>
    have hp : pcal K 2 i = some e0 := hp
    rcases pcal_s hp with ⟨M, h1, h2⟩ | ⟨J, hJ, hE⟩
    · exact Or.inr (Or.inr (Or.inr (Or.inl ⟨2, i, M, Or.inr (Or.inr ⟨rfl, rfl⟩), hl, h1, h2⟩)))
    · have hJ9 : J < 9 := pn_lt hE
      have h9 : J = 0 ∨ J = 1 ∨ J = 2 ∨ J = 3 ∨ J = 4 ∨ J = 5 ∨ J = 6 ∨ J = 7 ∨ J = 8 := by omega
      rcases h9 with rfl | rfl | rfl | rfl | rfl | rfl | rfl | rfl | rfl <;> first | (cases hE; done) | (cases hE; exact Or.inr (Or.inr (Or.inr (Or.inr rfl))))
  case ireturn =>
    have hl : len = 1 := hl
    subst hl
    cases hp
    exact Or.inl ⟨rfl, rfl, rfl⟩
  case lreturn =>
    have hl : len = 1 := hl
    subst hl
    cases hp
    exact Or.inr (Or.inl ⟨rfl, rfl, rfl⟩)
  case return_ =>
    have hl : len = 1 := hl
    subst hl
    cases hp
    exact Or.inr (Or.inr (Or.inl ⟨rfl, rfl, rfl⟩))
  all_goals first | (cases hp; exact Or.inr (Or.inr (Or.inr (Or.inr rfl)))) | (cases hp; done)

theorem pexec_hi : ∀ (f d M pc : Nat) (loc stk : List pV) (Y : pY) (G : pG) (r : Option pV) (Y' : pY) (G' : pG), pexec pMT f d M pc loc stk Y G = some (r, Y', G') → pHi Y G Y' G' := by
  intro f
  induction f with
  | zero => intro d M pc loc stk Y G r Y' G' h; exact absurd h (by simp [pexec])
  | succ f ih =>
    intro d M pc loc stk Y G r Y' G' h
    rw [pexec] at h
    cases hM : pMT M with
    | none => rw [hM] at h; exact absurd h (by simp)
    | some mi =>
      rw [hM] at h
      dsimp only at h
      cases hl : plook mi.1 pc with
      | none => rw [hl] at h; exact absurd h (by simp)
      | some e0 =>
        rw [hl] at h
        dsimp only at h
        have hb : ∀ i, e0.1 = .getfield i ∨ e0.1 = .putfield i → e0.2.2.2.1 ≠ 999 := by
          intro i hi
          have h1 := ptok_at (pMT_ok hM).2.2.2 hl
          obtain ⟨q, len, a, b, c⟩ := e0
          rcases hi with hi | hi
          · have hi : q = .getfield i := hi
            subst hi
            have h2 := Nat.le_of_ble_eq_true h1
            show b ≠ 999
            omega
          · have hi : q = .putfield i := hi
            subst hi
            have h1 : (Nat.ble b 12 && (!(c == 2) || (pini M && Nat.beq b (pKo M)))) = true := h1
            rw [Bool.and_eq_true] at h1
            have h2 := Nat.le_of_ble_eq_true h1.1
            show b ≠ 999
            omega
        have hH := pH_step (Y := Y) (G := G) (pc := pc) (l := loc) (stk := stk) hb
        rcases hs : pstep Y G e0 pc loc stk with _ | (⟨pc1, loc1, stk1, Y1, G1⟩ | ⟨m1, as, st⟩ | r1)
        · rw [hs] at h; exact absurd h (by simp)
        · rw [hs] at h
          exact (hH _ _ _ _ _ hs).tr (ih _ _ _ _ _ _ _ _ _ _ h)
        · rw [hs] at h
          dsimp only at h
          cases d with
          | zero => exact absurd h (by simp)
          | succ d1 =>
            dsimp only at h
            cases hm : pMT m1 with
            | none => rw [hm] at h; exact absurd h (by simp)
            | some mc =>
              rw [hm] at h
              dsimp only at h
              obtain ⟨-, h⟩ := bif_s h
              cases hc : pexec pMT f d1 m1 0 (pent as mc.2.1) [] Y G with
              | none => rw [hc] at h; exact absurd h (by simp)
              | some q =>
                obtain ⟨r2, Y2, G2⟩ := q
                rw [hc] at h
                exact (ih _ _ _ _ _ _ _ _ _ _ hc).tr (ih _ _ _ _ _ _ _ _ _ _ h)
        · rw [hs] at h
          cases h
          exact pHi.rf _ _

