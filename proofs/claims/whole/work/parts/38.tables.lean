/-- what lies behind the cells that are made stays -/
def pYk (Y : pY) : Prop := Y.1.1 ≤ 498 ∧ ∀ i, Y.1.1 ≤ i → (Y.2.1 i).1 = 999
def pHi (Y : pY) (G : pG) (Y' : pY) (G' : pG) : Prop := Y.1.1 ≤ Y'.1.1 ∧ Y.1.2 ≤ Y'.1.2 ∧ (pYk Y → pYk Y' ∧ ∀ i, 498 ≤ i → G' i = G i)
theorem pHi.rf (Y : pY) (G : pG) : pHi Y G Y G := ⟨Nat.le_refl _, Nat.le_refl _, fun h => ⟨h, fun _ _ => rfl⟩⟩
theorem pHi.tr {Y Y1 Y2 : pY} {G G1 G2 : pG} (h : pHi Y G Y1 G1) (h2 : pHi Y1 G1 Y2 G2) : pHi Y G Y2 G2 := ⟨Nat.le_trans h.1 h2.1, Nat.le_trans h.2.1 h2.2.1, fun hk => by
  obtain ⟨a, b⟩ := h.2.2 hk
  obtain ⟨c, d⟩ := h2.2.2 a
  exact ⟨c, fun i hi => (d i hi).trans (b i hi)⟩⟩
def pH (Y : pY) (G : pG) (o : Option pO) : Prop := ∀ pc l st Y' G', o = some (.inl (pc, l, st, Y', G')) → pHi Y G Y' G'
theorem pH_n {Y : pY} {G : pG} : pH Y G none := fun _ _ _ _ _ h => by cases h
theorem pH_s {Y : pY} {G : pG} {x : (Nat × List pV × List pV) ⊕ Option pV} : pH Y G (some (.inr x)) := fun _ _ _ _ _ h => by cases h
theorem pH_y {Y Y1 : pY} {G G1 : pG} {pc : Nat} {l st : List pV} (h : pHi Y G Y1 G1) : pH Y G (pnx Y1 G1 pc l st) := fun _ _ _ _ _ e => by cases pnx_s e; exact h
theorem pH_x {Y : pY} {G : pG} {pc : Nat} {l st : List pV} : pH Y G (pnx Y G pc l st) := pH_y (pHi.rf Y G)
theorem pH_if {Y : pY} {G : pG} {c : Prop} [Decidable c] {a b : Option pO} (h1 : c → pH Y G a) (h2 : pH Y G b) : pH Y G (if c then a else b) := by
  split
  · exact h1 (by assumption)
  · exact h2
theorem pH_ifn {Y : pY} {G : pG} {c : Prop} [Decidable c] {a b : Option pO} (h1 : pH Y G a) (h2 : pH Y G b) : pH Y G (if c then a else b) := by split <;> assumption
theorem pH_bif {Y : pY} {G : pG} {c : Bool} {a b : Option pO} (h1 : c = true → pH Y G a) (h2 : pH Y G b) : pH Y G (bif c then a else b) := by
  cases c
  · exact h2
  · exact h1 rfl
theorem pH_op {Y : pY} {G : pG} {β : Type} {o : Option β} {k : β → Option pO} (h : ∀ b, pH Y G (k b)) : pH Y G (k_op o none k) := by cases o <;> first | exact pH_n | exact h _
theorem pHi_set {Y : pY} {G : pG} {r k : Nat} {v : Int} (h : (Y.2.1 r).1 ≠ 999) : pHi Y G Y (pset G r k v) := ⟨Nat.le_refl _, Nat.le_refl _, fun hk => ⟨hk, fun i hi => by
  rw [pset_o]
  intro e
  exact h (hk.2 r (by have := hk.1; omega))⟩⟩
theorem pHi_cpy {Y : pY} {G : pG} {a0 sp a dp n : Nat} (h : (Y.2.1 a).1 ≠ 999) : pHi Y G Y (pcpy G a0 sp a dp n) := ⟨Nat.le_refl _, Nat.le_refl _, fun hk => ⟨hk, fun i hi => by
  rw [pcpy_o]
  intro e
  exact h (hk.2 a (by have := hk.1; omega))⟩⟩
theorem pHi_rf {Y : pY} {G : pG} {r k q : Nat} : pHi Y G (prf Y r k q) G := ⟨Nat.le_refl _, Nat.le_refl _, fun hk => ⟨hk, fun _ _ => rfl⟩⟩
theorem pHi_nw {Y : pY} {G : pG} {kind : Nat} {len : Int} (h : Y.1.1 ≤ 497) : pHi Y G (pnw Y kind len) (pz G Y.1.1) := ⟨Nat.le_succ _, Nat.le_add_right _ _, fun hk => ⟨⟨by show Y.1.1 + 1 ≤ 498; omega, fun i hi => by
  have hi : Y.1.1 + 1 ≤ i := hi
  show (if i = Y.1.1 then (kind, len) else Y.2.1 i).1 = 999
  rw [if_neg (by omega)]
  exact hk.2 i (by omega)⟩, fun i hi => by
  show (if i = Y.1.1 then _ else _) = _
  rw [if_neg (by omega)]⟩⟩
theorem pHi_nw2 {Y : pY} {G : pG} {N Kk : Nat} (h : Y.1.1 + N ≤ 497) : pHi Y G (pmn2 Y N Kk) (pz2 G Y.1.1 N) := ⟨by show Y.1.1 ≤ Y.1.1 + 1 + N; omega, by show Y.1.2 ≤ Y.1.2 + N + N * Kk; omega, fun hk => ⟨⟨by show Y.1.1 + 1 + N ≤ 498; omega, fun i hi => by
  have hi : Y.1.1 + 1 + N ≤ i := hi
  show (if i < Y.1.1 then Y.2.1 i else if i = Y.1.1 then (103, (N : Int)) else if i < Y.1.1 + 1 + N then (100, (Kk : Int)) else Y.2.1 i).1 = 999
  rw [if_neg (by omega), if_neg (by omega), if_neg (by omega)]
  exact hk.2 i (by omega)⟩, fun i hi => by
  show (if Y.1.1 ≤ i ∧ i < Y.1.1 + 1 + N then _ else _) = _
  rw [if_neg (by omega)]⟩⟩

theorem pH_i {Y : pY} {G : pG} {stk : List pV} {k : Int → List pV → Option pO} (h : ∀ a0 st, pH Y G (k a0 st)) : pH Y G (k_i stk none k) := by
  unfold k_i; split
  · exact h _ _
  · exact pH_n
theorem pH_l {Y : pY} {G : pG} {stk : List pV} {k : Int → List pV → Option pO} (h : ∀ a0 st, pH Y G (k a0 st)) : pH Y G (k_l stk none k) := by
  unfold k_l; split
  · exact h _ _
  · exact pH_n
theorem pH_r {Y : pY} {G : pG} {stk : List pV} {k : Nat → List pV → Option pO} (h : ∀ a0 st, pH Y G (k a0 st)) : pH Y G (k_r stk none k) := by
  unfold k_r; split
  · exact h _ _
  · exact pH_n
theorem pH_ii {Y : pY} {G : pG} {stk : List pV} {k : Int → Int → List pV → Option pO} (h : ∀ a0 a1 st, pH Y G (k a0 a1 st)) : pH Y G (k_ii stk none k) := by
  unfold k_ii; split
  · exact h _ _ _
  · exact pH_n
theorem pH_ll {Y : pY} {G : pG} {stk : List pV} {k : Int → Int → List pV → Option pO} (h : ∀ a0 a1 st, pH Y G (k a0 a1 st)) : pH Y G (k_ll stk none k) := by
  unfold k_ll; split
  · exact h _ _ _
  · exact pH_n
theorem pH_li {Y : pY} {G : pG} {stk : List pV} {k : Int → Int → List pV → Option pO} (h : ∀ a0 a1 st, pH Y G (k a0 a1 st)) : pH Y G (k_li stk none k) := by
  unfold k_li; split
  · exact h _ _ _
  · exact pH_n
theorem pH_ri {Y : pY} {G : pG} {stk : List pV} {k : Nat → Int → List pV → Option pO} (h : ∀ a0 a1 st, pH Y G (k a0 a1 st)) : pH Y G (k_ri stk none k) := by
  unfold k_ri; split
  · exact h _ _ _
  · exact pH_n
theorem pH_rl {Y : pY} {G : pG} {stk : List pV} {k : Nat → Int → List pV → Option pO} (h : ∀ a0 a1 st, pH Y G (k a0 a1 st)) : pH Y G (k_rl stk none k) := by
  unfold k_rl; split
  · exact h _ _ _
  · exact pH_n
theorem pH_rr {Y : pY} {G : pG} {stk : List pV} {k : Nat → Nat → List pV → Option pO} (h : ∀ a0 a1 st, pH Y G (k a0 a1 st)) : pH Y G (k_rr stk none k) := by
  unfold k_rr; split
  · exact h _ _ _
  · exact pH_n
theorem pH_rii {Y : pY} {G : pG} {stk : List pV} {k : Nat → Int → Int → List pV → Option pO} (h : ∀ a0 a1 a2 st, pH Y G (k a0 a1 a2 st)) : pH Y G (k_rii stk none k) := by
  unfold k_rii; split
  · exact h _ _ _ _
  · exact pH_n
theorem pH_ril {Y : pY} {G : pG} {stk : List pV} {k : Nat → Int → Int → List pV → Option pO} (h : ∀ a0 a1 a2 st, pH Y G (k a0 a1 a2 st)) : pH Y G (k_ril stk none k) := by
  unfold k_ril; split
  · exact h _ _ _ _
  · exact pH_n
theorem pH_cp {Y : pY} {G : pG} {stk : List pV} {k : Nat → Int → Nat → Int → Int → List pV → Option pO} (h : ∀ a0 a1 a2 a3 a4 st, pH Y G (k a0 a1 a2 a3 a4 st)) : pH Y G (k_cp stk none k) := by
  unfold k_cp; split
  · exact h _ _ _ _ _ _
  · exact pH_n
theorem pH_d {Y : pY} {G : pG} {stk : List pV} {k : pV → List pV → Option pO} (h : ∀ v st, pH Y G (k v st)) : pH Y G (k_d stk none k) := by
  unfold k_d k_c1; split
  · split
    · exact pH_n
    · exact h _ _
  · exact pH_n
theorem pH_d2 {Y : pY} {G : pG} {stk : List pV} {k : pV → pV → List pV → Option pO} (h : ∀ v w st, pH Y G (k v w st)) : pH Y G (k_d2 stk none k) := by
  unfold k_d2 k_c1; split
  · split
    · exact pH_n
    · split
      · exact pH_n
      · exact h _ _ _
  · exact pH_n
theorem pH_oi {Y : pY} {G : pG} {q : Option pV} {k : Int → Option pO} (h : ∀ x, pH Y G (k x)) : pH Y G (k_oi q none k) := by
  unfold k_oi; split
  · exact h _
  · exact pH_n
theorem pH_ol {Y : pY} {G : pG} {q : Option pV} {k : Int → Option pO} (h : ∀ x, pH Y G (k x)) : pH Y G (k_ol q none k) := by
  unfold k_ol; split
  · exact h _
  · exact pH_n
theorem pH_or {Y : pY} {G : pG} {q : Option pV} {k : Nat → Option pO} (h : ∀ x, pH Y G (k x)) : pH Y G (k_or q none k) := by
  unfold k_or; split
  · exact h _
  · exact pH_n
set_option maxHeartbeats 4000000 in
set_option maxRecDepth 20000 in
theorem pH_step {Y : pY} {G : pG} {e : pE} {pc : Nat} {l stk : List pV} (hb : ∀ i, e.1 = .getfield i ∨ e.1 = .putfield i → e.2.2.2.1 ≠ 999) : pH Y G (pstep Y G e pc l stk) := by
  obtain ⟨o, len, a, b, c⟩ := e
  cases o
  case iconst x => exact pH_x
  case ldc2_w x => exact pH_x
  case ldc x => exact pH_x
  case goto x => exact pH_x
  case iload i => exact pH_oi (fun _ => pH_x)
  case lload i => exact pH_ol (fun _ => pH_x)
  case aload i => exact pH_or (fun _ => pH_x)
  case istore i => exact pH_i (fun _ _ => pH_bif (fun _ => pH_x) pH_n)
  case lstore i => exact pH_l (fun _ _ => pH_bif (fun _ => pH_x) pH_n)
  case astore i => exact pH_r (fun _ _ => pH_bif (fun _ => pH_x) pH_n)
  case iinc i k => exact pH_oi (fun _ => pH_x)
  case iadd => exact pH_ii (fun _ _ _ => pH_x)
  case isub => exact pH_ii (fun _ _ _ => pH_x)
  case imul => exact pH_ii (fun _ _ _ => pH_x)
  case iand => exact pH_ii (fun _ _ _ => pH_x)
  case ior => exact pH_ii (fun _ _ _ => pH_x)
  case ixor => exact pH_ii (fun _ _ _ => pH_x)
  case ishl => exact pH_ii (fun _ _ _ => pH_x)
  case ishr => exact pH_ii (fun _ _ _ => pH_x)
  case iushr => exact pH_ii (fun _ _ _ => pH_x)
  case ladd => exact pH_ll (fun _ _ _ => pH_x)
  case lsub => exact pH_ll (fun _ _ _ => pH_x)
  case lmul => exact pH_ll (fun _ _ _ => pH_x)
  case land => exact pH_ll (fun _ _ _ => pH_x)
  case lor => exact pH_ll (fun _ _ _ => pH_x)
  case lcmp => exact pH_ll (fun _ _ _ => pH_x)
  case lshl => exact pH_li (fun _ _ _ => pH_x)
  case lshr => exact pH_li (fun _ _ _ => pH_x)
  case idiv => exact pH_ii (fun _ _ _ => pH_ifn pH_n pH_x)
  case irem => exact pH_ii (fun _ _ _ => pH_ifn pH_n pH_x)
  case ldiv => exact pH_ll (fun _ _ _ => pH_ifn pH_n pH_x)
  case lrem => exact pH_ll (fun _ _ _ => pH_ifn pH_n pH_x)
  case ineg => exact pH_i (fun _ _ => pH_x)
  case i2l => exact pH_i (fun _ _ => pH_x)
  case i2b => exact pH_i (fun _ _ => pH_x)
  case lneg => exact pH_l (fun _ _ => pH_x)
  case l2i => exact pH_l (fun _ _ => pH_x)
  case dup => exact pH_d (fun _ _ => pH_x)
  case dup2 => exact pH_d2 (fun _ _ _ => pH_x)
  case ifCond cn off => exact pH_i (fun _ _ => pH_bif (fun _ => pH_x) pH_x)
  case if_icmp cn off => exact pH_ii (fun _ _ _ => pH_bif (fun _ => pH_x) pH_x)
  case tableswitch dflt lo hi offs => exact pH_i (fun _ _ => pH_ifn pH_x (pH_op (fun _ => pH_x)))
  case lookupswitch dflt ps => exact pH_i (fun _ _ => pH_x)
  case getfield i => exact pH_r (fun _ _ => pH_bif (fun _ => by
    split
    · exact pH_x
    · exact pH_op (fun _ => pH_x)
    · exact pH_x) pH_n)
  case putfield i =>
    have hb9 : b ≠ 999 := hb i (Or.inr rfl)
    unfold pstep
    dsimp only
    split
    · exact pH_ri (fun _ _ _ => pH_bif (fun h => pH_y (pHi_set (by have := beq_e h; omega))) pH_n)
    · exact pH_rl (fun _ _ _ => pH_bif (fun h => pH_y (pHi_set (by have := beq_e h; omega))) pH_n)
    · exact pH_ri (fun _ _ _ => pH_bif (fun h => pH_ifn (pH_y (pHi_set (by have := beq_e h; omega))) pH_n) pH_n)
    · exact pH_rr (fun _ _ _ => pH_bif (fun h => pH_y pHi_rf) pH_n)
  case iaload => exact pH_ri (fun _ _ _ => pH_bif (fun _ => pH_ifn pH_x pH_n) pH_n)
  case laload => exact pH_ri (fun _ _ _ => pH_bif (fun _ => pH_ifn pH_x pH_n) pH_n)
  case baload => exact pH_ri (fun _ _ _ => pH_bif (fun _ => pH_ifn pH_x pH_n) pH_n)
  case faload => exact pH_ri (fun _ _ _ => pH_bif (fun _ => pH_ifn pH_x pH_n) pH_n)
  case fastore => exact pH_r (fun _ _ => pH_bif (fun _ => pH_x) pH_n)
  case aaload => exact pH_ri (fun _ _ _ => pH_bif (fun _ => pH_ifn (pH_op (fun _ => pH_x)) pH_n) pH_n)
  case iastore => exact pH_rii (fun _ _ _ _ => pH_bif (fun h => pH_ifn (pH_y (pHi_set (by have := beq_e h; omega))) pH_n) pH_n)
  case bastore => exact pH_rii (fun _ _ _ _ => pH_bif (fun h => pH_ifn (pH_y (pHi_set (by have := beq_e h; omega))) pH_n) pH_n)
  case lastore => exact pH_ril (fun _ _ _ _ => pH_bif (fun h => pH_ifn (pH_y (pHi_set (by have := beq_e h; omega))) pH_n) pH_n)
  case arraylength => exact pH_r (fun _ _ => pH_bif (fun _ => pH_x) pH_n)
  case invokestatic rc => exact pH_op (fun _ => pH_bif (fun _ => pH_s) pH_n)
  case pop => exact pH_r (fun _ _ => pH_bif (fun _ => pH_x) pH_n)
  case f2d => exact pH_ii (fun _ _ _ => pH_bif (fun _ => pH_x) pH_n)
  case f2i => exact pH_ii (fun _ _ _ => pH_bif (fun _ => pH_x) pH_n)
  case d2i => exact pH_ll (fun _ _ _ => pH_bif (fun _ => pH_x) pH_n)
  case f2l => exact pH_i (fun _ _ => pH_bif (fun _ => pH_x) pH_n)
  case d2f => exact pH_l (fun _ _ => pH_bif (fun _ => pH_x) pH_n)
  case d2l => exact pH_cp (fun _ _ _ _ _ _ => pH_bif (fun _ => pH_bif (fun h => pH_ifn (pH_y (pHi_cpy (by
    simp only [Bool.or_eq_true, Bool.and_eq_true] at h
    rcases h with ⟨-, h⟩ | ⟨-, h⟩ <;> (have := beq_e h; omega)))) pH_n) pH_n) pH_n)
  case daload => exact pH_r (fun _ _ => pH_bif (fun _ => pH_op (fun _ => pH_x)) pH_n)
  case dastore => exact pH_ri (fun _ _ _ => pH_bif (fun _ => pH_op (fun _ => pH_ifn (pH_op (fun _ => pH_x)) pH_n)) pH_n)
  case new x => exact pH_bif (fun h => pH_y (pHi_nw (Nat.le_of_ble_eq_true h))) pH_n
  case newarray t => exact pH_i (fun _ _ => pH_if (fun h => pH_y (pHi_nw h.1)) pH_n)
  case multianewarray i n => exact pH_ii (fun _ _ _ => pH_if (fun h => pH_y (pHi_nw2 (by omega))) pH_n)
  case ireturn =>
    unfold pstep
    dsimp only
    split
    · exact pH_bif (fun _ => pH_ifn pH_s pH_n) pH_s
    · exact pH_n
  case lreturn =>
    unfold pstep
    dsimp only
    split
    · exact pH_s
    · exact pH_n
  case return_ =>
    unfold pstep
    dsimp only
    split
    · exact pH_s
    · exact pH_n
  all_goals exact pH_n

def pall (P : Nat → pM → Prop) : Nat → List pM → Prop
  | _, [] => True
  | n, x :: l => P n x ∧ pall P (n + 1) l
theorem pall_at {P : Nat → pM → Prop} {x : pM} : ∀ {l : List pM} {n j : Nat}, pall P n l → pn l j = some x → P (n + j) x
  | [], _, _, _, h => by cases h
  | _ :: _, _, 0, h, e => by cases e; exact h.1
  | _ :: l, n, j + 1, h, e => by
    have h2 := pall_at (l := l) (n := n + 1) (j := j) h.2 e
    rw [show n + (j + 1) = n + 1 + j by omega]
    exact h2
def palls (P : Nat → pM → Prop) : Nat → List (List pM) → Prop
  | _, [] => True
  | n, x :: l => pall P n x ∧ palls P (n + 16) l
theorem palls_at {P : Nat → pM → Prop} {x : pM} {r : List pM} : ∀ {l : List (List pM)} {n i j : Nat}, palls P n l → pn l i = some r → pn r j = some x → P (n + 16 * i + j) x
  | [], _, _, _, _, h, _ => by cases h
  | _ :: _, _, 0, _, h, e, e2 => by cases e; exact pall_at h.1 e2
  | _ :: l, n, i + 1, j, h, e, e2 => by
    have h2 := palls_at (l := l) (n := n + 16) (i := i) (j := j) h.2 e e2
    rw [show n + 16 * (i + 1) + j = n + 16 + 16 * i + j by omega]
    exact h2
def pKo (M : Nat) : Nat := match pn2 pmwT (M - 1) with
  | some w => w.1
  | none => 0
/-- entries that fit their method: what it answers, what it writes once -/
def pent1 (K rt : Nat) (ini : Bool) (e : Option pE) : Bool := match e with
  | none => true
  | some (o, _, _, b, c) => match o with
    | .ireturn => Nat.beq rt 1 || Nat.beq rt 3
    | .lreturn => Nat.beq rt 2
    | .return_ => Nat.beq rt 0
    | .putfield _ => Nat.ble b 12 && (!(c == 2) || (ini && Nat.beq b K))
    | .getfield _ => Nat.ble b 12
    | _ => true
def ptok (K rt : Nat) (ini : Bool) (t : pT) : Bool := t.all (fun r => r.all (pent1 K rt ini))
def pMok (M : Nat) (mi : pM) : Prop := pchk (pKo M) mi.2.2 (pcd M) 0 mi.1 = true ∧ mi.2.1 = pml M ∧ mi.2.2 = prc (pmr M) ∧ ptok (pKo M) mi.2.2 (pini M) mi.1 = true
theorem pzk1 : ptok 0 0 true t1 = true := by decide +kernel
theorem pzk2 : ptok 0 1 false t2 = true := by decide +kernel
theorem pzk3 : ptok 0 1 false t3 = true := by decide +kernel
theorem pzk4 : ptok 0 1 false t4 = true := by decide +kernel
theorem pzk5 : ptok 0 3 false t5 = true := by decide +kernel
theorem pzk6 : ptok 0 0 false t6 = true := by decide +kernel
theorem pzk7 : ptok 0 0 false t7 = true := by decide +kernel
theorem pzk8 : ptok 0 1 false t8 = true := by decide +kernel
theorem pzk9 : ptok 0 1 false t9 = true := by decide +kernel
theorem pzk10 : ptok 1 0 true t10 = true := by decide +kernel
theorem pzk11 : ptok 1 0 false t11 = true := by decide +kernel
theorem pzk12 : ptok 1 1 false t12 = true := by decide +kernel
theorem pzk13 : ptok 1 1 false t13 = true := by decide +kernel
theorem pzk14 : ptok 1 1 false t14 = true := by decide +kernel
theorem pzk15 : ptok 1 3 false t15 = true := by decide +kernel
theorem pzk16 : ptok 1 3 false t16 = true := by decide +kernel
theorem pzk17 : ptok 1 1 false t17 = true := by decide +kernel
theorem pzk18 : ptok 2 0 true t18 = true := by decide +kernel
theorem pzk19 : ptok 2 0 false t19 = true := by decide +kernel
theorem pzk20 : ptok 2 0 false t20 = true := by decide +kernel
theorem pzk21 : ptok 2 0 false t21 = true := by decide +kernel
theorem pzk22 : ptok 2 1 false t22 = true := by decide +kernel
theorem pzk23 : ptok 2 0 false t23 = true := by decide +kernel
theorem pzk24 : ptok 2 1 false t24 = true := by decide +kernel
theorem pzk25 : ptok 2 1 false t25 = true := by decide +kernel
theorem pzk26 : ptok 2 1 false t26 = true := by decide +kernel
theorem pzk27 : ptok 2 1 false t27 = true := by decide +kernel
theorem pzk28 : ptok 2 1 false t28 = true := by decide +kernel
theorem pzk29 : ptok 2 3 false t29 = true := by decide +kernel
theorem pzk30 : ptok 2 3 false t30 = true := by decide +kernel
theorem pzk31 : ptok 3 0 true t31 = true := by decide +kernel
theorem pzk32 : ptok 3 0 false t32 = true := by decide +kernel
theorem pzk33 : ptok 3 1 false t33 = true := by decide +kernel
theorem pzk34 : ptok 3 1 false t34 = true := by decide +kernel
theorem pzk35 : ptok 3 0 false t35 = true := by decide +kernel
theorem pzk36 : ptok 3 1 false t36 = true := by decide +kernel
theorem pzk37 : ptok 4 0 true t37 = true := by decide +kernel
theorem pzk38 : ptok 4 1 false t38 = true := by decide +kernel
theorem pzk39 : ptok 4 0 false t39 = true := by decide +kernel
theorem pzk40 : ptok 4 0 false t40 = true := by decide +kernel
theorem pzk41 : ptok 4 1 false t41 = true := by decide +kernel
theorem pzk42 : ptok 5 0 true t42 = true := by decide +kernel
theorem pzk43 : ptok 5 0 false t43 = true := by decide +kernel
theorem pzk44 : ptok 5 0 false t44 = true := by decide +kernel
theorem pzk45 : ptok 5 1 false t45 = true := by decide +kernel
theorem pzk46 : ptok 5 1 false t46 = true := by decide +kernel
theorem pzk47 : ptok 5 1 false t47 = true := by decide +kernel
theorem pzk48 : ptok 5 1 false t48 = true := by decide +kernel
theorem pzk49 : ptok 5 1 false t49 = true := by decide +kernel
theorem pzk50 : ptok 5 1 false t50 = true := by decide +kernel
theorem pzk51 : ptok 5 0 false t51 = true := by decide +kernel
theorem pzk52 : ptok 5 1 false t52 = true := by decide +kernel
theorem pzk53 : ptok 5 1 false t53 = true := by decide +kernel
theorem pzk54 : ptok 5 0 false t54 = true := by decide +kernel
theorem pzk55 : ptok 5 3 false t55 = true := by decide +kernel
theorem pzk56 : ptok 6 0 true t56 = true := by decide +kernel
theorem pzk57 : ptok 6 0 false t57 = true := by decide +kernel
theorem pzk58 : ptok 6 0 false t58 = true := by decide +kernel
theorem pzk59 : ptok 6 1 false t59 = true := by decide +kernel
theorem pzk60 : ptok 6 0 false t60 = true := by decide +kernel
theorem pzk61 : ptok 6 0 false t61 = true := by decide +kernel
theorem pzk62 : ptok 6 1 false t62 = true := by decide +kernel
theorem pzk63 : ptok 6 1 false t63 = true := by decide +kernel
theorem pzk64 : ptok 6 1 false t64 = true := by decide +kernel
theorem pzk65 : ptok 6 1 false t65 = true := by decide +kernel
theorem pzk66 : ptok 6 1 false t66 = true := by decide +kernel
theorem pzk67 : ptok 6 1 false t67 = true := by decide +kernel
theorem pzk68 : ptok 7 0 true t68 = true := by decide +kernel
theorem pzk69 : ptok 7 3 false t69 = true := by decide +kernel
theorem pzk70 : ptok 7 3 false t70 = true := by decide +kernel
theorem pzk71 : ptok 7 3 false t71 = true := by decide +kernel
theorem pzk72 : ptok 7 3 false t72 = true := by decide +kernel
theorem pzk73 : ptok 7 3 false t73 = true := by decide +kernel
theorem pzk74 : ptok 7 3 false t74 = true := by decide +kernel
theorem pzk75 : ptok 7 3 false t75 = true := by decide +kernel
theorem pzk76 : ptok 7 3 false t76 = true := by decide +kernel
theorem pzk77 : ptok 7 3 false t77 = true := by decide +kernel
theorem pzk78 : ptok 7 3 false t78 = true := by decide +kernel
theorem pzk79 : ptok 7 3 false t79 = true := by decide +kernel
theorem pzk80 : ptok 7 3 false t80 = true := by decide +kernel
theorem pzk81 : ptok 7 3 false t81 = true := by decide +kernel
theorem pzk82 : ptok 8 0 true t82 = true := by decide +kernel
theorem pzk83 : ptok 8 0 false t83 = true := by decide +kernel
theorem pzk84 : ptok 8 1 false t84 = true := by decide +kernel
theorem pzk85 : ptok 8 1 false t85 = true := by decide +kernel
theorem pzk86 : ptok 8 1 false t86 = true := by decide +kernel
theorem pzk87 : ptok 8 0 false t87 = true := by decide +kernel
theorem pzk88 : ptok 8 3 false t88 = true := by decide +kernel
theorem pzk89 : ptok 8 0 false t89 = true := by decide +kernel
theorem pzk90 : ptok 8 3 false t90 = true := by decide +kernel
theorem pzk91 : ptok 8 1 false t91 = true := by decide +kernel
theorem pzk92 : ptok 8 1 false t92 = true := by decide +kernel
theorem pzk93 : ptok 8 3 false t93 = true := by decide +kernel
theorem pzk94 : ptok 8 1 false t94 = true := by decide +kernel
theorem pzk95 : ptok 8 1 false t95 = true := by decide +kernel
theorem pzk96 : ptok 8 1 false t96 = true := by decide +kernel
theorem pzk97 : ptok 9 0 true t97 = true := by decide +kernel
theorem pzk98 : ptok 9 0 false t98 = true := by decide +kernel
theorem pzk99 : ptok 9 1 false t99 = true := by decide +kernel
theorem pzk100 : ptok 9 0 false t100 = true := by decide +kernel
theorem pzk101 : ptok 9 0 false t101 = true := by decide +kernel
theorem pzk102 : ptok 9 0 false t102 = true := by decide +kernel
theorem pzk103 : ptok 9 0 false t103 = true := by decide +kernel
theorem pzk104 : ptok 9 3 false t104 = true := by decide +kernel
theorem pzk105 : ptok 9 3 false t105 = true := by decide +kernel
theorem pzk106 : ptok 9 3 false t106 = true := by decide +kernel
theorem pzk107 : ptok 10 0 true t107 = true := by decide +kernel
theorem pzk108 : ptok 10 1 false t108 = true := by decide +kernel
theorem pzk109 : ptok 10 1 false t109 = true := by decide +kernel
theorem pzk110 : ptok 10 0 false t110 = true := by decide +kernel
theorem pzk111 : ptok 10 2 false t111 = true := by decide +kernel
theorem pzk112 : ptok 10 1 false t112 = true := by decide +kernel
theorem pzk113 : ptok 10 0 false t113 = true := by decide +kernel
theorem pzk114 : ptok 10 0 false t114 = true := by decide +kernel
theorem pzk115 : ptok 10 0 false t115 = true := by decide +kernel
theorem pzk116 : ptok 10 2 false t116 = true := by decide +kernel
theorem pzk117 : ptok 11 0 true t117 = true := by decide +kernel
theorem pzk118 : ptok 11 3 false t118 = true := by decide +kernel
theorem pzk119 : ptok 11 3 false t119 = true := by decide +kernel
theorem pzk120 : ptok 11 3 false t120 = true := by decide +kernel
theorem pzk121 : ptok 11 3 false t121 = true := by decide +kernel
theorem pzk122 : ptok 11 3 false t122 = true := by decide +kernel
theorem pzk123 : ptok 11 3 false t123 = true := by decide +kernel
theorem pzk124 : ptok 11 3 false t124 = true := by decide +kernel
theorem pzk125 : ptok 11 3 false t125 = true := by decide +kernel
theorem pzk126 : ptok 11 3 false t126 = true := by decide +kernel
theorem pzk127 : ptok 11 3 false t127 = true := by decide +kernel
theorem pzk128 : ptok 11 1 false t128 = true := by decide +kernel
theorem pzk129 : ptok 11 1 false t129 = true := by decide +kernel
theorem pzk130 : ptok 11 1 false t130 = true := by decide +kernel
theorem pzk131 : ptok 11 1 false t131 = true := by decide +kernel
theorem pzk132 : ptok 11 1 false t132 = true := by decide +kernel
theorem pzk133 : ptok 11 1 false t133 = true := by decide +kernel
theorem pzk134 : ptok 11 1 false t134 = true := by decide +kernel
theorem pzk135 : ptok 11 1 false t135 = true := by decide +kernel
theorem pzk136 : ptok 11 1 false t136 = true := by decide +kernel
theorem pzk137 : ptok 11 1 false t137 = true := by decide +kernel
theorem pzk138 : ptok 11 1 false t138 = true := by decide +kernel
theorem pzk139 : ptok 11 1 false t139 = true := by decide +kernel
theorem pzk140 : ptok 11 1 false t140 = true := by decide +kernel
theorem pzk141 : ptok 11 1 false t141 = true := by decide +kernel
theorem pzk142 : ptok 11 1 false t142 = true := by decide +kernel
theorem pzk143 : ptok 11 1 false t143 = true := by decide +kernel
theorem pzk144 : ptok 11 1 false t144 = true := by decide +kernel
theorem pzk145 : ptok 11 1 false t145 = true := by decide +kernel
theorem pzk146 : ptok 11 1 false t146 = true := by decide +kernel
theorem pzk147 : ptok 11 1 false t147 = true := by decide +kernel
theorem pzk148 : ptok 11 1 false t148 = true := by decide +kernel
theorem pzk149 : ptok 11 1 false t149 = true := by decide +kernel
theorem pzk150 : ptok 11 3 false t150 = true := by decide +kernel
theorem pzk151 : ptok 11 1 false t151 = true := by decide +kernel
theorem pzk152 : ptok 11 2 false t152 = true := by decide +kernel
theorem pzk153 : ptok 11 1 false t153 = true := by decide +kernel
theorem pzk154 : ptok 11 2 false t154 = true := by decide +kernel
theorem pzk155 : ptok 11 1 false t155 = true := by decide +kernel
theorem pzk156 : ptok 11 1 false t156 = true := by decide +kernel
theorem pzk157 : ptok 11 1 false t157 = true := by decide +kernel
theorem pzk158 : ptok 11 1 false t158 = true := by decide +kernel
theorem pzk159 : ptok 11 1 false t159 = true := by decide +kernel
theorem pzk160 : ptok 11 1 false t160 = true := by decide +kernel
theorem pzk161 : ptok 11 1 false t161 = true := by decide +kernel
theorem pzk162 : ptok 11 1 false t162 = true := by decide +kernel
theorem pzk163 : ptok 11 1 false t163 = true := by decide +kernel
theorem pzk164 : ptok 11 1 false t164 = true := by decide +kernel
theorem pzk165 : ptok 11 1 false t165 = true := by decide +kernel
theorem pzk166 : ptok 12 3 false t166 = true := by decide +kernel
theorem pzk167 : ptok 12 3 false t167 = true := by decide +kernel
theorem pzk168 : ptok 12 1 false t168 = true := by decide +kernel
theorem pzk169 : ptok 12 3 false t169 = true := by decide +kernel
theorem pzk170 : ptok 12 3 false t170 = true := by decide +kernel
theorem pzk171 : ptok 12 0 false t171 = true := by decide +kernel
theorem pzk172 : ptok 12 3 false t172 = true := by decide +kernel
theorem pzk173 : ptok 12 3 false t173 = true := by decide +kernel
theorem pzk174 : ptok 12 3 false t174 = true := by decide +kernel
theorem pzk175 : ptok 12 0 false t175 = true := by decide +kernel
theorem pzk176 : ptok 12 2 false t176 = true := by decide +kernel
theorem pzk177 : ptok 12 1 false t177 = true := by decide +kernel
theorem pzk178 : ptok 12 3 false t178 = true := by decide +kernel
theorem pzk179 : ptok 12 3 false t179 = true := by decide +kernel
theorem pzk180 : ptok 12 3 false t180 = true := by decide +kernel
theorem pzk181 : ptok 12 3 false t181 = true := by decide +kernel
theorem pzk182 : ptok 12 3 false t182 = true := by decide +kernel
theorem pzk183 : ptok 12 3 false t183 = true := by decide +kernel
theorem pzk184 : ptok 12 3 false t184 = true := by decide +kernel
theorem pzk185 : ptok 12 0 true t185 = true := by decide +kernel
theorem pzk186 : ptok 12 1 false t186 = true := by decide +kernel
theorem pzk187 : ptok 12 0 false t187 = true := by decide +kernel
theorem pzk188 : ptok 12 1 false t188 = true := by decide +kernel
theorem pzk189 : ptok 12 1 false t189 = true := by decide +kernel
theorem pzk190 : ptok 12 1 false t190 = true := by decide +kernel
theorem pzk191 : ptok 12 1 false t191 = true := by decide +kernel
theorem pzk192 : ptok 12 1 false t192 = true := by decide +kernel
theorem pzk193 : ptok 12 3 false t193 = true := by decide +kernel
theorem pzk194 : ptok 12 1 false t194 = true := by decide +kernel
theorem pzk195 : ptok 12 3 false t195 = true := by decide +kernel
theorem pzk196 : ptok 12 0 false t196 = true := by decide +kernel
theorem pzk197 : ptok 12 0 false t197 = true := by decide +kernel
theorem pzk198 : ptok 12 3 false t198 = true := by decide +kernel
theorem pzk199 : ptok 12 3 false t199 = true := by decide +kernel
theorem pzk200 : ptok 12 1 false t200 = true := by decide +kernel
theorem pzk201 : ptok 12 1 false t201 = true := by decide +kernel
theorem pzk202 : ptok 12 3 false t202 = true := by decide +kernel
theorem pzk203 : ptok 12 1 false t203 = true := by decide +kernel
theorem pzk204 : ptok 12 1 false t204 = true := by decide +kernel
theorem pzk205 : ptok 12 1 false t205 = true := by decide +kernel
theorem pzk206 : ptok 12 1 false t206 = true := by decide +kernel
theorem pzk207 : ptok 12 1 false t207 = true := by decide +kernel
theorem pzk208 : ptok 12 1 false t208 = true := by decide +kernel
theorem pzk209 : ptok 12 1 false t209 = true := by decide +kernel
theorem pzk210 : ptok 12 3 false t210 = true := by decide +kernel
theorem pzk211 : ptok 12 1 false t211 = true := by decide +kernel
theorem pzk212 : ptok 12 3 false t212 = true := by decide +kernel
theorem pzk213 : ptok 12 3 false t213 = true := by decide +kernel
theorem pzk214 : ptok 12 1 false t214 = true := by decide +kernel
theorem pzk215 : ptok 12 1 false t215 = true := by decide +kernel
theorem pzk216 : ptok 12 1 false t216 = true := by decide +kernel
theorem pzk217 : ptok 12 3 false t217 = true := by decide +kernel
theorem pzk218 : ptok 12 1 false t218 = true := by decide +kernel
theorem pzk219 : ptok 12 1 false t219 = true := by decide +kernel
theorem pzk220 : ptok 12 1 false t220 = true := by decide +kernel
theorem pzk221 : ptok 12 3 false t221 = true := by decide +kernel
theorem pzk222 : ptok 12 1 false t222 = true := by decide +kernel
theorem pzk223 : ptok 12 3 false t223 = true := by decide +kernel
theorem pzk224 : ptok 12 0 false t224 = true := by decide +kernel
theorem pzk225 : ptok 12 1 false t225 = true := by decide +kernel
theorem pzk226 : ptok 12 1 false t226 = true := by decide +kernel
theorem pzk227 : ptok 12 1 false t227 = true := by decide +kernel
theorem pzk228 : ptok 12 3 false t228 = true := by decide +kernel
theorem pzk229 : ptok 12 1 false t229 = true := by decide +kernel
theorem pzk230 : ptok 12 2 false t230 = true := by decide +kernel
theorem pzk231 : ptok 12 0 false t231 = true := by decide +kernel
theorem pzk232 : ptok 12 0 false t232 = true := by decide +kernel
theorem pzk233 : ptok 12 3 false t233 = true := by decide +kernel
theorem pzk234 : ptok 12 1 false t234 = true := by decide +kernel
theorem pzk235 : ptok 12 1 false t235 = true := by decide +kernel
theorem pzk236 : ptok 12 2 false t236 = true := by decide +kernel
theorem pzk237 : ptok 12 1 false t237 = true := by decide +kernel
theorem pzk238 : ptok 12 2 false t238 = true := by decide +kernel
theorem pzk239 : ptok 12 3 false t239 = true := by decide +kernel
theorem pzk240 : ptok 12 3 false t240 = true := by decide +kernel
theorem pzk241 : ptok 12 1 false t241 = true := by decide +kernel
theorem pzk242 : ptok 12 1 false t242 = true := by decide +kernel
theorem pzk243 : ptok 12 1 false t243 = true := by decide +kernel
theorem pzk244 : ptok 12 1 false t244 = true := by decide +kernel
theorem pzk245 : ptok 12 1 false t245 = true := by decide +kernel
theorem pzk246 : ptok 12 1 false t246 = true := by decide +kernel
theorem pzk247 : ptok 12 1 false t247 = true := by decide +kernel
theorem pzk248 : ptok 12 1 false t248 = true := by decide +kernel
theorem pzk249 : ptok 12 1 false t249 = true := by decide +kernel
theorem pzk250 : ptok 12 1 false t250 = true := by decide +kernel
theorem pzk251 : ptok 12 3 false t251 = true := by decide +kernel
theorem pzk252 : ptok 12 1 false t252 = true := by decide +kernel
theorem pzk253 : ptok 12 1 false t253 = true := by decide +kernel
theorem pzk254 : ptok 12 3 false t254 = true := by decide +kernel
theorem pzk255 : ptok 12 0 false t255 = true := by decide +kernel
theorem pzk256 : ptok 12 3 false t256 = true := by decide +kernel
theorem pzk257 : ptok 12 1 false t257 = true := by decide +kernel
theorem pzk258 : ptok 12 1 false t258 = true := by decide +kernel
theorem pzk259 : ptok 12 1 false t259 = true := by decide +kernel
theorem pzk260 : ptok 12 1 false t260 = true := by decide +kernel
theorem pzk261 : ptok 12 1 false t261 = true := by decide +kernel
theorem pzk262 : ptok 12 1 false t262 = true := by decide +kernel
theorem pzk263 : ptok 12 3 false t263 = true := by decide +kernel
theorem pzk264 : ptok 12 1 false t264 = true := by decide +kernel
theorem pzk265 : ptok 12 1 false t265 = true := by decide +kernel
theorem pzk266 : ptok 12 1 false t266 = true := by decide +kernel
theorem pzk267 : ptok 14 0 false t267 = true := by decide +kernel
theorem pzk268 : ptok 13 3 false t268 = true := by decide +kernel
theorem pMok_0 : pall pMok 1 [(t1, 2, 0), (t2, 2, 1), (t3, 3, 1), (t4, 2, 1), (t5, 4, 3), (t6, 2, 0), (t7, 2, 0), (t8, 4, 1), (t9, 7, 1), (t10, 3, 0), (t11, 2, 0), (t12, 2, 1), (t13, 6, 1), (t14, 5, 1), (t15, 2, 3), (t16, 3, 3)] := ⟨⟨k1, rfl, rfl, pzk1⟩, ⟨k2, rfl, rfl, pzk2⟩, ⟨k3, rfl, rfl, pzk3⟩, ⟨k4, rfl, rfl, pzk4⟩, ⟨k5, rfl, rfl, pzk5⟩, ⟨k6, rfl, rfl, pzk6⟩, ⟨k7, rfl, rfl, pzk7⟩, ⟨k8, rfl, rfl, pzk8⟩, ⟨k9, rfl, rfl, pzk9⟩, ⟨k10, rfl, rfl, pzk10⟩, ⟨k11, rfl, rfl, pzk11⟩, ⟨k12, rfl, rfl, pzk12⟩, ⟨k13, rfl, rfl, pzk13⟩, ⟨k14, rfl, rfl, pzk14⟩, ⟨k15, rfl, rfl, pzk15⟩, ⟨k16, rfl, rfl, pzk16⟩, trivial⟩
theorem pMok_1 : pall pMok 17 [(t17, 5, 1), (t18, 3, 0), (t19, 1, 0), (t20, 5, 0), (t21, 7, 0), (t22, 9, 1), (t23, 10, 0), (t24, 2, 1), (t25, 4, 1), (t26, 4, 1), (t27, 2, 1), (t28, 5, 1), (t29, 5, 3), (t30, 8, 3), (t31, 1, 0), (t32, 1, 0)] := ⟨⟨k17, rfl, rfl, pzk17⟩, ⟨k18, rfl, rfl, pzk18⟩, ⟨k19, rfl, rfl, pzk19⟩, ⟨k20, rfl, rfl, pzk20⟩, ⟨k21, rfl, rfl, pzk21⟩, ⟨k22, rfl, rfl, pzk22⟩, ⟨k23, rfl, rfl, pzk23⟩, ⟨k24, rfl, rfl, pzk24⟩, ⟨k25, rfl, rfl, pzk25⟩, ⟨k26, rfl, rfl, pzk26⟩, ⟨k27, rfl, rfl, pzk27⟩, ⟨k28, rfl, rfl, pzk28⟩, ⟨k29, rfl, rfl, pzk29⟩, ⟨k30, rfl, rfl, pzk30⟩, ⟨k31, rfl, rfl, pzk31⟩, ⟨k32, rfl, rfl, pzk32⟩, trivial⟩
theorem pMok_2 : pall pMok 33 [(t33, 5, 1), (t34, 6, 1), (t35, 3, 0), (t36, 5, 1), (t37, 3, 0), (t38, 3, 1), (t39, 5, 0), (t40, 6, 0), (t41, 7, 1), (t42, 3, 0), (t43, 2, 0), (t44, 3, 0), (t45, 4, 1), (t46, 2, 1), (t47, 6, 1), (t48, 3, 1)] := ⟨⟨k33, rfl, rfl, pzk33⟩, ⟨k34, rfl, rfl, pzk34⟩, ⟨k35, rfl, rfl, pzk35⟩, ⟨k36, rfl, rfl, pzk36⟩, ⟨k37, rfl, rfl, pzk37⟩, ⟨k38, rfl, rfl, pzk38⟩, ⟨k39, rfl, rfl, pzk39⟩, ⟨k40, rfl, rfl, pzk40⟩, ⟨k41, rfl, rfl, pzk41⟩, ⟨k42, rfl, rfl, pzk42⟩, ⟨k43, rfl, rfl, pzk43⟩, ⟨k44, rfl, rfl, pzk44⟩, ⟨k45, rfl, rfl, pzk45⟩, ⟨k46, rfl, rfl, pzk46⟩, ⟨k47, rfl, rfl, pzk47⟩, ⟨k48, rfl, rfl, pzk48⟩, trivial⟩
theorem pMok_3 : pall pMok 49 [(t49, 3, 1), (t50, 3, 1), (t51, 8, 0), (t52, 7, 1), (t53, 2, 1), (t54, 6, 0), (t55, 3, 3), (t56, 1, 0), (t57, 1, 0), (t58, 2, 0), (t59, 4, 1), (t60, 5, 0), (t61, 4, 0), (t62, 2, 1), (t63, 2, 1), (t64, 5, 1)] := ⟨⟨k49, rfl, rfl, pzk49⟩, ⟨k50, rfl, rfl, pzk50⟩, ⟨k51, rfl, rfl, pzk51⟩, ⟨k52, rfl, rfl, pzk52⟩, ⟨k53, rfl, rfl, pzk53⟩, ⟨k54, rfl, rfl, pzk54⟩, ⟨k55, rfl, rfl, pzk55⟩, ⟨k56, rfl, rfl, pzk56⟩, ⟨k57, rfl, rfl, pzk57⟩, ⟨k58, rfl, rfl, pzk58⟩, ⟨k59, rfl, rfl, pzk59⟩, ⟨k60, rfl, rfl, pzk60⟩, ⟨k61, rfl, rfl, pzk61⟩, ⟨k62, rfl, rfl, pzk62⟩, ⟨k63, rfl, rfl, pzk63⟩, ⟨k64, rfl, rfl, pzk64⟩, trivial⟩
theorem pMok_4 : pall pMok 65 [(t65, 1, 1), (t66, 1, 1), (t67, 1, 1), (t68, 2, 0), (t69, 2, 3), (t70, 2, 3), (t71, 1, 3), (t72, 4, 3), (t73, 3, 3), (t74, 3, 3), (t75, 3, 3), (t76, 1, 3), (t77, 2, 3), (t78, 2, 3), (t79, 3, 3), (t80, 3, 3)] := ⟨⟨k65, rfl, rfl, pzk65⟩, ⟨k66, rfl, rfl, pzk66⟩, ⟨k67, rfl, rfl, pzk67⟩, ⟨k68, rfl, rfl, pzk68⟩, ⟨k69, rfl, rfl, pzk69⟩, ⟨k70, rfl, rfl, pzk70⟩, ⟨k71, rfl, rfl, pzk71⟩, ⟨k72, rfl, rfl, pzk72⟩, ⟨k73, rfl, rfl, pzk73⟩, ⟨k74, rfl, rfl, pzk74⟩, ⟨k75, rfl, rfl, pzk75⟩, ⟨k76, rfl, rfl, pzk76⟩, ⟨k77, rfl, rfl, pzk77⟩, ⟨k78, rfl, rfl, pzk78⟩, ⟨k79, rfl, rfl, pzk79⟩, ⟨k80, rfl, rfl, pzk80⟩, trivial⟩
theorem pMok_5 : pall pMok 81 [(t81, 1, 3), (t82, 2, 0), (t83, 2, 0), (t84, 4, 1), (t85, 5, 1), (t86, 4, 1), (t87, 7, 0), (t88, 4, 3), (t89, 6, 0), (t90, 7, 3), (t91, 7, 1), (t92, 5, 1), (t93, 5, 3), (t94, 6, 1), (t95, 5, 1), (t96, 6, 1)] := ⟨⟨k81, rfl, rfl, pzk81⟩, ⟨k82, rfl, rfl, pzk82⟩, ⟨k83, rfl, rfl, pzk83⟩, ⟨k84, rfl, rfl, pzk84⟩, ⟨k85, rfl, rfl, pzk85⟩, ⟨k86, rfl, rfl, pzk86⟩, ⟨k87, rfl, rfl, pzk87⟩, ⟨k88, rfl, rfl, pzk88⟩, ⟨k89, rfl, rfl, pzk89⟩, ⟨k90, rfl, rfl, pzk90⟩, ⟨k91, rfl, rfl, pzk91⟩, ⟨k92, rfl, rfl, pzk92⟩, ⟨k93, rfl, rfl, pzk93⟩, ⟨k94, rfl, rfl, pzk94⟩, ⟨k95, rfl, rfl, pzk95⟩, ⟨k96, rfl, rfl, pzk96⟩, trivial⟩
theorem pMok_6 : pall pMok 97 [(t97, 1, 0), (t98, 3, 0), (t99, 2, 1), (t100, 1, 0), (t101, 2, 0), (t102, 1, 0), (t103, 1, 0), (t104, 1, 3), (t105, 1, 3), (t106, 1, 3), (t107, 1, 0), (t108, 4, 1), (t109, 6, 1), (t110, 9, 0), (t111, 11, 2), (t112, 3, 1)] := ⟨⟨k97, rfl, rfl, pzk97⟩, ⟨k98, rfl, rfl, pzk98⟩, ⟨k99, rfl, rfl, pzk99⟩, ⟨k100, rfl, rfl, pzk100⟩, ⟨k101, rfl, rfl, pzk101⟩, ⟨k102, rfl, rfl, pzk102⟩, ⟨k103, rfl, rfl, pzk103⟩, ⟨k104, rfl, rfl, pzk104⟩, ⟨k105, rfl, rfl, pzk105⟩, ⟨k106, rfl, rfl, pzk106⟩, ⟨k107, rfl, rfl, pzk107⟩, ⟨k108, rfl, rfl, pzk108⟩, ⟨k109, rfl, rfl, pzk109⟩, ⟨k110, rfl, rfl, pzk110⟩, ⟨k111, rfl, rfl, pzk111⟩, ⟨k112, rfl, rfl, pzk112⟩, trivial⟩
theorem pMok_7 : pall pMok 113 [(t113, 5, 0), (t114, 5, 0), (t115, 8, 0), (t116, 16, 2), (t117, 1, 0), (t118, 6, 3), (t119, 2, 3), (t120, 2, 3), (t121, 2, 3), (t122, 1, 3), (t123, 1, 3), (t124, 1, 3), (t125, 1, 3), (t126, 1, 3), (t127, 1, 3), (t128, 6, 1)] := ⟨⟨k113, rfl, rfl, pzk113⟩, ⟨k114, rfl, rfl, pzk114⟩, ⟨k115, rfl, rfl, pzk115⟩, ⟨k116, rfl, rfl, pzk116⟩, ⟨k117, rfl, rfl, pzk117⟩, ⟨k118, rfl, rfl, pzk118⟩, ⟨k119, rfl, rfl, pzk119⟩, ⟨k120, rfl, rfl, pzk120⟩, ⟨k121, rfl, rfl, pzk121⟩, ⟨k122, rfl, rfl, pzk122⟩, ⟨k123, rfl, rfl, pzk123⟩, ⟨k124, rfl, rfl, pzk124⟩, ⟨k125, rfl, rfl, pzk125⟩, ⟨k126, rfl, rfl, pzk126⟩, ⟨k127, rfl, rfl, pzk127⟩, ⟨k128, rfl, rfl, pzk128⟩, trivial⟩
theorem pMok_8 : pall pMok 129 [(t129, 2, 1), (t130, 2, 1), (t131, 2, 1), (t132, 2, 1), (t133, 3, 1), (t134, 2, 1), (t135, 2, 1), (t136, 2, 1), (t137, 3, 1), (t138, 3, 1), (t139, 4, 1), (t140, 2, 1), (t141, 3, 1), (t142, 3, 1), (t143, 4, 1), (t144, 4, 1)] := ⟨⟨k129, rfl, rfl, pzk129⟩, ⟨k130, rfl, rfl, pzk130⟩, ⟨k131, rfl, rfl, pzk131⟩, ⟨k132, rfl, rfl, pzk132⟩, ⟨k133, rfl, rfl, pzk133⟩, ⟨k134, rfl, rfl, pzk134⟩, ⟨k135, rfl, rfl, pzk135⟩, ⟨k136, rfl, rfl, pzk136⟩, ⟨k137, rfl, rfl, pzk137⟩, ⟨k138, rfl, rfl, pzk138⟩, ⟨k139, rfl, rfl, pzk139⟩, ⟨k140, rfl, rfl, pzk140⟩, ⟨k141, rfl, rfl, pzk141⟩, ⟨k142, rfl, rfl, pzk142⟩, ⟨k143, rfl, rfl, pzk143⟩, ⟨k144, rfl, rfl, pzk144⟩, trivial⟩
theorem pMok_9 : pall pMok 145 [(t145, 2, 1), (t146, 2, 1), (t147, 2, 1), (t148, 2, 1), (t149, 5, 1), (t150, 2, 3), (t151, 2, 1), (t152, 2, 2), (t153, 3, 1), (t154, 3, 2), (t155, 5, 1), (t156, 5, 1), (t157, 3, 1), (t158, 3, 1), (t159, 4, 1), (t160, 3, 1)] := ⟨⟨k145, rfl, rfl, pzk145⟩, ⟨k146, rfl, rfl, pzk146⟩, ⟨k147, rfl, rfl, pzk147⟩, ⟨k148, rfl, rfl, pzk148⟩, ⟨k149, rfl, rfl, pzk149⟩, ⟨k150, rfl, rfl, pzk150⟩, ⟨k151, rfl, rfl, pzk151⟩, ⟨k152, rfl, rfl, pzk152⟩, ⟨k153, rfl, rfl, pzk153⟩, ⟨k154, rfl, rfl, pzk154⟩, ⟨k155, rfl, rfl, pzk155⟩, ⟨k156, rfl, rfl, pzk156⟩, ⟨k157, rfl, rfl, pzk157⟩, ⟨k158, rfl, rfl, pzk158⟩, ⟨k159, rfl, rfl, pzk159⟩, ⟨k160, rfl, rfl, pzk160⟩, trivial⟩
theorem pMok_10 : pall pMok 161 [(t161, 3, 1), (t162, 1, 1), (t163, 3, 1), (t164, 4, 1), (t165, 2, 1), (t166, 6, 3), (t167, 2, 3), (t168, 2, 1), (t169, 1, 3), (t170, 1, 3), (t171, 2, 0), (t172, 4, 3), (t173, 3, 3), (t174, 3, 3), (t175, 1, 0), (t176, 4, 2)] := ⟨⟨k161, rfl, rfl, pzk161⟩, ⟨k162, rfl, rfl, pzk162⟩, ⟨k163, rfl, rfl, pzk163⟩, ⟨k164, rfl, rfl, pzk164⟩, ⟨k165, rfl, rfl, pzk165⟩, ⟨k166, rfl, rfl, pzk166⟩, ⟨k167, rfl, rfl, pzk167⟩, ⟨k168, rfl, rfl, pzk168⟩, ⟨k169, rfl, rfl, pzk169⟩, ⟨k170, rfl, rfl, pzk170⟩, ⟨k171, rfl, rfl, pzk171⟩, ⟨k172, rfl, rfl, pzk172⟩, ⟨k173, rfl, rfl, pzk173⟩, ⟨k174, rfl, rfl, pzk174⟩, ⟨k175, rfl, rfl, pzk175⟩, ⟨k176, rfl, rfl, pzk176⟩, trivial⟩
theorem pMok_11 : pall pMok 177 [(t177, 2, 1), (t178, 3, 3), (t179, 1, 3), (t180, 1, 3), (t181, 2, 3), (t182, 3, 3), (t183, 1, 3), (t184, 2, 3), (t185, 1, 0), (t186, 6, 1), (t187, 3, 0), (t188, 2, 1), (t189, 2, 1), (t190, 2, 1), (t191, 2, 1), (t192, 2, 1)] := ⟨⟨k177, rfl, rfl, pzk177⟩, ⟨k178, rfl, rfl, pzk178⟩, ⟨k179, rfl, rfl, pzk179⟩, ⟨k180, rfl, rfl, pzk180⟩, ⟨k181, rfl, rfl, pzk181⟩, ⟨k182, rfl, rfl, pzk182⟩, ⟨k183, rfl, rfl, pzk183⟩, ⟨k184, rfl, rfl, pzk184⟩, ⟨k185, rfl, rfl, pzk185⟩, ⟨k186, rfl, rfl, pzk186⟩, ⟨k187, rfl, rfl, pzk187⟩, ⟨k188, rfl, rfl, pzk188⟩, ⟨k189, rfl, rfl, pzk189⟩, ⟨k190, rfl, rfl, pzk190⟩, ⟨k191, rfl, rfl, pzk191⟩, ⟨k192, rfl, rfl, pzk192⟩, trivial⟩
theorem pMok_12 : pall pMok 193 [(t193, 3, 3), (t194, 6, 1), (t195, 3, 3), (t196, 8, 0), (t197, 2, 0), (t198, 2, 3), (t199, 2, 3), (t200, 2, 1), (t201, 5, 1), (t202, 6, 3), (t203, 10, 1), (t204, 2, 1), (t205, 2, 1), (t206, 2, 1), (t207, 2, 1), (t208, 6, 1)] := ⟨⟨k193, rfl, rfl, pzk193⟩, ⟨k194, rfl, rfl, pzk194⟩, ⟨k195, rfl, rfl, pzk195⟩, ⟨k196, rfl, rfl, pzk196⟩, ⟨k197, rfl, rfl, pzk197⟩, ⟨k198, rfl, rfl, pzk198⟩, ⟨k199, rfl, rfl, pzk199⟩, ⟨k200, rfl, rfl, pzk200⟩, ⟨k201, rfl, rfl, pzk201⟩, ⟨k202, rfl, rfl, pzk202⟩, ⟨k203, rfl, rfl, pzk203⟩, ⟨k204, rfl, rfl, pzk204⟩, ⟨k205, rfl, rfl, pzk205⟩, ⟨k206, rfl, rfl, pzk206⟩, ⟨k207, rfl, rfl, pzk207⟩, ⟨k208, rfl, rfl, pzk208⟩, trivial⟩
theorem pMok_13 : pall pMok 209 [(t209, 5, 1), (t210, 1, 3), (t211, 3, 1), (t212, 2, 3), (t213, 3, 3), (t214, 3, 1), (t215, 4, 1), (t216, 5, 1), (t217, 1, 3), (t218, 5, 1), (t219, 3, 1), (t220, 6, 1), (t221, 7, 3), (t222, 4, 1), (t223, 3, 3), (t224, 6, 0)] := ⟨⟨k209, rfl, rfl, pzk209⟩, ⟨k210, rfl, rfl, pzk210⟩, ⟨k211, rfl, rfl, pzk211⟩, ⟨k212, rfl, rfl, pzk212⟩, ⟨k213, rfl, rfl, pzk213⟩, ⟨k214, rfl, rfl, pzk214⟩, ⟨k215, rfl, rfl, pzk215⟩, ⟨k216, rfl, rfl, pzk216⟩, ⟨k217, rfl, rfl, pzk217⟩, ⟨k218, rfl, rfl, pzk218⟩, ⟨k219, rfl, rfl, pzk219⟩, ⟨k220, rfl, rfl, pzk220⟩, ⟨k221, rfl, rfl, pzk221⟩, ⟨k222, rfl, rfl, pzk222⟩, ⟨k223, rfl, rfl, pzk223⟩, ⟨k224, rfl, rfl, pzk224⟩, trivial⟩
theorem pMok_14 : pall pMok 225 [(t225, 4, 1), (t226, 2, 1), (t227, 3, 1), (t228, 2, 3), (t229, 2, 1), (t230, 10, 2), (t231, 13, 0), (t232, 7, 0), (t233, 1, 3), (t234, 7, 1), (t235, 2, 1), (t236, 2, 2), (t237, 8, 1), (t238, 13, 2), (t239, 1, 3), (t240, 1, 3)] := ⟨⟨k225, rfl, rfl, pzk225⟩, ⟨k226, rfl, rfl, pzk226⟩, ⟨k227, rfl, rfl, pzk227⟩, ⟨k228, rfl, rfl, pzk228⟩, ⟨k229, rfl, rfl, pzk229⟩, ⟨k230, rfl, rfl, pzk230⟩, ⟨k231, rfl, rfl, pzk231⟩, ⟨k232, rfl, rfl, pzk232⟩, ⟨k233, rfl, rfl, pzk233⟩, ⟨k234, rfl, rfl, pzk234⟩, ⟨k235, rfl, rfl, pzk235⟩, ⟨k236, rfl, rfl, pzk236⟩, ⟨k237, rfl, rfl, pzk237⟩, ⟨k238, rfl, rfl, pzk238⟩, ⟨k239, rfl, rfl, pzk239⟩, ⟨k240, rfl, rfl, pzk240⟩, trivial⟩
theorem pMok_15 : pall pMok 241 [(t241, 5, 1), (t242, 6, 1), (t243, 5, 1), (t244, 1, 1), (t245, 1, 1), (t246, 1, 1), (t247, 2, 1), (t248, 2, 1), (t249, 2, 1), (t250, 7, 1), (t251, 2, 3), (t252, 5, 1), (t253, 4, 1), (t254, 2, 3), (t255, 5, 0), (t256, 1, 3)] := ⟨⟨k241, rfl, rfl, pzk241⟩, ⟨k242, rfl, rfl, pzk242⟩, ⟨k243, rfl, rfl, pzk243⟩, ⟨k244, rfl, rfl, pzk244⟩, ⟨k245, rfl, rfl, pzk245⟩, ⟨k246, rfl, rfl, pzk246⟩, ⟨k247, rfl, rfl, pzk247⟩, ⟨k248, rfl, rfl, pzk248⟩, ⟨k249, rfl, rfl, pzk249⟩, ⟨k250, rfl, rfl, pzk250⟩, ⟨k251, rfl, rfl, pzk251⟩, ⟨k252, rfl, rfl, pzk252⟩, ⟨k253, rfl, rfl, pzk253⟩, ⟨k254, rfl, rfl, pzk254⟩, ⟨k255, rfl, rfl, pzk255⟩, ⟨k256, rfl, rfl, pzk256⟩, trivial⟩
theorem pMok_16 : pall pMok 257 [(t257, 3, 1), (t258, 2, 1), (t259, 5, 1), (t260, 5, 1), (t261, 6, 1), (t262, 6, 1), (t263, 1, 3), (t264, 6, 1), (t265, 7, 1), (t266, 2, 1), (t267, 4, 0), (t268, 4, 3)] := ⟨⟨k257, rfl, rfl, pzk257⟩, ⟨k258, rfl, rfl, pzk258⟩, ⟨k259, rfl, rfl, pzk259⟩, ⟨k260, rfl, rfl, pzk260⟩, ⟨k261, rfl, rfl, pzk261⟩, ⟨k262, rfl, rfl, pzk262⟩, ⟨k263, rfl, rfl, pzk263⟩, ⟨k264, rfl, rfl, pzk264⟩, ⟨k265, rfl, rfl, pzk265⟩, ⟨k266, rfl, rfl, pzk266⟩, ⟨k267, rfl, rfl, pzk267⟩, ⟨k268, rfl, rfl, pzk268⟩, trivial⟩
theorem pMok_all : palls pMok 1 pmtT := ⟨pMok_0, pMok_1, pMok_2, pMok_3, pMok_4, pMok_5, pMok_6, pMok_7, pMok_8, pMok_9, pMok_10, pMok_11, pMok_12, pMok_13, pMok_14, pMok_15, pMok_16, trivial⟩
theorem pMT_ok {M : Nat} {mi : pM} (h : pMT M = some mi) : pMok M mi := by
  unfold pMT at h
  obtain ⟨h0, h⟩ := bif_s h
  have h0 := Nat.le_of_ble_eq_true h0
  unfold pn2 at h
  cases h1 : pn pmtT ((M - 1) / 16) with
  | none => rw [h1] at h; cases h
  | some l =>
    rw [h1] at h
    have h3 := palls_at pMok_all h1 h
    rw [show 1 + 16 * ((M - 1) / 16) + (M - 1) % 16 = M by omega] at h3
    exact h3
theorem all_pn {P : Option pE → Bool} : ∀ {l : List (Option pE)} {j : Nat} {e : Option pE}, l.all P = true → pn l j = some e → P e = true := by
  intro l j e h hj
  rw [pn_get] at hj
  exact List.all_eq_true.mp h e (List.mem_of_getElem? hj)
theorem ptok_at {K rt : Nat} {ini : Bool} {t : pT} {pc : Nat} {e : pE} (h : ptok K rt ini t = true) (hl : plook t pc = some e) : pent1 K rt ini (some e) = true := by
  unfold plook pn2 at hl
  cases h1 : pn t (pc / 16) with
  | none => rw [h1] at hl; cases hl
  | some l =>
    rw [h1] at hl
    dsimp only at hl
    cases h2 : pn l (pc % 16) with
    | none => rw [h2] at hl; cases hl
    | some q =>
      rw [h2] at hl
      cases q with
      | none => cases hl
      | some e0 =>
        cases hl
        have h3 : l.all (pent1 K rt ini) = true := by
          rw [pn_get] at h1
          exact List.all_eq_true.mp h l (List.mem_of_getElem? h1)
        exact all_pn h3 h2
theorem pdesc : (pynT.map (fun r => r.map (fun y => (parseMethodDescriptor y.desc).map (fun d => d.parameters.length)))) = (pmwT.map (fun r => r.map (fun w => some (bif w.2.2.2.2 then w.2.2.2.1 else w.2.2.2.1 - 1)))) := by decide +kernel
theorem pplain : ∀ K, K < 15 → plainName (pown K) = true ∧ (pown K ≠ "java/lang/invoke/MethodHandle" ∧ pown K ≠ "java/lang/invoke/VarHandle") := by decide +kernel
