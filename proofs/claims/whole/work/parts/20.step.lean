def pnx (Y : pY) (G : pG) (pc : Nat) (loc stk : List pV) : Option pO := some (.inl (pc, loc, stk, Y, G))
/-- one step of the pure machine -/
def pstep (Y : pY) (G : pG) (e : pE) (pc : Nat) (loc stk : List pV) : Option pO :=
  match e with
  | (o, len, a, b, c) => match o with
    | .iconst x => pnx Y G (pc + len) loc (pI x :: stk)
    | .ldc2_w _ => pnx Y G (pc + len) loc (pL c :: stk)
    | .ldc _ => pnx Y G (pc + len) loc (pR a :: stk)
    | .iload i => k_oi (pn loc i) none (fun x => pnx Y G (pc + len) loc (pI x :: stk))
    | .lload i => k_ol (pn loc i) none (fun x => pnx Y G (pc + len) loc (pL x :: stk))
    | .aload i => k_or (pn loc i) none (fun x => pnx Y G (pc + len) loc (pR x :: stk))
    | .istore i => k_i stk none (fun x st => bif Nat.blt i loc.length then pnx Y G (pc + len) (plst loc i (pI x)) st else none)
    | .lstore i => k_l stk none (fun x st => bif Nat.blt (i + 1) loc.length then pnx Y G (pc + len) (plst2 loc i (pL x)) st else none)
    | .astore i => k_r stk none (fun x st => bif Nat.blt i loc.length then pnx Y G (pc + len) (plst loc i (pR x)) st else none)
    | .iinc i k => k_oi (pn loc i) none (fun x => pnx Y G (pc + len) (plst loc i (pI (w32 (x + k)))) stk)
    | .iadd => k_ii stk none (fun x y st => pnx Y G (pc + len) loc (pI (w32 (x + y)) :: st))
    | .isub => k_ii stk none (fun x y st => pnx Y G (pc + len) loc (pI (w32 (x - y)) :: st))
    | .imul => k_ii stk none (fun x y st => pnx Y G (pc + len) loc (pI (w32 (x * y)) :: st))
    | .iand => k_ii stk none (fun x y st => pnx Y G (pc + len) loc (pI (pand x y) :: st))
    | .ior => k_ii stk none (fun x y st => pnx Y G (pc + len) loc (pI (por x y) :: st))
    | .ixor => k_ii stk none (fun x y st => pnx Y G (pc + len) loc (pI (pxor x y) :: st))
    | .ishl => k_ii stk none (fun x y st => pnx Y G (pc + len) loc (pI (pshl x y) :: st))
    | .ishr => k_ii stk none (fun x y st => pnx Y G (pc + len) loc (pI (pshr x y) :: st))
    | .iushr => k_ii stk none (fun x y st => pnx Y G (pc + len) loc (pI (push' x y) :: st))
    | .idiv => k_ii stk none (fun x y st => if y = 0 then none else pnx Y G (pc + len) loc (pI (pdiv x y) :: st))
    | .irem => k_ii stk none (fun x y st => if y = 0 then none else pnx Y G (pc + len) loc (pI (prem x y) :: st))
    | .ineg => k_i stk none (fun x st => pnx Y G (pc + len) loc (pI (w32 (-x)) :: st))
    | .ladd => k_ll stk none (fun x y st => pnx Y G (pc + len) loc (pL (w64 (x + y)) :: st))
    | .lsub => k_ll stk none (fun x y st => pnx Y G (pc + len) loc (pL (w64 (x - y)) :: st))
    | .lmul => k_ll stk none (fun x y st => pnx Y G (pc + len) loc (pL (w64 (x * y)) :: st))
    | .land => k_ll stk none (fun x y st => pnx Y G (pc + len) loc (pL (pland x y) :: st))
    | .lor => k_ll stk none (fun x y st => pnx Y G (pc + len) loc (pL (plor x y) :: st))
    | .ldiv => k_ll stk none (fun x y st => if y = 0 then none else pnx Y G (pc + len) loc (pL (pldiv x y) :: st))
    | .lrem => k_ll stk none (fun x y st => if y = 0 then none else pnx Y G (pc + len) loc (pL (plrem x y) :: st))
    | .lneg => k_l stk none (fun x st => pnx Y G (pc + len) loc (pL (w64 (-x)) :: st))
    | .lshl => k_li stk none (fun x y st => pnx Y G (pc + len) loc (pL (plshl x y) :: st))
    | .lshr => k_li stk none (fun x y st => pnx Y G (pc + len) loc (pL (plshr x y) :: st))
    | .lcmp => k_ll stk none (fun x y st => pnx Y G (pc + len) loc (pI (plcmp x y) :: st))
    | .i2l => k_i stk none (fun x st => pnx Y G (pc + len) loc (pL x :: st))
    | .l2i => k_l stk none (fun x st => pnx Y G (pc + len) loc (pI (w32 x) :: st))
    | .i2b => k_i stk none (fun x st => pnx Y G (pc + len) loc (pI (w8 x) :: st))
    | .dup => k_d stk none (fun v st => pnx Y G (pc + len) loc (v :: v :: st))
    | .dup2 => k_d2 stk none (fun v w st => pnx Y G (pc + len) loc (v :: w :: v :: w :: st))
    | .goto _ => pnx Y G a loc stk
    | .ifCond cc _ => k_i stk none (fun x st => bif pcc cc x 0 then pnx Y G a loc st else pnx Y G (pc + len) loc st)
    | .if_icmp cc _ => k_ii stk none (fun x y st => bif pcc cc x y then pnx Y G a loc st else pnx Y G (pc + len) loc st)
    | .tableswitch dflt lo hi offs => k_i stk none (fun x st => if x < lo ∨ hi < x then pnx Y G ((pc : Int) + dflt).toNat loc st else k_op (pn offs.toList (x - lo).toNat) none (fun off => pnx Y G ((pc : Int) + off).toNat loc st))
    | .lookupswitch dflt ps => k_i stk none (fun x st => pnx Y G ((pc : Int) + plks ps.toList dflt x).toNat loc st)
    | .getfield _ => k_r stk none (fun r st => bif Nat.beq (Y.2.1 r).1 b then (match c with
        | 1 => pnx Y G (pc + len) loc (pL (G r a) :: st)
        | 2 => k_op (Y.2.2 r a) none (fun q => pnx Y G (pc + len) loc (pR q :: st))
        | _ => pnx Y G (pc + len) loc (pI (G r a) :: st)) else none)
    | .putfield _ => match c with
        | 0 => k_ri stk none (fun r x st => bif Nat.beq (Y.2.1 r).1 b then pnx Y (pset G r a x) (pc + len) loc st else none)
        | 1 => k_rl stk none (fun r x st => bif Nat.beq (Y.2.1 r).1 b then pnx Y (pset G r a x) (pc + len) loc st else none)
        | 3 => k_ri stk none (fun r x st => bif Nat.beq (Y.2.1 r).1 b then (if x = 0 ∨ x = 1 then pnx Y (pset G r a x) (pc + len) loc st else none) else none)
        | _ => k_rr stk none (fun r q st => bif Nat.beq (Y.2.1 r).1 b && Nat.ble q 498 then pnx (prf Y r a q) G (pc + len) loc st else none)
    | .iaload => k_ri stk none (fun r i st => bif Nat.beq (Y.2.1 r).1 100 then (if 0 ≤ i ∧ i < (Y.2.1 r).2 then pnx Y G (pc + len) loc (pI (G r i.toNat) :: st) else none) else none)
    | .laload => k_ri stk none (fun r i st => bif Nat.beq (Y.2.1 r).1 101 then (if 0 ≤ i ∧ i < (Y.2.1 r).2 then pnx Y G (pc + len) loc (pL (G r i.toNat) :: st) else none) else none)
    | .baload => k_ri stk none (fun r i st => bif Nat.beq (Y.2.1 r).1 102 then (if 0 ≤ i ∧ i < (Y.2.1 r).2 then pnx Y G (pc + len) loc (pI (G r i.toNat) :: st) else none) else none)
    | .aaload => k_ri stk none (fun r i st => bif Nat.beq (Y.2.1 r).1 103 then (if 0 ≤ i ∧ i < (Y.2.1 r).2 then k_op (Y.2.2 r i.toNat) none (fun q => pnx Y G (pc + len) loc (pR q :: st)) else none) else none)
    | .iastore => k_rii stk none (fun r i x st => bif Nat.beq (Y.2.1 r).1 100 then (if 0 ≤ i ∧ i < (Y.2.1 r).2 then pnx Y (pset G r i.toNat x) (pc + len) loc st else none) else none)
    | .bastore => k_rii stk none (fun r i x st => bif Nat.beq (Y.2.1 r).1 102 then (if 0 ≤ i ∧ i < (Y.2.1 r).2 then pnx Y (pset G r i.toNat (w8 x)) (pc + len) loc st else none) else none)
    | .lastore => k_ril stk none (fun r i x st => bif Nat.beq (Y.2.1 r).1 101 then (if 0 ≤ i ∧ i < (Y.2.1 r).2 then pnx Y (pset G r i.toNat x) (pc + len) loc st else none) else none)
    | .arraylength => k_r stk none (fun r st => bif Nat.ble 100 (Y.2.1 r).1 && Nat.ble (Y.2.1 r).1 103 then pnx Y G (pc + len) loc (pI (Y.2.1 r).2 :: st) else none)
    | .invokestatic _ => k_op (ppop b stk []) none (fun q => bif Nat.ble (pcat q.2) 8 && (c == -1 || precv Y c q.1) then some (.inr (.inl (a, q.1, q.2))) else none)
    | .pop => k_r stk none (fun _ st => bif Nat.ble (pcat st) 8 then pnx Y G (pc + len) loc st else none)
    | .f2d => k_ii stk none (fun x y st => bif Nat.ble (pcat st) 8 then pnx Y G (pc + len) loc (pI (pmx x y) :: st) else none)
    | .f2i => k_ii stk none (fun x y st => bif Nat.ble (pcat st) 8 then pnx Y G (pc + len) loc (pI (pmn x y) :: st) else none)
    | .f2l => k_i stk none (fun x st => bif Nat.ble (pcat st) 8 then pnx Y G (pc + len) loc (pI (if 0 < x then x else w32 (-x)) :: st) else none)
    | .d2f => k_l stk none (fun x st => bif Nat.ble (pcat st) 8 then pnx Y G (pc + len) loc (pL (if 0 < x then x else w64 (-x)) :: st) else none)
    | .d2i => k_ll stk none (fun x y st => bif Nat.ble (pcat st) 8 then pnx Y G (pc + len) loc (pL (pmx x y) :: st) else none)
    | .d2l => k_cp stk none (fun a0 sp a1 dp n st => bif Nat.ble (pcat st) 8 then (bif (Nat.beq (Y.2.1 a0).1 100 && Nat.beq (Y.2.1 a1).1 100) || (Nat.beq (Y.2.1 a0).1 101 && Nat.beq (Y.2.1 a1).1 101) then (if 0 ≤ sp ∧ 0 ≤ dp ∧ 0 ≤ n ∧ sp + n ≤ (Y.2.1 a0).2 ∧ dp + n ≤ (Y.2.1 a1).2 then pnx Y (pcpy G a0 sp.toNat a1 dp.toNat n.toNat) (pc + len) loc st else none) else none) else none)
    | .faload => k_ri stk none (fun r i st => bif Nat.beq r 499 then (if 0 ≤ i ∧ i < G 498 0 then pnx Y G (pc + len) loc (pI (G 499 i.toNat) :: st) else none) else none)
    | .fastore => k_r stk none (fun r st => bif Nat.beq r 499 then pnx Y G (pc + len) loc (pI (G 498 0) :: st) else none)
    | .daload => k_r stk none (fun r st => bif Nat.ble (pcat st) 8 && Nat.ble 500 r then k_op (pn pstr (r - 500)) none (fun s => pnx Y G (pc + len) loc (pI s.length :: st)) else none)
    | .dastore => k_ri stk none (fun r i st => bif Nat.ble (pcat st) 8 && Nat.ble 500 r then k_op (pn pstr (r - 500)) none (fun s => if 0 ≤ i then k_op (pn s i.toNat) none (fun ch => pnx Y G (pc + len) loc (pI ch :: st)) else none) else none)
    | .new _ => bif Nat.ble Y.1.1 497 then pnx (pnw Y a b) (pz G Y.1.1) (pc + len) loc (pR Y.1.1 :: stk) else none
    | .newarray _ => k_i stk none (fun x st => if Y.1.1 ≤ 497 ∧ 0 ≤ x ∧ x ≤ 100000 then pnx (pnw Y a x) (pz G Y.1.1) (pc + len) loc (pR Y.1.1 :: st) else none)
    | .multianewarray _ _ => k_ii stk none (fun x y st => if (Y.1.1 : Int) + x ≤ 497 ∧ 0 ≤ x ∧ x ≤ 100000 ∧ 0 ≤ y ∧ y ≤ 100000 then pnx (pmn2 Y x.toNat y.toNat) (pz2 G Y.1.1 x.toNat) (pc + len) loc (pR Y.1.1 :: st) else none)
    | .ireturn => match stk with
      | [.inl x] => bif c == 3 then (if x = 0 ∨ x = 1 then some (.inr (.inr (some (pI x)))) else none) else some (.inr (.inr (some (pI x))))
      | _ => none
    | .lreturn => match stk with
      | [.inr (.inl x)] => some (.inr (.inr (some (pL x))))
      | _ => none
    | .return_ => match stk with
      | [] => some (.inr (.inr none))
      | _ => none
    | _ => none
/-- depth of calls left, steps left, method, pc, locals, stack, layout, memory -/
def pexec (MT : Nat → Option pM) : Nat → Nat → Nat → Nat → List pV → List pV → pY → pG → Option (Option pV × pY × pG)
  | 0, _, _, _, _, _, _, _ => none
  | f + 1, d, M, pc, loc, stk, Y, G => match MT M with
    | none => none
    | some mi => match plook mi.1 pc with
      | none => none
      | some e => match pstep Y G e pc loc stk with
        | none => none
        | some (.inl (pc', loc', stk', Y', G')) => pexec MT f d M pc' loc' stk' Y' G'
        | some (.inr (.inl (m, as, st))) => match d with
          | 0 => none
          | d' + 1 => match MT m with
            | none => none
            | some mc => bif Nat.ble (pcat as) mc.2.1 then (match pexec MT f d' m 0 (pent as mc.2.1) [] Y G with
              | none => none
              | some (r, Y', G') => pexec MT f d M (pc + 3) loc (r.toList ++ st) Y' G') else none
        | some (.inr (.inr r)) => some (r, Y, G)
theorem pexec_mono (MT : Nat → Option pM) : ∀ (f d M pc : Nat) (loc stk : List pV) (Y : pY) (G : pG) (r : Option pV × pY × pG), pexec MT f d M pc loc stk Y G = some r → pexec MT (f + 1) d M pc loc stk Y G = some r := by
  intro f
  induction f with
  | zero => intro d M pc loc stk Y G r h; exact absurd h (by simp [pexec])
  | succ f ih =>
    intro d M pc loc stk Y G r h
    rw [pexec] at h ⊢
    cases hM : MT M with
    | none => rw [hM] at h; exact absurd h (by simp)
    | some mi =>
      rw [hM] at h
      dsimp only at h ⊢
      cases hl : plook mi.1 pc with
      | none => rw [hl] at h; exact absurd h (by simp)
      | some e =>
        rw [hl] at h
        dsimp only at h ⊢
        rcases hs : pstep Y G e pc loc stk with _ | (⟨pc', loc', stk', Y', G'⟩ | ⟨m, as, st⟩ | r')
        · rw [hs] at h; exact absurd h (by simp)
        · rw [hs] at h
          exact ih _ _ _ _ _ _ _ _ h
        · rw [hs] at h
          dsimp only at h ⊢
          cases d with
          | zero => exact absurd h (by simp)
          | succ d' =>
            dsimp only at h ⊢
            cases hm : MT m with
            | none => rw [hm] at h; exact absurd h (by simp)
            | some mc =>
              rw [hm] at h
              dsimp only at h ⊢
              cases hk : Nat.ble (pcat as) mc.2.1 with
              | false => rw [hk] at h; cases h
              | true =>
              rw [hk] at h
              dsimp only [cond_true] at h ⊢
              cases hc : pexec MT f d' m 0 (pent as mc.2.1) [] Y G with
              | none => rw [hc] at h; exact absurd h (by simp)
              | some q =>
                obtain ⟨r1, Y1, G1⟩ := q
                rw [hc] at h
                rw [ih _ _ _ _ _ _ _ _ hc]
                exact ih _ _ _ _ _ _ _ _ h
        · rw [hs] at h
          exact h
theorem pexec_le (MT : Nat → Option pM) {f g d M pc : Nat} {loc stk : List pV} {Y : pY} {G : pG} {r : Option pV × pY × pG} (hfg : f ≤ g) (h : pexec MT f d M pc loc stk Y G = some r) : pexec MT g d M pc loc stk Y G = some r := by
  induction hfg with
  | refl => exact h
  | step _ ih => exact pexec_mono MT _ _ _ _ _ _ _ _ _ ih
/-- more depth does no harm -/
theorem pexec_deep (MT : Nat → Option pM) : ∀ (f d M pc : Nat) (loc stk : List pV) (Y : pY) (G : pG) (r : Option pV × pY × pG), pexec MT f d M pc loc stk Y G = some r → pexec MT f (d + 1) M pc loc stk Y G = some r := by
  intro f
  induction f with
  | zero => intro d M pc loc stk Y G r h; exact absurd h (by simp [pexec])
  | succ f ih =>
    intro d M pc loc stk Y G r h
    rw [pexec] at h ⊢
    cases hM : MT M with
    | none => rw [hM] at h; exact absurd h (by simp)
    | some mi =>
      rw [hM] at h
      dsimp only at h ⊢
      cases hl : plook mi.1 pc with
      | none => rw [hl] at h; exact absurd h (by simp)
      | some e =>
        rw [hl] at h
        dsimp only at h ⊢
        rcases hs : pstep Y G e pc loc stk with _ | (⟨pc', loc', stk', Y', G'⟩ | ⟨m, as, st⟩ | r')
        · rw [hs] at h; exact absurd h (by simp)
        · rw [hs] at h
          exact ih _ _ _ _ _ _ _ _ h
        · rw [hs] at h
          dsimp only at h ⊢
          cases d with
          | zero => exact absurd h (by simp)
          | succ d' =>
            dsimp only at h ⊢
            cases hm : MT m with
            | none => rw [hm] at h; exact absurd h (by simp)
            | some mc =>
              rw [hm] at h
              dsimp only at h ⊢
              cases hk : Nat.ble (pcat as) mc.2.1 with
              | false => rw [hk] at h; cases h
              | true =>
              rw [hk] at h
              dsimp only [cond_true] at h ⊢
              cases hc : pexec MT f d' m 0 (pent as mc.2.1) [] Y G with
              | none => rw [hc] at h; exact absurd h (by simp)
              | some q =>
                obtain ⟨r1, Y1, G1⟩ := q
                rw [hc] at h
                rw [ih _ _ _ _ _ _ _ _ hc]
                exact ih _ _ _ _ _ _ _ _ h
        · rw [hs] at h
          exact h
