/-- from here the method ends, with R -/
def pEnds (MT : Nat → Option pM) (d M : Nat) (Y : pY) (R : Option pV → pG → Prop) (pc : Nat) (loc stk : List pV) (G : pG) : Prop := ∃ (f : Nat) (r : Option pV) (G' : pG), pexec MT f d M pc loc stk Y G = some (r, Y, G') ∧ R r G'
/-- the method m, called with these, answers r and leaves G' -/
def pRuns (MT : Nat → Option pM) (d m : Nat) (as : List pV) (Y : pY) (G : pG) (r : Option pV) (G' : pG) : Prop := ∃ (mc : pM) (f : Nat), MT m = some mc ∧ Nat.ble (pcat as) mc.2.1 = true ∧ pexec MT f d m 0 (pent as mc.2.1) [] Y G = some (r, Y, G')
def pC0 (MT : Nat → Option pM) (d m : Nat) (as : List pV) (Y : pY) (G : pG) (Q : pG → Prop) : Prop := ∃ (d' : Nat) (G' : pG), d' < d ∧ pRuns MT d' m as Y G none G' ∧ Q G'
def pC1 (MT : Nat → Option pM) (d m : Nat) (as : List pV) (Y : pY) (G : pG) (Q : Int → pG → Prop) : Prop := ∃ (d' : Nat) (r : Int) (G' : pG), d' < d ∧ pRuns MT d' m as Y G (some (pI r)) G' ∧ Q r G'
def pC2 (MT : Nat → Option pM) (d m : Nat) (as : List pV) (Y : pY) (G : pG) (Q : Int → pG → Prop) : Prop := ∃ (d' : Nat) (r : Int) (G' : pG), d' < d ∧ pRuns MT d' m as Y G (some (pL r)) G' ∧ Q r G'
def pcP (cc : ClassFile.Cond) (x y : Int) : Prop := match cc with
  | .eq => x = y
  | .ne => ¬ x = y
  | .lt => x < y
  | .ge => y ≤ x
  | .gt => y < x
  | .le => x ≤ y
def pcN (cc : ClassFile.Cond) (x y : Int) : Prop := match cc with
  | .eq => ¬ x = y
  | .ne => x = y
  | .lt => y ≤ x
  | .ge => x < y
  | .gt => x ≤ y
  | .le => y < x
def ptw (x : Int) (pc : Nat) (go : Nat → Prop) : Int → List Int → Prop
  | _, [] => False
  | lo, o :: os => (x = lo → go ((pc : Int) + o).toNat) ∧ (¬ x = lo → ptw x pc go (lo + 1) os)
def plw (x : Int) (pc : Nat) (d : Int) (go : Nat → Prop) : List (Int × Int) → Prop
  | [] => go ((pc : Int) + d).toNat
  | (k, o) :: r => (x = k → go ((pc : Int) + o).toNat) ∧ (¬ x = k → plw x pc d go r)
/-- what must hold for a step, 'go' being what must hold behind it -/
def pw1 (MT : Nat → Option pM) (d M : Nat) (Y : pY) (R : Option pV → pG → Prop) (go : Nat → List pV → List pV → pG → Prop) (e : pE) (pc : Nat) (loc stk : List pV) (G : pG) : Prop :=
  match e with
  | (o, len, a, b, c) => match o with
    | .iconst x => go (pc + len) loc (pI x :: stk) G
    | .ldc2_w _ => go (pc + len) loc (pL c :: stk) G
    | .ldc _ => go (pc + len) loc (pR a :: stk) G
    | .iload i => k_oi (pn loc i) False (fun x => go (pc + len) loc (pI x :: stk) G)
    | .lload i => k_ol (pn loc i) False (fun x => go (pc + len) loc (pL x :: stk) G)
    | .aload i => k_or (pn loc i) False (fun x => go (pc + len) loc (pR x :: stk) G)
    | .istore i => k_i stk False (fun x st => bif Nat.blt i loc.length then ∀ v : Int, v = x → go (pc + len) (plst loc i (pI v)) st G else False)
    | .lstore i => k_l stk False (fun x st => bif Nat.blt (i + 1) loc.length then ∀ v : Int, v = x → go (pc + len) (plst2 loc i (pL v)) st G else False)
    | .astore i => k_r stk False (fun x st => bif Nat.blt i loc.length then go (pc + len) (plst loc i (pR x)) st G else False)
    | .iinc i k => k_oi (pn loc i) False (fun x => ∀ v : Int, v = w32 (x + k) → go (pc + len) (plst loc i (pI v)) stk G)
    | .iadd => k_ii stk False (fun x y st => go (pc + len) loc (pI (w32 (x + y)) :: st) G)
    | .isub => k_ii stk False (fun x y st => go (pc + len) loc (pI (w32 (x - y)) :: st) G)
    | .imul => k_ii stk False (fun x y st => go (pc + len) loc (pI (w32 (x * y)) :: st) G)
    | .iand => k_ii stk False (fun x y st => go (pc + len) loc (pI (pand x y) :: st) G)
    | .ior => k_ii stk False (fun x y st => go (pc + len) loc (pI (por x y) :: st) G)
    | .ixor => k_ii stk False (fun x y st => go (pc + len) loc (pI (pxor x y) :: st) G)
    | .ishl => k_ii stk False (fun x y st => go (pc + len) loc (pI (pshl x y) :: st) G)
    | .ishr => k_ii stk False (fun x y st => go (pc + len) loc (pI (pshr x y) :: st) G)
    | .iushr => k_ii stk False (fun x y st => go (pc + len) loc (pI (push' x y) :: st) G)
    | .idiv => k_ii stk False (fun x y st => ¬ y = 0 ∧ go (pc + len) loc (pI (pdiv x y) :: st) G)
    | .irem => k_ii stk False (fun x y st => ¬ y = 0 ∧ go (pc + len) loc (pI (prem x y) :: st) G)
    | .ineg => k_i stk False (fun x st => go (pc + len) loc (pI (w32 (-x)) :: st) G)
    | .ladd => k_ll stk False (fun x y st => go (pc + len) loc (pL (w64 (x + y)) :: st) G)
    | .lsub => k_ll stk False (fun x y st => go (pc + len) loc (pL (w64 (x - y)) :: st) G)
    | .lmul => k_ll stk False (fun x y st => go (pc + len) loc (pL (w64 (x * y)) :: st) G)
    | .land => k_ll stk False (fun x y st => go (pc + len) loc (pL (pland x y) :: st) G)
    | .lor => k_ll stk False (fun x y st => go (pc + len) loc (pL (plor x y) :: st) G)
    | .ldiv => k_ll stk False (fun x y st => ¬ y = 0 ∧ go (pc + len) loc (pL (pldiv x y) :: st) G)
    | .lrem => k_ll stk False (fun x y st => ¬ y = 0 ∧ go (pc + len) loc (pL (plrem x y) :: st) G)
    | .lneg => k_l stk False (fun x st => go (pc + len) loc (pL (w64 (-x)) :: st) G)
    | .lshl => k_li stk False (fun x y st => go (pc + len) loc (pL (plshl x y) :: st) G)
    | .lshr => k_li stk False (fun x y st => go (pc + len) loc (pL (plshr x y) :: st) G)
    | .lcmp => k_ll stk False (fun x y st => go (pc + len) loc (pI (plcmp x y) :: st) G)
    | .i2l => k_i stk False (fun x st => go (pc + len) loc (pL x :: st) G)
    | .l2i => k_l stk False (fun x st => go (pc + len) loc (pI (w32 x) :: st) G)
    | .i2b => k_i stk False (fun x st => go (pc + len) loc (pI (w8 x) :: st) G)
    | .dup => k_d stk False (fun v st => go (pc + len) loc (v :: v :: st) G)
    | .dup2 => k_d2 stk False (fun v w st => go (pc + len) loc (v :: w :: v :: w :: st) G)
    | .goto _ => go a loc stk G
    | .ifCond cc _ => k_i stk False (fun x st => (pcP cc x 0 → go a loc st G) ∧ (pcN cc x 0 → go (pc + len) loc st G))
    | .if_icmp cc _ => k_ii stk False (fun x y st => (pcP cc x y → go a loc st G) ∧ (pcN cc x y → go (pc + len) loc st G))
    | .tableswitch dflt lo hi offs => k_i stk False (fun x st => (x < lo ∨ hi < x → go ((pc : Int) + dflt).toNat loc st G) ∧ (¬ (x < lo ∨ hi < x) → ptw x pc (fun q => go q loc st G) lo offs.toList))
    | .lookupswitch dflt ps => k_i stk False (fun x st => plw x pc dflt (fun q => go q loc st G) ps.toList)
    | .getfield _ => k_r stk False (fun r st => bif Nat.beq (Y.2.1 r).1 b then (match c with
        | 1 => go (pc + len) loc (pL (G r a) :: st) G
        | 2 => k_op (Y.2.2 r a) False (fun q => go (pc + len) loc (pR q :: st) G)
        | _ => go (pc + len) loc (pI (G r a) :: st) G) else False)
    | .putfield _ => match c with
        | 0 => k_ri stk False (fun r x st => bif Nat.beq (Y.2.1 r).1 b then go (pc + len) loc st (pset G r a x) else False)
        | 1 => k_rl stk False (fun r x st => bif Nat.beq (Y.2.1 r).1 b then go (pc + len) loc st (pset G r a x) else False)
        | 3 => k_ri stk False (fun r x st => bif Nat.beq (Y.2.1 r).1 b then (x = 0 ∨ x = 1) ∧ go (pc + len) loc st (pset G r a x) else False)
        | _ => False
    | .iaload => k_ri stk False (fun r i st => bif Nat.beq (Y.2.1 r).1 100 then 0 ≤ i ∧ i < (Y.2.1 r).2 ∧ go (pc + len) loc (pI (G r i.toNat) :: st) G else False)
    | .laload => k_ri stk False (fun r i st => bif Nat.beq (Y.2.1 r).1 101 then 0 ≤ i ∧ i < (Y.2.1 r).2 ∧ go (pc + len) loc (pL (G r i.toNat) :: st) G else False)
    | .baload => k_ri stk False (fun r i st => bif Nat.beq (Y.2.1 r).1 102 then 0 ≤ i ∧ i < (Y.2.1 r).2 ∧ go (pc + len) loc (pI (G r i.toNat) :: st) G else False)
    | .aaload => k_ri stk False (fun r i st => bif Nat.beq (Y.2.1 r).1 103 then 0 ≤ i ∧ i < (Y.2.1 r).2 ∧ ∃ q, Y.2.2 r i.toNat = some q ∧ go (pc + len) loc (pR q :: st) G else False)
    | .iastore => k_rii stk False (fun r i x st => bif Nat.beq (Y.2.1 r).1 100 then 0 ≤ i ∧ i < (Y.2.1 r).2 ∧ go (pc + len) loc st (pset G r i.toNat x) else False)
    | .bastore => k_rii stk False (fun r i x st => bif Nat.beq (Y.2.1 r).1 102 then 0 ≤ i ∧ i < (Y.2.1 r).2 ∧ go (pc + len) loc st (pset G r i.toNat (w8 x)) else False)
    | .lastore => k_ril stk False (fun r i x st => bif Nat.beq (Y.2.1 r).1 101 then 0 ≤ i ∧ i < (Y.2.1 r).2 ∧ go (pc + len) loc st (pset G r i.toNat x) else False)
    | .arraylength => k_r stk False (fun r st => bif Nat.ble 100 (Y.2.1 r).1 && Nat.ble (Y.2.1 r).1 103 then go (pc + len) loc (pI (Y.2.1 r).2 :: st) G else False)
    | .invokestatic rc => k_op (ppop b stk []) False (fun q => bif Nat.ble (pcat q.2) 8 && (c == -1 || precv Y c q.1) then (match rc with
        | 0 => pC0 MT d a q.1 Y G (fun G' => go (pc + 3) loc q.2 G')
        | 1 => pC1 MT d a q.1 Y G (fun r G' => go (pc + 3) loc (pI r :: q.2) G')
        | _ => pC2 MT d a q.1 Y G (fun r G' => go (pc + 3) loc (pL r :: q.2) G')) else False)
    | .f2d => k_ii stk False (fun x y st => bif Nat.ble (pcat st) 8 then go (pc + len) loc (pI (pmx x y) :: st) G else False)
    | .f2i => k_ii stk False (fun x y st => bif Nat.ble (pcat st) 8 then go (pc + len) loc (pI (pmn x y) :: st) G else False)
    | .f2l => k_i stk False (fun x st => bif Nat.ble (pcat st) 8 then go (pc + len) loc (pI (if 0 < x then x else w32 (-x)) :: st) G else False)
    | .d2f => k_l stk False (fun x st => bif Nat.ble (pcat st) 8 then go (pc + len) loc (pL (if 0 < x then x else w64 (-x)) :: st) G else False)
    | .d2i => k_ll stk False (fun x y st => bif Nat.ble (pcat st) 8 then go (pc + len) loc (pL (pmx x y) :: st) G else False)
    | .d2l => k_cp stk False (fun a0 sp a1 dp n st => bif Nat.ble (pcat st) 8 then (bif (Nat.beq (Y.2.1 a0).1 100 && Nat.beq (Y.2.1 a1).1 100) || (Nat.beq (Y.2.1 a0).1 101 && Nat.beq (Y.2.1 a1).1 101) then (0 ≤ sp ∧ 0 ≤ dp ∧ 0 ≤ n ∧ sp + n ≤ (Y.2.1 a0).2 ∧ dp + n ≤ (Y.2.1 a1).2) ∧ go (pc + len) loc st (pcpy G a0 sp.toNat a1 dp.toNat n.toNat) else False) else False)
    | .faload => k_ri stk False (fun r i st => bif Nat.beq r 499 then 0 ≤ i ∧ i < G 498 0 ∧ go (pc + len) loc (pI (G 499 i.toNat) :: st) G else False)
    | .fastore => k_r stk False (fun r st => bif Nat.beq r 499 then go (pc + len) loc (pI (G 498 0) :: st) G else False)
    | .daload => k_r stk False (fun r st => bif Nat.ble (pcat st) 8 && Nat.ble 500 r then k_op (pn pstr (r - 500)) False (fun s => go (pc + len) loc (pI s.length :: st) G) else False)
    | .dastore => k_ri stk False (fun r i st => bif Nat.ble (pcat st) 8 && Nat.ble 500 r then k_op (pn pstr (r - 500)) False (fun s => 0 ≤ i ∧ ∃ ch, pn s i.toNat = some ch ∧ go (pc + len) loc (pI ch :: st) G) else False)
    | .ireturn => match stk with
      | [.inl x] => bif c == 3 then (x = 0 ∨ x = 1) ∧ R (some (pI x)) G else R (some (pI x)) G
      | _ => False
    | .lreturn => match stk with
      | [.inr (.inl x)] => R (some (pL x)) G
      | _ => False
    | .return_ => match stk with
      | [] => R none G
      | _ => False
    | _ => False
/-- locals that are dead are forgotten -/
def pmk : List Bool → List pV → List pV
  | true :: m, v :: l => v :: pmk m l
  | false :: m, _ :: l => pU :: pmk m l
  | [], l => l
  | _ :: _, [] => []
def pcut : List (Nat × List Bool) → Nat → Option (List Bool)
  | [], _ => none
  | (a, m) :: l, n => bif Nat.beq a n then some m else pcut l n
/-- n steps of it, but not through the places cs -/
def pwp (MT : Nat → Option pM) (d M : Nat) (t : pT) (cs : List (Nat × List Bool)) (Y : pY) (R : Option pV → pG → Prop) : Nat → Nat → List pV → List pV → pG → Prop
  | 0, pc, loc, stk, G => pEnds MT d M Y R pc loc stk G
  | n + 1, pc, loc, stk, G => k_op (plook t pc) False (fun e => pw1 MT d M Y R (fun pc' loc' stk' G' => k_op (pcut cs pc') (pwp MT d M t cs Y R n pc' loc' stk' G') (fun m => pEnds MT d M Y R pc' (pmk m loc') stk' G')) e pc loc stk G)
theorem pRuns.deep {MT : Nat → Option pM} {d d' m : Nat} {as : List pV} {Y : pY} {G G' : pG} {r : Option pV} (h : pRuns MT d m as Y G r G') (hd : d ≤ d') : pRuns MT d' m as Y G r G' := by
  induction hd with
  | refl => exact h
  | step _ ih =>
    obtain ⟨mc, f, h1, h0, h2⟩ := ih
    exact ⟨mc, f, h1, h0, pexec_deep MT _ _ _ _ _ _ _ _ _ h2⟩
/-- a step on -/
theorem pEnds.nx {MT : Nat → Option pM} {d M : Nat} {Y : pY} {R : Option pV → pG → Prop} {mi : pM} (hM : MT M = some mi) {e : pE} {pc pc' : Nat} {loc loc' stk stk' : List pV} {G G' : pG} (he : plook mi.1 pc = some e) (hs : pstep Y G e pc loc stk = some (.inl (pc', loc', stk', Y, G'))) (h : pEnds MT d M Y R pc' loc' stk' G') : pEnds MT d M Y R pc loc stk G := by
  obtain ⟨f, r, G2, h1, h2⟩ := h
  refine ⟨f + 1, r, G2, ?_, h2⟩
  rw [pexec, hM]
  dsimp only
  rw [he]
  dsimp only
  rw [hs]
  exact h1
theorem pEnds.ret {MT : Nat → Option pM} {d M : Nat} {Y : pY} {R : Option pV → pG → Prop} {mi : pM} (hM : MT M = some mi) {e : pE} {pc : Nat} {loc stk : List pV} {G : pG} {r : Option pV} (he : plook mi.1 pc = some e) (hs : pstep Y G e pc loc stk = some (.inr (.inr r))) (h : R r G) : pEnds MT d M Y R pc loc stk G := by
  refine ⟨1, r, G, ?_, h⟩
  rw [pexec, hM]
  dsimp only
  rw [he]
  dsimp only
  rw [hs]
theorem pEnds.call {MT : Nat → Option pM} {d M : Nat} {Y : pY} {R : Option pV → pG → Prop} {mi : pM} (hM : MT M = some mi) {e : pE} {pc m : Nat} {loc stk as st : List pV} {G G' : pG} {r : Option pV} (he : plook mi.1 pc = some e) (hs : pstep Y G e pc loc stk = some (.inr (.inl (m, as, st)))) {d' : Nat} (hd : d' < d) (hr : pRuns MT d' m as Y G r G') (h : pEnds MT d M Y R (pc + 3) loc (r.toList ++ st) G') : pEnds MT d M Y R pc loc stk G := by
  obtain ⟨f, r2, G2, h1, h2⟩ := h
  obtain ⟨d1, rfl⟩ : ∃ d1, d = d1 + 1 := ⟨d - 1, by omega⟩
  obtain ⟨mc, f3, h3, h0, h4⟩ := hr.deep (show d' ≤ d1 by omega)
  refine ⟨f + f3 + 1, r2, G2, ?_, h2⟩
  rw [pexec, hM]
  dsimp only
  rw [he]
  dsimp only
  rw [hs]
  dsimp only
  rw [h3]
  dsimp only
  rw [h0]
  dsimp only [cond_true]
  rw [pexec_le MT (show f3 ≤ f + f3 by omega) h4]
  exact pexec_le MT (show f ≤ f + f3 by omega) h1
theorem k_i_f {stk : List pV} {k : Int → List pV → Prop} (h : k_i stk False k) : ∃ x st, stk = .inl x :: st ∧ k x st := by
  unfold k_i at h; split at h
  · exact ⟨_, _, rfl, h⟩
  · exact h.elim
theorem k_l_f {stk : List pV} {k : Int → List pV → Prop} (h : k_l stk False k) : ∃ x st, stk = .inr (.inl x) :: st ∧ k x st := by
  unfold k_l at h; split at h
  · exact ⟨_, _, rfl, h⟩
  · exact h.elim
theorem k_r_f {stk : List pV} {k : Nat → List pV → Prop} (h : k_r stk False k) : ∃ x st, stk = .inr (.inr (some x)) :: st ∧ k x st := by
  unfold k_r at h; split at h
  · exact ⟨_, _, rfl, h⟩
  · exact h.elim
theorem k_ii_f {stk : List pV} {k : Int → Int → List pV → Prop} (h : k_ii stk False k) : ∃ x y st, stk = .inl y :: .inl x :: st ∧ k x y st := by
  unfold k_ii at h; split at h
  · exact ⟨_, _, _, rfl, h⟩
  · exact h.elim
theorem k_ll_f {stk : List pV} {k : Int → Int → List pV → Prop} (h : k_ll stk False k) : ∃ x y st, stk = .inr (.inl y) :: .inr (.inl x) :: st ∧ k x y st := by
  unfold k_ll at h; split at h
  · exact ⟨_, _, _, rfl, h⟩
  · exact h.elim
theorem k_li_f {stk : List pV} {k : Int → Int → List pV → Prop} (h : k_li stk False k) : ∃ x y st, stk = .inl y :: .inr (.inl x) :: st ∧ k x y st := by
  unfold k_li at h; split at h
  · exact ⟨_, _, _, rfl, h⟩
  · exact h.elim
theorem k_ri_f {stk : List pV} {k : Nat → Int → List pV → Prop} (h : k_ri stk False k) : ∃ x y st, stk = .inl y :: .inr (.inr (some x)) :: st ∧ k x y st := by
  unfold k_ri at h; split at h
  · exact ⟨_, _, _, rfl, h⟩
  · exact h.elim
theorem k_rl_f {stk : List pV} {k : Nat → Int → List pV → Prop} (h : k_rl stk False k) : ∃ x y st, stk = .inr (.inl y) :: .inr (.inr (some x)) :: st ∧ k x y st := by
  unfold k_rl at h; split at h
  · exact ⟨_, _, _, rfl, h⟩
  · exact h.elim
theorem k_rii_f {stk : List pV} {k : Nat → Int → Int → List pV → Prop} (h : k_rii stk False k) : ∃ x y v st, stk = .inl v :: .inl y :: .inr (.inr (some x)) :: st ∧ k x y v st := by
  unfold k_rii at h; split at h
  · exact ⟨_, _, _, _, rfl, h⟩
  · exact h.elim
theorem k_ril_f {stk : List pV} {k : Nat → Int → Int → List pV → Prop} (h : k_ril stk False k) : ∃ x y v st, stk = .inr (.inl v) :: .inl y :: .inr (.inr (some x)) :: st ∧ k x y v st := by
  unfold k_ril at h; split at h
  · exact ⟨_, _, _, _, rfl, h⟩
  · exact h.elim
theorem k_cp_f {stk : List pV} {k : Nat → Int → Nat → Int → Int → List pV → Prop} (h : k_cp stk False k) : ∃ a0 sp a dp n st, stk = .inl n :: .inl dp :: .inr (.inr (some a)) :: .inl sp :: .inr (.inr (some a0)) :: st ∧ k a0 sp a dp n st := by
  unfold k_cp at h; split at h
  · exact ⟨_, _, _, _, _, _, rfl, h⟩
  · exact h.elim
theorem k_op_f {β : Type} {o : Option β} {k : β → Prop} (h : k_op o False k) : ∃ x, o = some x ∧ k x := by
  unfold k_op at h; split at h
  · exact ⟨_, rfl, h⟩
  · exact h.elim
theorem k_oi_f {o : Option pV} {k : Int → Prop} (h : k_oi o False k) : ∃ x, o = some (.inl x) ∧ k x := by
  unfold k_oi at h; split at h
  · exact ⟨_, rfl, h⟩
  · exact h.elim
theorem k_ol_f {o : Option pV} {k : Int → Prop} (h : k_ol o False k) : ∃ x, o = some (.inr (.inl x)) ∧ k x := by
  unfold k_ol at h; split at h
  · exact ⟨_, rfl, h⟩
  · exact h.elim
theorem k_or_f {o : Option pV} {k : Nat → Prop} (h : k_or o False k) : ∃ x, o = some (.inr (.inr (some x))) ∧ k x := by
  unfold k_or at h; split at h
  · exact ⟨_, rfl, h⟩
  · exact h.elim
theorem bif_f {b : Bool} {P : Prop} (h : bif b then P else False) : b = true ∧ P := by
  cases b
  · exact h.elim
  · exact ⟨rfl, h⟩
theorem pcP_t {cc : ClassFile.Cond} {x y : Int} : pcc cc x y = true ↔ pcP cc x y := by
  cases cc <;> simp [pcc, pcP]
theorem pcN_f {cc : ClassFile.Cond} {x y : Int} : pcc cc x y = false ↔ pcN cc x y := by
  cases cc <;> simp [pcc, pcN]
