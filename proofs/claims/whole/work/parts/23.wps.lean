theorem ptw_at {x : Int} {pc : Nat} {go : Nat → Prop} : ∀ {os : List Int} {lo : Int}, ptw x pc go lo os → lo ≤ x → ∃ off, pn os (x - lo).toNat = some off ∧ go ((pc : Int) + off).toNat := by
  intro os
  induction os with
  | nil => intro lo h _; exact h.elim
  | cons o os ih =>
    intro lo h hx
    by_cases e : x = lo
    · subst e
      refine ⟨o, ?_, h.1 rfl⟩
      rw [Int.sub_self]
      rfl
    · obtain ⟨off, h1, h2⟩ := ih (h.2 e) (by omega)
      refine ⟨off, ?_, h2⟩
      rw [show (x - lo).toNat = (x - (lo + 1)).toNat + 1 by omega]
      exact h1
theorem plw_at {x : Int} {pc : Nat} {d : Int} {go : Nat → Prop} : ∀ {ps : List (Int × Int)}, plw x pc d go ps → go ((pc : Int) + plks ps d x).toNat := by
  intro ps
  induction ps with
  | nil => intro h; exact h
  | cons p ps ih =>
    intro h
    obtain ⟨k, o⟩ := p
    unfold plks
    by_cases e : x = k
    · rw [if_pos e]; exact h.1 e
    · rw [if_neg e]; exact ih (h.2 e)
set_option maxHeartbeats 4000000 in
set_option maxRecDepth 20000 in
theorem pw1_sound {MT : Nat → Option pM} {d M : Nat} {Y : pY} {R : Option pV → pG → Prop} {go : Nat → List pV → List pV → pG → Prop} {mi : pM} (hM : MT M = some mi) (hgo : ∀ pc loc stk G, go pc loc stk G → pEnds MT d M Y R pc loc stk G) {e : pE} {pc : Nat} {loc stk : List pV} {G : pG} (he : plook mi.1 pc = some e) (h : pw1 MT d M Y R go e pc loc stk G) : pEnds MT d M Y R pc loc stk G := by
  obtain ⟨o, len, a, b, c⟩ := e
  cases o
  case iconst x => exact pEnds.nx hM he rfl (hgo _ _ _ _ h)
  case ldc2_w x => exact pEnds.nx hM he rfl (hgo _ _ _ _ h)
  case ldc x => exact pEnds.nx hM he rfl (hgo _ _ _ _ h)
  case goto x => exact pEnds.nx hM he rfl (hgo _ _ _ _ h)
  case iload i =>
    obtain ⟨x, hx, h⟩ := k_oi_f h
    exact pEnds.nx hM he (by simp only [pstep, hx, k_oi, pnx]) (hgo _ _ _ _ h)
  case lload i =>
    obtain ⟨x, hx, h⟩ := k_ol_f h
    exact pEnds.nx hM he (by simp only [pstep, hx, k_ol, pnx]) (hgo _ _ _ _ h)
  case aload i =>
    obtain ⟨x, hx, h⟩ := k_or_f h
    exact pEnds.nx hM he (by simp only [pstep, hx, k_or, pnx]) (hgo _ _ _ _ h)
  case istore i =>
    obtain ⟨x, st, rfl, h⟩ := k_i_f h
    exact pEnds.nx hM he rfl (hgo _ _ _ _ (h x rfl))
  case lstore i =>
    obtain ⟨x, st, rfl, h⟩ := k_l_f h
    exact pEnds.nx hM he rfl (hgo _ _ _ _ (h x rfl))
  case astore i =>
    obtain ⟨x, st, rfl, h⟩ := k_r_f h
    exact pEnds.nx hM he rfl (hgo _ _ _ _ h)
  case iinc i k =>
    obtain ⟨x, hx, h⟩ := k_oi_f h
    exact pEnds.nx hM he (by simp only [pstep, hx, k_oi, pnx]) (hgo _ _ _ _ (h _ rfl))
  case iadd =>
    obtain ⟨x, y, st, rfl, h⟩ := k_ii_f h
    exact pEnds.nx hM he rfl (hgo _ _ _ _ h)
  case isub =>
    obtain ⟨x, y, st, rfl, h⟩ := k_ii_f h
    exact pEnds.nx hM he rfl (hgo _ _ _ _ h)
  case imul =>
    obtain ⟨x, y, st, rfl, h⟩ := k_ii_f h
    exact pEnds.nx hM he rfl (hgo _ _ _ _ h)
  case iand =>
    obtain ⟨x, y, st, rfl, h⟩ := k_ii_f h
    exact pEnds.nx hM he rfl (hgo _ _ _ _ h)
  case ior =>
    obtain ⟨x, y, st, rfl, h⟩ := k_ii_f h
    exact pEnds.nx hM he rfl (hgo _ _ _ _ h)
  case ixor =>
    obtain ⟨x, y, st, rfl, h⟩ := k_ii_f h
    exact pEnds.nx hM he rfl (hgo _ _ _ _ h)
  case ishl =>
    obtain ⟨x, y, st, rfl, h⟩ := k_ii_f h
    exact pEnds.nx hM he rfl (hgo _ _ _ _ h)
  case ishr =>
    obtain ⟨x, y, st, rfl, h⟩ := k_ii_f h
    exact pEnds.nx hM he rfl (hgo _ _ _ _ h)
  case iushr =>
    obtain ⟨x, y, st, rfl, h⟩ := k_ii_f h
    exact pEnds.nx hM he rfl (hgo _ _ _ _ h)
  case ladd =>
    obtain ⟨x, y, st, rfl, h⟩ := k_ll_f h
    exact pEnds.nx hM he rfl (hgo _ _ _ _ h)
  case lsub =>
    obtain ⟨x, y, st, rfl, h⟩ := k_ll_f h
    exact pEnds.nx hM he rfl (hgo _ _ _ _ h)
  case lmul =>
    obtain ⟨x, y, st, rfl, h⟩ := k_ll_f h
    exact pEnds.nx hM he rfl (hgo _ _ _ _ h)
  case land =>
    obtain ⟨x, y, st, rfl, h⟩ := k_ll_f h
    exact pEnds.nx hM he rfl (hgo _ _ _ _ h)
  case lor =>
    obtain ⟨x, y, st, rfl, h⟩ := k_ll_f h
    exact pEnds.nx hM he rfl (hgo _ _ _ _ h)
  case lcmp =>
    obtain ⟨x, y, st, rfl, h⟩ := k_ll_f h
    exact pEnds.nx hM he rfl (hgo _ _ _ _ h)
  case lshl =>
    obtain ⟨x, y, st, rfl, h⟩ := k_li_f h
    exact pEnds.nx hM he rfl (hgo _ _ _ _ h)
  case lshr =>
    obtain ⟨x, y, st, rfl, h⟩ := k_li_f h
    exact pEnds.nx hM he rfl (hgo _ _ _ _ h)
  case idiv =>
    obtain ⟨x, y, st, rfl, h1, h⟩ := k_ii_f h
    exact pEnds.nx hM he (if_neg h1) (hgo _ _ _ _ h)
  case irem =>
    obtain ⟨x, y, st, rfl, h1, h⟩ := k_ii_f h
    exact pEnds.nx hM he (if_neg h1) (hgo _ _ _ _ h)
  case ldiv =>
    obtain ⟨x, y, st, rfl, h1, h⟩ := k_ll_f h
    exact pEnds.nx hM he (if_neg h1) (hgo _ _ _ _ h)
  case lrem =>
    obtain ⟨x, y, st, rfl, h1, h⟩ := k_ll_f h
    exact pEnds.nx hM he (if_neg h1) (hgo _ _ _ _ h)
  case ineg =>
    obtain ⟨x, st, rfl, h⟩ := k_i_f h
    exact pEnds.nx hM he rfl (hgo _ _ _ _ h)
  case i2l =>
    obtain ⟨x, st, rfl, h⟩ := k_i_f h
    exact pEnds.nx hM he rfl (hgo _ _ _ _ h)
  case i2b =>
    obtain ⟨x, st, rfl, h⟩ := k_i_f h
    exact pEnds.nx hM he rfl (hgo _ _ _ _ h)
  case lneg =>
    obtain ⟨x, st, rfl, h⟩ := k_l_f h
    exact pEnds.nx hM he rfl (hgo _ _ _ _ h)
  case l2i =>
    obtain ⟨x, st, rfl, h⟩ := k_l_f h
    exact pEnds.nx hM he rfl (hgo _ _ _ _ h)
  case dup =>
    rcases stk with _ | ⟨x | x | x, st⟩
    · exact h.elim
    · exact pEnds.nx hM he rfl (hgo _ _ _ _ h)
    · exact h.elim
    · exact pEnds.nx hM he rfl (hgo _ _ _ _ h)
  case dup2 =>
    rcases stk with _ | ⟨x | x | x, _ | ⟨y | y | y, st⟩⟩ <;> first | exact False.elim h | exact pEnds.nx hM he rfl (hgo _ _ _ _ h)
  case ifCond cc off =>
    obtain ⟨x, st, rfl, h1, h2⟩ := k_i_f h
    cases hc : pcc cc x 0 with
    | true => exact pEnds.nx hM he (by simp only [pstep, k_i, hc, cond_true, pnx]) (hgo _ _ _ _ (h1 (pcP_t.mp hc)))
    | false => exact pEnds.nx hM he (by simp only [pstep, k_i, hc, cond_false, pnx]) (hgo _ _ _ _ (h2 (pcN_f.mp hc)))
  case if_icmp cc off =>
    obtain ⟨x, y, st, rfl, h1, h2⟩ := k_ii_f h
    cases hc : pcc cc x y with
    | true => exact pEnds.nx hM he (by simp only [pstep, k_ii, hc, cond_true, pnx]) (hgo _ _ _ _ (h1 (pcP_t.mp hc)))
    | false => exact pEnds.nx hM he (by simp only [pstep, k_ii, hc, cond_false, pnx]) (hgo _ _ _ _ (h2 (pcN_f.mp hc)))
  case tableswitch dflt lo hi offs =>
    obtain ⟨x, st, rfl, h1, h2⟩ := k_i_f h
    by_cases hx : x < lo ∨ hi < x
    · exact pEnds.nx hM he (if_pos hx) (hgo _ _ _ _ (h1 hx))
    · obtain ⟨off, ho, hq⟩ := ptw_at (h2 hx) (by omega)
      exact pEnds.nx hM he (by simp only [pstep, k_i, if_neg hx, ho, k_op, pnx]) (hgo _ _ _ _ hq)
  case lookupswitch dflt ps =>
    obtain ⟨x, st, rfl, h⟩ := k_i_f h
    exact pEnds.nx hM he rfl (hgo _ _ _ _ (plw_at h))
  case getfield i =>
    obtain ⟨r, st, rfl, h⟩ := k_r_f h
    obtain ⟨hb, h⟩ := bif_f h
    split at h
    · exact pEnds.nx hM he (by simp only [pstep, k_r, hb, cond_true, pnx]) (hgo _ _ _ _ h)
    · obtain ⟨q, hq, h⟩ := k_op_f h
      exact pEnds.nx hM he (by simp only [pstep, k_r, hb, cond_true, hq, k_op, pnx]) (hgo _ _ _ _ h)
    · rename_i n1 n2
      refine pEnds.nx hM he ?_ (hgo _ _ _ _ h)
      simp only [pstep, k_r, hb, cond_true]
      rfl
  case putfield i =>
    unfold pw1 at h
    dsimp only at h
    split at h
    · obtain ⟨r, x, st, rfl, h⟩ := k_ri_f h
      obtain ⟨hb, h⟩ := bif_f h
      exact pEnds.nx hM he (by simp only [pstep, k_ri, hb, cond_true, pnx]) (hgo _ _ _ _ h)
    · obtain ⟨r, x, st, rfl, h⟩ := k_rl_f h
      obtain ⟨hb, h⟩ := bif_f h
      exact pEnds.nx hM he (by simp only [pstep, k_rl, hb, cond_true, pnx]) (hgo _ _ _ _ h)
    · obtain ⟨r, x, st, rfl, h⟩ := k_ri_f h
      obtain ⟨hb, hx, h⟩ := bif_f h
      exact pEnds.nx hM he (by simp only [pstep, k_ri, hb, cond_true, if_pos hx, pnx]) (hgo _ _ _ _ h)
    · exact h.elim
  case iaload =>
    obtain ⟨r, i, st, rfl, h⟩ := k_ri_f h
    obtain ⟨hb, h1, h2, h⟩ := bif_f h
    exact pEnds.nx hM he (by simp only [pstep, k_ri, hb, cond_true, if_pos (And.intro h1 h2), pnx]) (hgo _ _ _ _ h)
  case laload =>
    obtain ⟨r, i, st, rfl, h⟩ := k_ri_f h
    obtain ⟨hb, h1, h2, h⟩ := bif_f h
    exact pEnds.nx hM he (by simp only [pstep, k_ri, hb, cond_true, if_pos (And.intro h1 h2), pnx]) (hgo _ _ _ _ h)
  case baload =>
    obtain ⟨r, i, st, rfl, h⟩ := k_ri_f h
    obtain ⟨hb, h1, h2, h⟩ := bif_f h
    exact pEnds.nx hM he (by simp only [pstep, k_ri, hb, cond_true, if_pos (And.intro h1 h2), pnx]) (hgo _ _ _ _ h)
  case aaload =>
    obtain ⟨r, i, st, rfl, h⟩ := k_ri_f h
    obtain ⟨hb, h1, h2, q, hq, h⟩ := bif_f h
    exact pEnds.nx hM he (by simp only [pstep, k_ri, hb, cond_true, if_pos (And.intro h1 h2), hq, k_op, pnx]) (hgo _ _ _ _ h)
  case iastore =>
    obtain ⟨r, i, x, st, rfl, h⟩ := k_rii_f h
    obtain ⟨hb, h1, h2, h⟩ := bif_f h
    exact pEnds.nx hM he (by simp only [pstep, k_rii, hb, cond_true, if_pos (And.intro h1 h2), pnx]) (hgo _ _ _ _ h)
  case bastore =>
    obtain ⟨r, i, x, st, rfl, h⟩ := k_rii_f h
    obtain ⟨hb, h1, h2, h⟩ := bif_f h
    exact pEnds.nx hM he (by simp only [pstep, k_rii, hb, cond_true, if_pos (And.intro h1 h2), pnx]) (hgo _ _ _ _ h)
  case lastore =>
    obtain ⟨r, i, x, st, rfl, h⟩ := k_ril_f h
    obtain ⟨hb, h1, h2, h⟩ := bif_f h
    exact pEnds.nx hM he (by simp only [pstep, k_ril, hb, cond_true, if_pos (And.intro h1 h2), pnx]) (hgo _ _ _ _ h)
  case arraylength =>
    obtain ⟨r, st, rfl, h⟩ := k_r_f h
    obtain ⟨hb, h⟩ := bif_f h
    exact pEnds.nx hM he (by simp only [pstep, k_r, hb, cond_true, pnx]) (hgo _ _ _ _ h)
  case invokestatic rc =>
    obtain ⟨⟨as, st⟩, hq, h⟩ := k_op_f h
    obtain ⟨hb, h⟩ := bif_f h
    have hs : pstep Y G (Instr.invokestatic rc, len, a, b, c) pc loc stk = some (.inr (.inl (a, as, st))) := by simp only [pstep, hq, k_op, hb, cond_true]
    split at h
    · obtain ⟨d', G', hd, hr, h⟩ := h
      exact pEnds.call hM he hs hd hr (hgo _ _ _ _ h)
    · obtain ⟨d', r, G', hd, hr, h⟩ := h
      exact pEnds.call hM he hs hd hr (hgo _ _ _ _ h)
    · obtain ⟨d', r, G', hd, hr, h⟩ := h
      exact pEnds.call hM he hs hd hr (hgo _ _ _ _ h)
  case f2d =>
    obtain ⟨x, y, st, rfl, h⟩ := k_ii_f h
    obtain ⟨hb, h⟩ := bif_f h
    exact pEnds.nx hM he (by simp only [pstep, k_ii, hb, cond_true, pnx]) (hgo _ _ _ _ h)
  case f2i =>
    obtain ⟨x, y, st, rfl, h⟩ := k_ii_f h
    obtain ⟨hb, h⟩ := bif_f h
    exact pEnds.nx hM he (by simp only [pstep, k_ii, hb, cond_true, pnx]) (hgo _ _ _ _ h)
  case d2i =>
    obtain ⟨x, y, st, rfl, h⟩ := k_ll_f h
    obtain ⟨hb, h⟩ := bif_f h
    exact pEnds.nx hM he (by simp only [pstep, k_ll, hb, cond_true, pnx]) (hgo _ _ _ _ h)
  case f2l =>
    obtain ⟨x, st, rfl, h⟩ := k_i_f h
    obtain ⟨hb, h⟩ := bif_f h
    exact pEnds.nx hM he (by simp only [pstep, k_i, hb, cond_true, pnx]) (hgo _ _ _ _ h)
  case d2f =>
    obtain ⟨x, st, rfl, h⟩ := k_l_f h
    obtain ⟨hb, h⟩ := bif_f h
    exact pEnds.nx hM he (by simp only [pstep, k_l, hb, cond_true, pnx]) (hgo _ _ _ _ h)
  case d2l =>
    obtain ⟨a0, sp, a1, dp, n, st, rfl, h⟩ := k_cp_f h
    obtain ⟨hb, h⟩ := bif_f h
    obtain ⟨hb2, hx, h⟩ := bif_f h
    exact pEnds.nx hM he (by simp only [pstep, k_cp, hb, hb2, cond_true, if_pos hx, pnx]) (hgo _ _ _ _ h)
  case daload =>
    obtain ⟨r, st, rfl, h⟩ := k_r_f h
    obtain ⟨hb, h⟩ := bif_f h
    obtain ⟨s, hq, h⟩ := k_op_f (o := pn pstr (r - 500)) h
    exact pEnds.nx hM he (by simp only [pstep, k_r, hb, cond_true, hq, k_op, pnx]) (hgo _ _ _ _ h)
  case dastore =>
    obtain ⟨r, i, st, rfl, h⟩ := k_ri_f h
    obtain ⟨hb, h⟩ := bif_f h
    obtain ⟨s, hq, h1, ch, hc, h⟩ := k_op_f (o := pn pstr (r - 500)) h
    exact pEnds.nx hM he (by simp only [pstep, k_ri, hb, cond_true, hq, k_op, if_pos h1, hc, pnx]) (hgo _ _ _ _ h)
  case ireturn =>
    unfold pw1 at h
    dsimp only at h
    split at h
    · rename_i x
      cases hc : (c == 3) with
      | true =>
        rw [hc] at h
        exact pEnds.ret hM he (by simp only [pstep, hc, cond_true, if_pos h.1]) h.2
      | false =>
        rw [hc] at h
        exact pEnds.ret hM he (by simp only [pstep, hc, cond_false]) h
    · exact h.elim
  case lreturn =>
    unfold pw1 at h
    dsimp only at h
    split at h
    · exact pEnds.ret hM he rfl h
    · exact h.elim
  case return_ =>
    unfold pw1 at h
    dsimp only at h
    split at h
    · exact pEnds.ret hM he rfl h
    · exact h.elim
  all_goals exact False.elim h
theorem pwp_ok {MT : Nat → Option pM} {d M : Nat} {cs : List Nat} {Y : pY} {R : Option pV → pG → Prop} {mi : pM} (hM : MT M = some mi) : ∀ (n pc : Nat) (loc stk : List pV) (G : pG), pwp MT d M mi.1 cs Y R n pc loc stk G → pEnds MT d M Y R pc loc stk G := by
  intro n
  induction n with
  | zero => intro pc loc stk G h; exact h
  | succ n ih =>
    intro pc loc stk G h
    obtain ⟨e, he, h⟩ := k_op_f h
    refine pw1_sound hM (fun pc' loc' stk' G' hg => ?_) he h
    cases hc : pmem cs pc' with
    | true => rw [hc] at hg; exact hg
    | false => rw [hc] at hg; exact ih _ _ _ _ hg
/-- n steps of a method with the code t, not through the places cs -/
theorem pwp_go {MT : Nat → Option pM} {d M : Nat} (t : pT) (cs : List Nat) (n : Nat) {Y : pY} {R : Option pV → pG → Prop} {mL rc : Nat} (hM : MT M = some (t, mL, rc)) {pc : Nat} {loc stk : List pV} {G : pG} (h : pwp MT d M t cs Y R n pc loc stk G) : pEnds MT d M Y R pc loc stk G := pwp_ok (mi := (t, mL, rc)) hM n pc loc stk G h
theorem pRuns.of {MT : Nat → Option pM} {d m : Nat} {as : List pV} {Y : pY} {G G' : pG} {r : Option pV} {mi : pM} (hM : MT m = some mi) (h : pEnds MT d m Y (fun r' g => r' = r ∧ g = G') 0 (pent as mi.2.1) [] G) : pRuns MT d m as Y G r G' := by
  obtain ⟨f, r1, G1, h1, rfl, rfl⟩ := h
  exact ⟨mi, f, hM, h1⟩

