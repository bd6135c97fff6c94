theorem ptw_at {x : Int} {pc : Nat} {go : Nat → Prop} : ∀ {os : List Int} {lo : Int}, ptw x pc go lo os → lo ≤ x → ∃ off, pn os (x - lo).toNat = some off ∧ go ((pc : Int) + off).toNat := by
  intro os
  induction os with
  | nil => intro lo h _; exact h.elim
  | cons o os ih =>
    intro lo h hx
    by_cases e : x = lo
    · subst e
      refine ⟨o, ?_, h.1 rfl⟩
      rw [Int.sub_self]
      rfl
    · obtain ⟨off, h1, h2⟩ := ih (h.2 e) (by omega)
      refine ⟨off, ?_, h2⟩
      rw [show (x - lo).toNat = (x - (lo + 1)).toNat + 1 by omega]
      exact h1
theorem plw_at {x : Int} {pc : Nat} {d : Int} {go : Nat → Prop} : ∀ {ps : List (Int × Int)}, plw x pc d go ps → go ((pc : Int) + plks ps d x).toNat := by
  intro ps
  induction ps with
  | nil => intro h; exact h
  | cons p ps ih =>
    intro h
    obtain ⟨k, o⟩ := p
    unfold plks
    by_cases e : x = k
    · rw [if_pos e]; exact h.1 e
    · rw [if_neg e]; exact ih (h.2 e)
set_option maxHeartbeats 4000000 in
set_option maxRecDepth 20000 in
theorem pw1_sound {MT : Nat → Option pM} {d M : Nat} {Y : pY} {R : Option pV → pG → Prop} {go : Nat → List pV → List pV → pG → Prop} {mi : pM} (hM : MT M = some mi) (hgo : ∀ pc loc stk G, go pc loc stk G → pEnds MT d M Y R pc loc stk G) {e : pE} {pc : Nat} {loc stk : List pV} {G : pG} (he : plook mi.1 pc = some e) (h : pw1 MT d M Y R go e pc loc stk G) : pEnds MT d M Y R pc loc stk G := by
  obtain ⟨o, len, a, b, c⟩ := e
  cases o
  case iconst x => exact pEnds.nx hM he rfl (hgo _ _ _ _ h)
  case ldc2_w x => exact pEnds.nx hM he rfl (hgo _ _ _ _ h)
  case ldc x => exact pEnds.nx hM he rfl (hgo _ _ _ _ h)
  case goto x => exact pEnds.nx hM he rfl (hgo _ _ _ _ h)
  case iload i =>
    obtain ⟨x, hx, h⟩ := k_oi_f h
    exact pEnds.nx hM he (by simp only [pstep, hx, k_oi, pnx]) (hgo _ _ _ _ h)
  case lload i =>
    obtain ⟨x, hx, h⟩ := k_ol_f h
    exact pEnds.nx hM he (by simp only [pstep, hx, k_ol, pnx]) (hgo _ _ _ _ h)
  case aload i =>
    obtain ⟨x, hx, h⟩ := k_or_f h
    exact pEnds.nx hM he (by simp only [pstep, hx, k_or, pnx]) (hgo _ _ _ _ h)
  case istore i =>
    obtain ⟨x, st, rfl, h⟩ := k_i_f h
    obtain ⟨hb, h⟩ := bif_f h
    exact pEnds.nx hM he (by simp only [pstep, k_i, hb, cond_true, pnx]) (hgo _ _ _ _ (h x rfl))
  case lstore i =>
    obtain ⟨x, st, rfl, h⟩ := k_l_f h
    obtain ⟨hb, h⟩ := bif_f h
    exact pEnds.nx hM he (by simp only [pstep, k_l, hb, cond_true, pnx]) (hgo _ _ _ _ (h x rfl))
  case astore i =>
    obtain ⟨x, st, rfl, h⟩ := k_r_f h
    obtain ⟨hb, h⟩ := bif_f h
    exact pEnds.nx hM he (by simp only [pstep, k_r, hb, cond_true, pnx]) (hgo _ _ _ _ h)
  case iinc i k =>
    obtain ⟨x, hx, h⟩ := k_oi_f h
    exact pEnds.nx hM he (by simp only [pstep, hx, k_oi, pnx]) (hgo _ _ _ _ (h _ rfl))
  case iadd =>
    obtain ⟨x, y, st, rfl, h⟩ := k_ii_f h
    exact pEnds.nx hM he rfl (hgo _ _ _ _ h)
  case isub =>
    obtain ⟨x, y, st, rfl, h⟩ := k_ii_f h
    exact pEnds.nx hM he rfl (hgo _ _ _ _ h)
  case imul =>
    obtain ⟨x, y, st, rfl, h⟩ := k_ii_f h
    exact pEnds.nx hM he rfl (hgo _ _ _ _ h)
  case iand =>
    obtain ⟨x, y, st, rfl, h⟩ := k_ii_f h
    exact pEnds.nx hM he rfl (hgo _ _ _ _ h)
  case ior =>
    obtain ⟨x, y, st, rfl, h⟩ := k_ii_f h
    exact pEnds.nx hM he rfl (hgo _ _ _ _ h)
  case ixor =>
    obtain ⟨x, y, st, rfl, h⟩ := k_ii_f h
    exact pEnds.nx hM he rfl (hgo _ _ _ _ h)
  case ishl =>
    obtain ⟨x, y, st, rfl, h⟩ := k_ii_f h
    exact pEnds.nx hM he rfl (hgo _ _ _ _ h)
  case ishr =>
    obtain ⟨x, y, st, rfl, h⟩ := k_ii_f h
    exact pEnds.nx hM he rfl (hgo _ _ _ _ h)
  case iushr =>
    obtain ⟨x, y, st, rfl, h⟩ := k_ii_f h
    exact pEnds.nx hM he rfl (hgo _ _ _ _ h)
  case ladd =>
    obtain ⟨x, y, st, rfl, h⟩ := k_ll_f h
    exact pEnds.nx hM he rfl (hgo _ _ _ _ h)
  case lsub =>
    obtain ⟨x, y, st, rfl, h⟩ := k_ll_f h
    exact pEnds.nx hM he rfl (hgo _ _ _ _ h)
  case lmul =>
    obtain ⟨x, y, st, rfl, h⟩ := k_ll_f h
    exact pEnds.nx hM he rfl (hgo _ _ _ _ h)
  case land =>
    obtain ⟨x, y, st, rfl, h⟩ := k_ll_f h
    exact pEnds.nx hM he rfl (hgo _ _ _ _ h)
  case lor =>
    obtain ⟨x, y, st, rfl, h⟩ := k_ll_f h
    exact pEnds.nx hM he rfl (hgo _ _ _ _ h)
  case lcmp =>
    obtain ⟨x, y, st, rfl, h⟩ := k_ll_f h
    exact pEnds.nx hM he rfl (hgo _ _ _ _ h)
  case lshl =>
    obtain ⟨x, y, st, rfl, h⟩ := k_li_f h
    exact pEnds.nx hM he rfl (hgo _ _ _ _ h)
  case lshr =>
    obtain ⟨x, y, st, rfl, h⟩ := k_li_f h
    exact pEnds.nx hM he rfl (hgo _ _ _ _ h)
  case idiv =>
    obtain ⟨x, y, st, rfl, h1, h⟩ := k_ii_f h
    exact pEnds.nx hM he (if_neg h1) (hgo _ _ _ _ h)
  case irem =>
    obtain ⟨x, y, st, rfl, h1, h⟩ := k_ii_f h
    exact pEnds.nx hM he (if_neg h1) (hgo _ _ _ _ h)
  case ldiv =>
    obtain ⟨x, y, st, rfl, h1, h⟩ := k_ll_f h
    exact pEnds.nx hM he (if_neg h1) (hgo _ _ _ _ h)
  case lrem =>
    obtain ⟨x, y, st, rfl, h1, h⟩ := k_ll_f h
    exact pEnds.nx hM he (if_neg h1) (hgo _ _ _ _ h)
  case ineg =>
    obtain ⟨x, st, rfl, h⟩ := k_i_f h
    exact pEnds.nx hM he rfl (hgo _ _ _ _ h)
  case i2l =>
    obtain ⟨x, st, rfl, h⟩ := k_i_f h
    exact pEnds.nx hM he rfl (hgo _ _ _ _ h)
  case i2b =>
    obtain ⟨x, st, rfl, h⟩ := k_i_f h
    exact pEnds.nx hM he rfl (hgo _ _ _ _ h)
  case lneg =>
    obtain ⟨x, st, rfl, h⟩ := k_l_f h
    exact pEnds.nx hM he rfl (hgo _ _ _ _ h)
  case l2i =>
    obtain ⟨x, st, rfl, h⟩ := k_l_f h
    exact pEnds.nx hM he rfl (hgo _ _ _ _ h)
  case dup =>
    rcases stk with _ | ⟨x | x | x, st⟩
    · exact h.elim
    · exact pEnds.nx hM he rfl (hgo _ _ _ _ h)
    · exact h.elim
    · exact pEnds.nx hM he rfl (hgo _ _ _ _ h)
  case dup2 =>
    rcases stk with _ | ⟨x | x | x, _ | ⟨y | y | y, st⟩⟩ <;> first | exact False.elim h | exact pEnds.nx hM he rfl (hgo _ _ _ _ h)
  case ifCond cc off =>
    obtain ⟨x, st, rfl, h1, h2⟩ := k_i_f h
    cases hc : pcc cc x 0 with
    | true => exact pEnds.nx hM he (by simp only [pstep, k_i, hc, cond_true, pnx]) (hgo _ _ _ _ (h1 (pcP_t.mp hc)))
    | false => exact pEnds.nx hM he (by simp only [pstep, k_i, hc, cond_false, pnx]) (hgo _ _ _ _ (h2 (pcN_f.mp hc)))
  case if_icmp cc off =>
    obtain ⟨x, y, st, rfl, h1, h2⟩ := k_ii_f h
    cases hc : pcc cc x y with
    | true => exact pEnds.nx hM he (by simp only [pstep, k_ii, hc, cond_true, pnx]) (hgo _ _ _ _ (h1 (pcP_t.mp hc)))
    | false => exact pEnds.nx hM he (by simp only [pstep, k_ii, hc, cond_false, pnx]) (hgo _ _ _ _ (h2 (pcN_f.mp hc)))
  case tableswitch dflt lo hi offs =>
    obtain ⟨x, st, rfl, h1, h2⟩ := k_i_f h
    by_cases hx : x < lo ∨ hi < x
    · exact pEnds.nx hM he (if_pos hx) (hgo _ _ _ _ (h1 hx))
    · obtain ⟨off, ho, hq⟩ := ptw_at (h2 hx) (by omega)
      exact pEnds.nx hM he (by simp only [pstep, k_i, if_neg hx, ho, k_op, pnx]) (hgo _ _ _ _ hq)
  case lookupswitch dflt ps =>
    obtain ⟨x, st, rfl, h⟩ := k_i_f h
    exact pEnds.nx hM he rfl (hgo _ _ _ _ (plw_at h))
  case getfield i =>
    obtain ⟨r, st, rfl, h⟩ := k_r_f h
    obtain ⟨hb, h⟩ := bif_f h
    split at h
    · exact pEnds.nx hM he (by simp only [pstep, k_r, hb, cond_true, pnx]) (hgo _ _ _ _ h)
    · obtain ⟨q, hq, h⟩ := k_op_f h
      exact pEnds.nx hM he (by simp only [pstep, k_r, hb, cond_true, hq, k_op, pnx]) (hgo _ _ _ _ h)
    · rename_i n1 n2
      refine pEnds.nx hM he ?_ (hgo _ _ _ _ h)
      simp only [pstep, k_r, hb, cond_true]
      rfl
  case putfield i =>
    unfold pw1 at h
    dsimp only at h
    split at h
    · obtain ⟨r, x, st, rfl, h⟩ := k_ri_f h
      obtain ⟨hb, h⟩ := bif_f h
      exact pEnds.nx hM he (by simp only [pstep, k_ri, hb, cond_true, pnx]) (hgo _ _ _ _ h)
    · obtain ⟨r, x, st, rfl, h⟩ := k_rl_f h
      obtain ⟨hb, h⟩ := bif_f h
      exact pEnds.nx hM he (by simp only [pstep, k_rl, hb, cond_true, pnx]) (hgo _ _ _ _ h)
    · obtain ⟨r, x, st, rfl, h⟩ := k_ri_f h
      obtain ⟨hb, hx, h⟩ := bif_f h
      exact pEnds.nx hM he (by simp only [pstep, k_ri, hb, cond_true, if_pos hx, pnx]) (hgo _ _ _ _ h)
    · exact h.elim
  case iaload =>
    obtain ⟨r, i, st, rfl, h⟩ := k_ri_f h
    obtain ⟨hb, h1, h2, h⟩ := bif_f h
    exact pEnds.nx hM he (by simp only [pstep, k_ri, hb, cond_true, if_pos (And.intro h1 h2), pnx]) (hgo _ _ _ _ h)
  case faload =>
    obtain ⟨r, i, st, rfl, h⟩ := k_ri_f h
    obtain ⟨hb, h1, h2, h⟩ := bif_f h
    exact pEnds.nx hM he (by simp only [pstep, k_ri, hb, cond_true, if_pos (And.intro h1 h2), pnx]) (hgo _ _ _ _ h)
  case fastore =>
    obtain ⟨r, st, rfl, h⟩ := k_r_f h
    obtain ⟨hb, h⟩ := bif_f h
    exact pEnds.nx hM he (by simp only [pstep, k_r, hb, cond_true, pnx]) (hgo _ _ _ _ h)
  case laload =>
    obtain ⟨r, i, st, rfl, h⟩ := k_ri_f h
    obtain ⟨hb, h1, h2, h⟩ := bif_f h
    exact pEnds.nx hM he (by simp only [pstep, k_ri, hb, cond_true, if_pos (And.intro h1 h2), pnx]) (hgo _ _ _ _ h)
  case baload =>
    obtain ⟨r, i, st, rfl, h⟩ := k_ri_f h
    obtain ⟨hb, h1, h2, h⟩ := bif_f h
    exact pEnds.nx hM he (by simp only [pstep, k_ri, hb, cond_true, if_pos (And.intro h1 h2), pnx]) (hgo _ _ _ _ h)
  case aaload =>
    obtain ⟨r, i, st, rfl, h⟩ := k_ri_f h
    obtain ⟨hb, h1, h2, q, hq, h⟩ := bif_f h
    exact pEnds.nx hM he (by simp only [pstep, k_ri, hb, cond_true, if_pos (And.intro h1 h2), hq, k_op, pnx]) (hgo _ _ _ _ h)
  case iastore =>
    obtain ⟨r, i, x, st, rfl, h⟩ := k_rii_f h
    obtain ⟨hb, h1, h2, h⟩ := bif_f h
    exact pEnds.nx hM he (by simp only [pstep, k_rii, hb, cond_true, if_pos (And.intro h1 h2), pnx]) (hgo _ _ _ _ h)
  case bastore =>
    obtain ⟨r, i, x, st, rfl, h⟩ := k_rii_f h
    obtain ⟨hb, h1, h2, h⟩ := bif_f h
    exact pEnds.nx hM he (by simp only [pstep, k_rii, hb, cond_true, if_pos (And.intro h1 h2), pnx]) (hgo _ _ _ _ h)
  case lastore =>
    obtain ⟨r, i, x, st, rfl, h⟩ := k_ril_f h
    obtain ⟨hb, h1, h2, h⟩ := bif_f h
    exact pEnds.nx hM he (by simp only [pstep, k_ril, hb, cond_true, if_pos (And.intro h1 h2), pnx]) (hgo _ _ _ _ h)
  case arraylength =>
    obtain ⟨r, st, rfl, h⟩ := k_r_f h
    obtain ⟨hb, h⟩ := bif_f h
    exact pEnds.nx hM he (by simp only [pstep, k_r, hb, cond_true, pnx]) (hgo _ _ _ _ h)
  case invokestatic rc =>
    obtain ⟨⟨as, st⟩, hq, h⟩ := k_op_f h
    obtain ⟨hb, h⟩ := bif_f h
    have hs : pstep Y G (Instr.invokestatic rc, len, a, b, c) pc loc stk = some (.inr (.inl (a, as, st))) := by simp only [pstep, hq, k_op, hb, cond_true]
    split at h
    · obtain ⟨d', G', hd, hr, h⟩ := h
      exact pEnds.call hM he hs hd hr (hgo _ _ _ _ h)
    · obtain ⟨d', r, G', hd, hr, h⟩ := h
      exact pEnds.call hM he hs hd hr (hgo _ _ _ _ h)
    · obtain ⟨d', r, G', hd, hr, h⟩ := h
      exact pEnds.call hM he hs hd hr (hgo _ _ _ _ h)
  case f2d =>
    obtain ⟨x, y, st, rfl, h⟩ := k_ii_f h
    obtain ⟨hb, h⟩ := bif_f h
    exact pEnds.nx hM he (by simp only [pstep, k_ii, hb, cond_true, pnx]) (hgo _ _ _ _ h)
  case f2i =>
    obtain ⟨x, y, st, rfl, h⟩ := k_ii_f h
    obtain ⟨hb, h⟩ := bif_f h
    exact pEnds.nx hM he (by simp only [pstep, k_ii, hb, cond_true, pnx]) (hgo _ _ _ _ h)
  case d2i =>
    obtain ⟨x, y, st, rfl, h⟩ := k_ll_f h
    obtain ⟨hb, h⟩ := bif_f h
    exact pEnds.nx hM he (by simp only [pstep, k_ll, hb, cond_true, pnx]) (hgo _ _ _ _ h)
  case f2l =>
    obtain ⟨x, st, rfl, h⟩ := k_i_f h
    obtain ⟨hb, h⟩ := bif_f h
    exact pEnds.nx hM he (by simp only [pstep, k_i, hb, cond_true, pnx]) (hgo _ _ _ _ h)
  case d2f =>
    obtain ⟨x, st, rfl, h⟩ := k_l_f h
    obtain ⟨hb, h⟩ := bif_f h
    exact pEnds.nx hM he (by simp only [pstep, k_l, hb, cond_true, pnx]) (hgo _ _ _ _ h)
  case d2l =>
    obtain ⟨a0, sp, a1, dp, n, st, rfl, h⟩ := k_cp_f h
    obtain ⟨hb, h⟩ := bif_f h
    obtain ⟨hb2, hx, h⟩ := bif_f h
    exact pEnds.nx hM he (by simp only [pstep, k_cp, hb, hb2, cond_true, if_pos hx, pnx]) (hgo _ _ _ _ h)
  case daload =>
    obtain ⟨r, st, rfl, h⟩ := k_r_f h
    obtain ⟨hb, h⟩ := bif_f h
    obtain ⟨s, hq, h⟩ := k_op_f (o := pn pstr (r - 500)) h
    exact pEnds.nx hM he (by simp only [pstep, k_r, hb, cond_true, hq, k_op, pnx]) (hgo _ _ _ _ h)
  case dastore =>
    obtain ⟨r, i, st, rfl, h⟩ := k_ri_f h
    obtain ⟨hb, h⟩ := bif_f h
    obtain ⟨s, hq, h1, ch, hc, h⟩ := k_op_f (o := pn pstr (r - 500)) h
    exact pEnds.nx hM he (by simp only [pstep, k_ri, hb, cond_true, hq, k_op, if_pos h1, hc, pnx]) (hgo _ _ _ _ h)
  case ireturn =>
    unfold pw1 at h
    dsimp only at h
    split at h
    · rename_i x
      cases hc : (c == 3) with
      | true =>
        rw [hc] at h
        exact pEnds.ret hM he (by simp only [pstep, hc, cond_true, if_pos h.1]) h.2
      | false =>
        rw [hc] at h
        exact pEnds.ret hM he (by simp only [pstep, hc, cond_false]) h
    · exact h.elim
  case lreturn =>
    unfold pw1 at h
    dsimp only at h
    split at h
    · exact pEnds.ret hM he rfl h
    · exact h.elim
  case return_ =>
    unfold pw1 at h
    dsimp only at h
    split at h
    · exact pEnds.ret hM he rfl h
    · exact h.elim
  all_goals exact False.elim h
/-- the second knows what the first knows -/
def ple : List pV → List pV → Prop
  | [], [] => True
  | a :: l, b :: l' => (a = pU ∨ a = b) ∧ ple l l'
  | _, _ => False
theorem ple_refl : ∀ l : List pV, ple l l
  | [] => trivial
  | _ :: l => ⟨Or.inr rfl, ple_refl l⟩
theorem ple_mk : ∀ (m : List Bool) (l : List pV), ple (pmk m l) l
  | [], l => by unfold pmk; exact ple_refl l
  | true :: m, v :: l => ⟨Or.inr rfl, ple_mk m l⟩
  | false :: m, v :: l => ⟨Or.inl rfl, ple_mk m l⟩
  | true :: _, [] => trivial
  | false :: _, [] => trivial
theorem ple_pn : ∀ {l l' : List pV} (i : Nat), ple l l' → pn l i = none ∨ pn l i = some pU ∨ pn l' i = pn l i
  | [], [], i, _ => Or.inl rfl
  | a :: l, b :: l', 0, h => by
    rcases h.1 with e | e
    · subst e; exact Or.inr (Or.inl rfl)
    · subst e; exact Or.inr (Or.inr rfl)
  | a :: l, b :: l', i + 1, h => ple_pn (l := l) (l' := l') i h.2
theorem ple_lst (v : pV) : ∀ {l l' : List pV} (i : Nat), ple l l' → ple (plst l i v) (plst l' i v)
  | [], [], i, _ => trivial
  | a :: l, b :: l', 0, h => ⟨Or.inr rfl, h.2⟩
  | a :: l, b :: l', 1, h => by
    have h0 := ple_lst v 0 h.2
    rcases a with x | x | x <;> rcases b with y | y | y <;> first | exact ⟨Or.inl rfl, h0⟩ | exact ⟨h.1, h0⟩ | (rcases h.1 with e | e <;> first | exact ⟨Or.inl e, h0⟩ | cases e)
  | a :: l, b :: l', i + 2, h => by
    have h0 := ple_lst v (i + 1) h.2
    rcases a with x | x | x <;> rcases b with y | y | y <;> exact ⟨h.1, h0⟩
theorem ple_len : ∀ {l l' : List pV}, ple l l' → l.length = l'.length
  | [], [], _ => rfl
  | _ :: l, _ :: l', h => by rw [List.length_cons, List.length_cons, ple_len h.2]
theorem ple_lst2 (v : pV) {l l' : List pV} (i : Nat) (h : ple l l') : ple (plst2 l i v) (plst2 l' i v) := ple_lst v i (ple_lst pU (i + 1) h)
/-- what the first step comes to, the second comes to -/
def prel (o o' : Option pO) : Prop := ∀ r, o = some r → match r with
  | .inl (pc, l, stk, Y, G) => ∃ l', o' = some (.inl (pc, l', stk, Y, G)) ∧ ple l l'
  | .inr x => o' = some (.inr x)
theorem prel_n {o : Option pO} : prel none o := fun _ h => by cases h
theorem prel_x {Y : pY} {G : pG} {pc : Nat} {l l' stk : List pV} (h : ple l l') : prel (pnx Y G pc l stk) (pnx Y G pc l' stk) := fun r e => by cases e; exact ⟨l', rfl, h⟩
theorem prel_s {x : (Nat × List pV × List pV) ⊕ Option pV} : prel (some (.inr x)) (some (.inr x)) := fun r e => by cases e; rfl
theorem prel_if {c : Prop} [Decidable c] {a b a' b' : Option pO} (h1 : prel a a') (h2 : prel b b') : prel (if c then a else b) (if c then a' else b') := by split <;> assumption
theorem prel_bif {c : Bool} {a b a' b' : Option pO} (h1 : prel a a') (h2 : prel b b') : prel (bif c then a else b) (bif c then a' else b') := by cases c <;> assumption
theorem prel_op {β : Type} {o : Option β} {k k' : β → Option pO} (h : ∀ b, prel (k b) (k' b)) : prel (k_op o none k) (k_op o none k') := by cases o <;> first | exact prel_n | exact h _
theorem prel_i {stk : List pV} {k k' : Int → List pV → Option pO} (h : ∀ x0 x1, prel (k x0 x1) (k' x0 x1)) : prel (k_i stk none k) (k_i stk none k') := by
  unfold k_i; split
  · exact h _ _
  · exact prel_n
theorem prel_l {stk : List pV} {k k' : Int → List pV → Option pO} (h : ∀ x0 x1, prel (k x0 x1) (k' x0 x1)) : prel (k_l stk none k) (k_l stk none k') := by
  unfold k_l; split
  · exact h _ _
  · exact prel_n
theorem prel_r {stk : List pV} {k k' : Nat → List pV → Option pO} (h : ∀ x0 x1, prel (k x0 x1) (k' x0 x1)) : prel (k_r stk none k) (k_r stk none k') := by
  unfold k_r; split
  · exact h _ _
  · exact prel_n
theorem prel_ii {stk : List pV} {k k' : Int → Int → List pV → Option pO} (h : ∀ x0 x1 x2, prel (k x0 x1 x2) (k' x0 x1 x2)) : prel (k_ii stk none k) (k_ii stk none k') := by
  unfold k_ii; split
  · exact h _ _ _
  · exact prel_n
theorem prel_ll {stk : List pV} {k k' : Int → Int → List pV → Option pO} (h : ∀ x0 x1 x2, prel (k x0 x1 x2) (k' x0 x1 x2)) : prel (k_ll stk none k) (k_ll stk none k') := by
  unfold k_ll; split
  · exact h _ _ _
  · exact prel_n
theorem prel_li {stk : List pV} {k k' : Int → Int → List pV → Option pO} (h : ∀ x0 x1 x2, prel (k x0 x1 x2) (k' x0 x1 x2)) : prel (k_li stk none k) (k_li stk none k') := by
  unfold k_li; split
  · exact h _ _ _
  · exact prel_n
theorem prel_ri {stk : List pV} {k k' : Nat → Int → List pV → Option pO} (h : ∀ x0 x1 x2, prel (k x0 x1 x2) (k' x0 x1 x2)) : prel (k_ri stk none k) (k_ri stk none k') := by
  unfold k_ri; split
  · exact h _ _ _
  · exact prel_n
theorem prel_rl {stk : List pV} {k k' : Nat → Int → List pV → Option pO} (h : ∀ x0 x1 x2, prel (k x0 x1 x2) (k' x0 x1 x2)) : prel (k_rl stk none k) (k_rl stk none k') := by
  unfold k_rl; split
  · exact h _ _ _
  · exact prel_n
theorem prel_rr {stk : List pV} {k k' : Nat → Nat → List pV → Option pO} (h : ∀ x0 x1 x2, prel (k x0 x1 x2) (k' x0 x1 x2)) : prel (k_rr stk none k) (k_rr stk none k') := by
  unfold k_rr; split
  · exact h _ _ _
  · exact prel_n
theorem prel_rii {stk : List pV} {k k' : Nat → Int → Int → List pV → Option pO} (h : ∀ x0 x1 x2 x3, prel (k x0 x1 x2 x3) (k' x0 x1 x2 x3)) : prel (k_rii stk none k) (k_rii stk none k') := by
  unfold k_rii; split
  · exact h _ _ _ _
  · exact prel_n
theorem prel_ril {stk : List pV} {k k' : Nat → Int → Int → List pV → Option pO} (h : ∀ x0 x1 x2 x3, prel (k x0 x1 x2 x3) (k' x0 x1 x2 x3)) : prel (k_ril stk none k) (k_ril stk none k') := by
  unfold k_ril; split
  · exact h _ _ _ _
  · exact prel_n
theorem prel_cp {stk : List pV} {k k' : Nat → Int → Nat → Int → Int → List pV → Option pO} (h : ∀ x0 x1 x2 x3 x4 x5, prel (k x0 x1 x2 x3 x4 x5) (k' x0 x1 x2 x3 x4 x5)) : prel (k_cp stk none k) (k_cp stk none k') := by
  unfold k_cp; split
  · exact h _ _ _ _ _ _
  · exact prel_n
theorem prel_d {stk : List pV} {k k' : pV → List pV → Option pO} (h : ∀ v st, prel (k v st) (k' v st)) : prel (k_d stk none k) (k_d stk none k') := by
  unfold k_d k_c1; split
  · split
    · exact prel_n
    · exact h _ _
  · exact prel_n
theorem prel_d2 {stk : List pV} {k k' : pV → pV → List pV → Option pO} (h : ∀ v w st, prel (k v w st) (k' v w st)) : prel (k_d2 stk none k) (k_d2 stk none k') := by
  unfold k_d2 k_c1; split
  · split
    · exact prel_n
    · split
      · exact prel_n
      · exact h _ _ _
  · exact prel_n
theorem prel_oi {l l' : List pV} {i : Nat} {k k' : Int → Option pO} (hl : ple l l') (h : ∀ x, prel (k x) (k' x)) : prel (k_oi (pn l i) none k) (k_oi (pn l' i) none k') := by
  rcases ple_pn i hl with e | e | e
  · rw [e]; exact prel_n
  · rw [e]; exact prel_n
  · rw [e]; unfold k_oi; split
    · exact h _
    · exact prel_n
theorem prel_ol {l l' : List pV} {i : Nat} {k k' : Int → Option pO} (hl : ple l l') (h : ∀ x, prel (k x) (k' x)) : prel (k_ol (pn l i) none k) (k_ol (pn l' i) none k') := by
  rcases ple_pn i hl with e | e | e
  · rw [e]; exact prel_n
  · rw [e]; exact prel_n
  · rw [e]; unfold k_ol; split
    · exact h _
    · exact prel_n
theorem prel_or {l l' : List pV} {i : Nat} {k k' : Nat → Option pO} (hl : ple l l') (h : ∀ x, prel (k x) (k' x)) : prel (k_or (pn l i) none k) (k_or (pn l' i) none k') := by
  rcases ple_pn i hl with e | e | e
  · rw [e]; exact prel_n
  · rw [e]; exact prel_n
  · rw [e]; unfold k_or; split
    · exact h _
    · exact prel_n
set_option maxHeartbeats 4000000 in
set_option maxRecDepth 20000 in
theorem prel_step {Y : pY} {G : pG} {e : pE} {pc : Nat} {l l' stk : List pV} (hl : ple l l') : prel (pstep Y G e pc l stk) (pstep Y G e pc l' stk) := by
  obtain ⟨o, len, a, b, c⟩ := e
  cases o
  case iconst x => exact prel_x hl
  case ldc2_w x => exact prel_x hl
  case ldc x => exact prel_x hl
  case goto x => exact prel_x hl
  case new x => exact prel_bif (prel_x hl) prel_n
  case faload => exact prel_ri (fun _ _ _ => prel_bif (prel_if (prel_x hl) prel_n) prel_n)
  case fastore => exact prel_r (fun _ _ => prel_bif (prel_x hl) prel_n)
  case iload i => exact prel_oi hl (fun _ => prel_x hl)
  case lload i => exact prel_ol hl (fun _ => prel_x hl)
  case aload i => exact prel_or hl (fun _ => prel_x hl)
  case istore i => exact prel_i (fun _ _ => by rw [ple_len hl]; exact prel_bif (prel_x (ple_lst _ i hl)) prel_n)
  case lstore i => exact prel_l (fun _ _ => by rw [ple_len hl]; exact prel_bif (prel_x (ple_lst2 _ i hl)) prel_n)
  case astore i => exact prel_r (fun _ _ => by rw [ple_len hl]; exact prel_bif (prel_x (ple_lst _ i hl)) prel_n)
  case iinc i k => exact prel_oi hl (fun _ => prel_x (ple_lst _ i hl))
  case iadd => exact prel_ii (fun _ _ _ => prel_x hl)
  case isub => exact prel_ii (fun _ _ _ => prel_x hl)
  case imul => exact prel_ii (fun _ _ _ => prel_x hl)
  case iand => exact prel_ii (fun _ _ _ => prel_x hl)
  case ior => exact prel_ii (fun _ _ _ => prel_x hl)
  case ixor => exact prel_ii (fun _ _ _ => prel_x hl)
  case ishl => exact prel_ii (fun _ _ _ => prel_x hl)
  case ishr => exact prel_ii (fun _ _ _ => prel_x hl)
  case iushr => exact prel_ii (fun _ _ _ => prel_x hl)
  case ladd => exact prel_ll (fun _ _ _ => prel_x hl)
  case lsub => exact prel_ll (fun _ _ _ => prel_x hl)
  case lmul => exact prel_ll (fun _ _ _ => prel_x hl)
  case land => exact prel_ll (fun _ _ _ => prel_x hl)
  case lor => exact prel_ll (fun _ _ _ => prel_x hl)
  case lcmp => exact prel_ll (fun _ _ _ => prel_x hl)
  case lshl => exact prel_li (fun _ _ _ => prel_x hl)
  case lshr => exact prel_li (fun _ _ _ => prel_x hl)
  case idiv => exact prel_ii (fun _ _ _ => prel_if prel_n (prel_x hl))
  case irem => exact prel_ii (fun _ _ _ => prel_if prel_n (prel_x hl))
  case ldiv => exact prel_ll (fun _ _ _ => prel_if prel_n (prel_x hl))
  case lrem => exact prel_ll (fun _ _ _ => prel_if prel_n (prel_x hl))
  case ineg => exact prel_i (fun _ _ => prel_x hl)
  case i2l => exact prel_i (fun _ _ => prel_x hl)
  case i2b => exact prel_i (fun _ _ => prel_x hl)
  case lneg => exact prel_l (fun _ _ => prel_x hl)
  case l2i => exact prel_l (fun _ _ => prel_x hl)
  case dup => exact prel_d (fun _ _ => prel_x hl)
  case dup2 => exact prel_d2 (fun _ _ _ => prel_x hl)
  case ifCond cc off => exact prel_i (fun _ _ => prel_bif (prel_x hl) (prel_x hl))
  case if_icmp cc off => exact prel_ii (fun _ _ _ => prel_bif (prel_x hl) (prel_x hl))
  case tableswitch dflt lo hi offs => exact prel_i (fun _ _ => prel_if (prel_x hl) (prel_op (fun _ => prel_x hl)))
  case lookupswitch dflt ps => exact prel_i (fun _ _ => prel_x hl)
  case getfield i => exact prel_r (fun _ _ => prel_bif (by
    split
    · exact prel_x hl
    · exact prel_op (fun _ => prel_x hl)
    · exact prel_x hl) prel_n)
  case putfield i =>
    unfold pstep
    dsimp only
    split
    · exact prel_ri (fun _ _ _ => prel_bif (prel_x hl) prel_n)
    · exact prel_rl (fun _ _ _ => prel_bif (prel_x hl) prel_n)
    · exact prel_ri (fun _ _ _ => prel_bif (prel_if (prel_x hl) prel_n) prel_n)
    · exact prel_rr (fun _ _ _ => prel_bif (prel_x hl) prel_n)
  case iaload => exact prel_ri (fun _ _ _ => prel_bif (prel_if (prel_x hl) prel_n) prel_n)
  case laload => exact prel_ri (fun _ _ _ => prel_bif (prel_if (prel_x hl) prel_n) prel_n)
  case baload => exact prel_ri (fun _ _ _ => prel_bif (prel_if (prel_x hl) prel_n) prel_n)
  case aaload => exact prel_ri (fun _ _ _ => prel_bif (prel_if (prel_op (fun _ => prel_x hl)) prel_n) prel_n)
  case iastore => exact prel_rii (fun _ _ _ _ => prel_bif (prel_if (prel_x hl) prel_n) prel_n)
  case bastore => exact prel_rii (fun _ _ _ _ => prel_bif (prel_if (prel_x hl) prel_n) prel_n)
  case lastore => exact prel_ril (fun _ _ _ _ => prel_bif (prel_if (prel_x hl) prel_n) prel_n)
  case arraylength => exact prel_r (fun _ _ => prel_bif (prel_x hl) prel_n)
  case invokestatic rc => exact prel_op (fun _ => prel_bif prel_s prel_n)
  case pop => exact prel_r (fun _ _ => prel_bif (prel_x hl) prel_n)
  case f2d => exact prel_ii (fun _ _ _ => prel_bif (prel_x hl) prel_n)
  case f2i => exact prel_ii (fun _ _ _ => prel_bif (prel_x hl) prel_n)
  case d2i => exact prel_ll (fun _ _ _ => prel_bif (prel_x hl) prel_n)
  case f2l => exact prel_i (fun _ _ => prel_bif (prel_x hl) prel_n)
  case d2f => exact prel_l (fun _ _ => prel_bif (prel_x hl) prel_n)
  case d2l => exact prel_cp (fun _ _ _ _ _ _ => prel_bif (prel_bif (prel_if (prel_x hl) prel_n) prel_n) prel_n)
  case daload => exact prel_r (fun _ _ => prel_bif (prel_op (fun _ => prel_x hl)) prel_n)
  case dastore => exact prel_ri (fun _ _ _ => prel_bif (prel_op (fun _ => prel_if (prel_op (fun _ => prel_x hl)) prel_n)) prel_n)
  case newarray t => exact prel_i (fun _ _ => prel_if (prel_x hl) prel_n)
  case multianewarray i n => exact prel_ii (fun _ _ _ => prel_if (prel_x hl) prel_n)
  case ireturn =>
    unfold pstep
    dsimp only
    split
    · exact prel_bif (prel_if prel_s prel_n) prel_s
    · exact prel_n
  case lreturn =>
    unfold pstep
    dsimp only
    split
    · exact prel_s
    · exact prel_n
  case return_ =>
    unfold pstep
    dsimp only
    split
    · exact prel_s
    · exact prel_n
  all_goals exact prel_n
theorem pexec_more (MT : Nat → Option pM) : ∀ (f d M pc : Nat) (l l' stk : List pV) (Y : pY) (G : pG) (r : Option pV × pY × pG), ple l l' → pexec MT f d M pc l stk Y G = some r → pexec MT f d M pc l' stk Y G = some r := by
  intro f
  induction f with
  | zero => intro d M pc l l' stk Y G r _ h; exact absurd h (by simp [pexec])
  | succ f ih =>
    intro d M pc l l' stk Y G r hl h
    rw [pexec] at h ⊢
    cases hM : MT M with
    | none => rw [hM] at h; exact absurd h (by simp)
    | some mi =>
      rw [hM] at h
      dsimp only at h ⊢
      cases hk : plook mi.1 pc with
      | none => rw [hk] at h; exact absurd h (by simp)
      | some e =>
        rw [hk] at h
        dsimp only at h ⊢
        have hp := prel_step (Y := Y) (G := G) (e := e) (pc := pc) (stk := stk) hl
        rcases hs : pstep Y G e pc l stk with _ | (⟨pc', loc', stk', Y', G'⟩ | ⟨m, as, st⟩ | r')
        · rw [hs] at h; exact absurd h (by simp)
        · rw [hs] at h
          obtain ⟨l2, h2, h3⟩ := hp _ hs
          rw [h2]
          exact ih _ _ _ _ _ _ _ _ _ h3 h
        · rw [hs] at h
          have h2 : pstep Y G e pc l' stk = some (.inr (.inl (m, as, st))) := hp _ hs
          rw [h2]
          dsimp only at h ⊢
          cases d with
          | zero => exact absurd h (by simp)
          | succ d' =>
            dsimp only at h ⊢
            cases hm : MT m with
            | none => rw [hm] at h; exact absurd h (by simp)
            | some mc =>
              rw [hm] at h
              dsimp only at h ⊢
              cases hk2 : Nat.ble (pcat as) mc.2.1 with
              | false => rw [hk2] at h; cases h
              | true =>
              rw [hk2] at h
              dsimp only [cond_true] at h ⊢
              cases hc : pexec MT f d' m 0 (pent as mc.2.1) [] Y G with
              | none => rw [hc] at h; exact absurd h (by simp)
              | some q =>
                obtain ⟨r1, Y1, G1⟩ := q
                rw [hc] at h
                exact ih _ _ _ _ _ _ _ _ _ hl h
        · rw [hs] at h
          have h2 : pstep Y G e pc l' stk = some (.inr (.inr r')) := hp _ hs
          rw [h2]
          exact h
theorem pEnds.more {MT : Nat → Option pM} {d M : Nat} {Y : pY} {R : Option pV → pG → Prop} {pc : Nat} {l l' stk : List pV} {G : pG} (hl : ple l l') (h : pEnds MT d M Y R pc l stk G) : pEnds MT d M Y R pc l' stk G := by
  obtain ⟨f, r, G', h1, h2⟩ := h
  exact ⟨f, r, G', pexec_more MT _ _ _ _ _ _ _ _ _ _ hl h1, h2⟩
theorem pwp_ok {MT : Nat → Option pM} {d M : Nat} {cs : List (Nat × List Bool)} {Y : pY} {R : Option pV → pG → Prop} {mi : pM} (hM : MT M = some mi) : ∀ (n pc : Nat) (loc stk : List pV) (G : pG), pwp MT d M mi.1 cs Y R n pc loc stk G → pEnds MT d M Y R pc loc stk G := by
  intro n
  induction n with
  | zero => intro pc loc stk G h; exact h
  | succ n ih =>
    intro pc loc stk G h
    obtain ⟨e, he, h⟩ := k_op_f h
    refine pw1_sound hM (fun pc' loc' stk' G' hg => ?_) he h
    cases hc : pcut cs pc' with
    | some m => rw [hc] at hg; exact pEnds.more (ple_mk m loc') hg
    | none => rw [hc] at hg; exact ih _ _ _ _ hg
/-- n steps of a method with the code t, not through the places cs -/
theorem pwp_go {MT : Nat → Option pM} {d M : Nat} (t : pT) (cs : List (Nat × List Bool)) (n : Nat) {Y : pY} {R : Option pV → pG → Prop} {mL rc : Nat} (hM : MT M = some (t, mL, rc)) {pc : Nat} {loc stk : List pV} {G : pG} (h : pwp MT d M t cs Y R n pc loc stk G) : pEnds MT d M Y R pc loc stk G := pwp_ok (mi := (t, mL, rc)) hM n pc loc stk G h

theorem pRuns.of {MT : Nat → Option pM} {d m : Nat} {as : List pV} {Y : pY} {G G' : pG} {r : Option pV} {mi : pM} (hM : MT m = some mi) (hk : Nat.ble (pcat as) mi.2.1 = true) (h : pEnds MT d m Y (fun r' g => r' = r ∧ g = G') 0 (pent as mi.2.1) [] G) : pRuns MT d m as Y G r G' := by
  obtain ⟨f, r1, G1, h1, rfl, rfl⟩ := h
  exact ⟨mi, f, hM, hk, h1⟩

