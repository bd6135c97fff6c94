/-! SIM: the kit's machine does what the pure machine does. -/
/-- same addresses, place by place -/
def aS (ws ws' : va_W) : Prop := ∀ (a q : Nat) (e : va_E), ws[a]? = some (q, e) → ∃ e', ws'[a]? = some (q, e')
theorem aS.rf (ws : va_W) : aS ws ws := fun _ _ e h => ⟨e, h⟩
theorem aS.tr {w1 w2 w3 : va_W} (h : aS w1 w2) (h2 : aS w2 w3) : aS w1 w3 := fun a q e he => by
  obtain ⟨e1, h1⟩ := h a q e he
  exact h2 a q e1 h1
theorem aS.set {ws : va_W} {i a : Nat} {e e' : va_E} (h : ws[i]? = some (a, e)) : aS ws (ws.set i (a, e')) := fun b q x hb => by
  have hl := (List.getElem?_eq_some_iff.mp h).1
  by_cases hbi : b = i
  · subst hbi
    rw [h] at hb
    cases hb
    exact ⟨e', List.getElem?_set_self hl⟩
  · exact ⟨x, by rw [List.getElem?_set_ne (Ne.symm hbi)]; exact hb⟩
theorem aS.app (ws w2 : va_W) : aS ws (ws ++ w2) := fun b q x hb => ⟨x, by rw [List.getElem?_append_left (List.getElem?_eq_some_iff.mp hb).1]; exact hb⟩
/-- values; sx: the addresses of what lies outside the world (the script, the strings) -/
def vR (ws : va_W) (sx : Nat → Option Nat) (v : pV) (w : Value) : Prop := match v with
  | .inl x => ∃ y : Int32, w = .int y ∧ y.toInt = x
  | .inr (.inl x) => ∃ y : Int64, w = .long y ∧ y.toInt = x
  | .inr (.inr (some a)) => ∃ q : Nat, w = .ref q ∧ ((∃ e, ws[a]? = some (q, e)) ∨ (499 ≤ a ∧ sx a = some q))
  | .inr (.inr none) => False
theorem vR.mv {ws ws' : va_W} {sx : Nat → Option Nat} {v : pV} {w : Value} (hs : aS ws ws') (h : vR ws sx v w) : vR ws' sx v w := by
  rcases v with x | x | _ | a
  · exact h
  · exact h
  · exact h
  · obtain ⟨q, h1, h2⟩ := h
    refine ⟨q, h1, ?_⟩
    rcases h2 with ⟨e, h2⟩ | h2
    · exact Or.inl (hs a q e h2)
    · exact Or.inr h2
def sR (ws : va_W) (sx : Nat → Option Nat) : List pV → List Value → Prop
  | [], [] => True
  | v :: l, w :: m => vR ws sx v w ∧ sR ws sx l m
  | _, _ => False
theorem sR.mv {ws ws' : va_W} {sx : Nat → Option Nat} (hs : aS ws ws') : ∀ {l : List pV} {m : List Value}, sR ws sx l m → sR ws' sx l m
  | [], [], _ => trivial
  | _ :: _, _ :: _, h => ⟨h.1.mv hs, sR.mv hs h.2⟩
theorem sR_n {ws : va_W} {sx : Nat → Option Nat} {m : List Value} (h : sR ws sx [] m) : m = [] := by
  cases m with
  | nil => rfl
  | cons _ _ => exact h.elim
theorem sR_c {ws : va_W} {sx : Nat → Option Nat} {v : pV} {l : List pV} {m : List Value} (h : sR ws sx (v :: l) m) : ∃ w m', m = w :: m' ∧ vR ws sx v w ∧ sR ws sx l m' := by
  cases m with
  | nil => exact h.elim
  | cons w m => exact ⟨w, m, rfl, h.1, h.2⟩
theorem sR_i {ws : va_W} {sx : Nat → Option Nat} {x : Int} {l : List pV} {m : List Value} (h : sR ws sx (.inl x :: l) m) : ∃ (y : Int32) (m' : List Value), m = .int y :: m' ∧ y.toInt = x ∧ sR ws sx l m' := by
  obtain ⟨w, m', rfl, ⟨y, rfl, h1⟩, h2⟩ := sR_c h
  exact ⟨y, m', rfl, h1, h2⟩
theorem sR_l {ws : va_W} {sx : Nat → Option Nat} {x : Int} {l : List pV} {m : List Value} (h : sR ws sx (.inr (.inl x) :: l) m) : ∃ (y : Int64) (m' : List Value), m = .long y :: m' ∧ y.toInt = x ∧ sR ws sx l m' := by
  obtain ⟨w, m', rfl, ⟨y, rfl, h1⟩, h2⟩ := sR_c h
  exact ⟨y, m', rfl, h1, h2⟩
theorem sR_r {ws : va_W} {sx : Nat → Option Nat} {a : Nat} {l : List pV} {m : List Value} (h : sR ws sx (.inr (.inr (some a)) :: l) m) : ∃ (q : Nat) (m' : List Value), m = .ref q :: m' ∧ ((∃ e, ws[a]? = some (q, e)) ∨ (499 ≤ a ∧ sx a = some q)) ∧ sR ws sx l m' := by
  obtain ⟨w, m', rfl, ⟨y, rfl, h1⟩, h2⟩ := sR_c h
  exact ⟨y, m', rfl, h1, h2⟩
theorem sR.cat {ws : va_W} {sx : Nat → Option Nat} : ∀ {l : List pV} {m : List Value}, sR ws sx l m → (m.map fun v => v.category).sum = pcat l
  | [], [], _ => rfl
  | v :: l, w :: m, h => by
    have ih := sR.cat h.2
    rw [List.map_cons, List.sum_cons, ih]
    rcases v with x | x | _ | a
    · obtain ⟨y, rfl, -⟩ := h.1; rfl
    · obtain ⟨y, rfl, -⟩ := h.1; rfl
    · exact h.1.elim
    · obtain ⟨y, rfl, -⟩ := h.1; rfl
/-- locals -/
def lR (ws : va_W) (sx : Nat → Option Nat) (nL : Nat) (loc : List pV) (ls : Array Slot) : Prop := ls.size = nL ∧ lv_wf ls ∧ loc.length ≤ nL ∧ ∀ (i : Nat) (v : pV), pn loc i = some v → v = pU ∨ ∃ w, ls[i]? = some (.val w) ∧ vR ws sx v w
theorem lR.mv {ws ws' : va_W} {sx : Nat → Option Nat} {nL : Nat} {loc : List pV} {ls : Array Slot} (hs : aS ws ws') (h : lR ws sx nL loc ls) : lR ws' sx nL loc ls := ⟨h.1, h.2.1, h.2.2.1, fun i v hv => by
  rcases h.2.2.2 i v hv with e | ⟨w, h1, h2⟩
  · exact Or.inl e
  · exact Or.inr ⟨w, h1, h2.mv hs⟩⟩
theorem lR.at {ws : va_W} {sx : Nat → Option Nat} {nL : Nat} {loc : List pV} {ls : Array Slot} (h : lR ws sx nL loc ls) {i : Nat} {v : pV} (hv : pn loc i = some v) (hu : v ≠ pU) : ∃ w, ls[i]? = some (.val w) ∧ vR ws sx v w := by
  rcases h.2.2.2 i v hv with e | h
  · exact absurd e hu
  · exact h
theorem pn_lt {α : Type} : ∀ {l : List α} {i : Nat} {a : α}, pn l i = some a → i < l.length
  | [], _, _, h => by cases h
  | _ :: l, 0, _, _ => by rw [List.length_cons]; omega
  | _ :: l, i + 1, a, h => by
    have := pn_lt (l := l) (i := i) h
    rw [List.length_cons]; omega
theorem plst_len (v : pV) : ∀ (l : List pV) (i : Nat), (plst l i v).length = l.length
  | [], _ => rfl
  | _ :: _, 0 => rfl
  | a :: l, 1 => by
    have h0 := plst_len v l 0
    rcases a with x | x | x <;> simp only [plst, List.length_cons, h0]
  | a :: l, i + 2 => by
    have h0 := plst_len v l (i + 1)
    rcases a with x | x | x <;> simp only [plst, List.length_cons, h0]
/-- what stands behind a store -/
theorem plst_at (v : pV) : ∀ (l : List pV) (i j : Nat) (w : pV), pn (plst l i v) j = some w → (j = i ∧ w = v) ∨ w = pU ∨ (j ≠ i ∧ pn l j = some w ∧ (j + 1 = i → ∀ x, w ≠ pL x))
  | [], _, _, _, h => by cases h
  | a :: l, 0, 0, w, h => by cases h; exact Or.inl ⟨rfl, rfl⟩
  | a :: l, 0, j + 1, w, h => Or.inr (Or.inr ⟨by omega, h, fun e => by omega⟩)
  | a :: l, 1, 0, w, h => by
    rcases a with x | x | x
    · cases h; exact Or.inr (Or.inr ⟨by omega, rfl, fun _ y e => by cases e⟩)
    · cases h; exact Or.inr (Or.inl rfl)
    · cases h; exact Or.inr (Or.inr ⟨by omega, rfl, fun _ y e => by cases e⟩)
  | a :: l, 1, j + 1, w, h => by
    have h2 : pn (plst l 0 v) j = some w := by rcases a with x | x | x <;> exact h
    rcases plst_at v l 0 j w h2 with ⟨e, e2⟩ | e | ⟨e, e2, e3⟩
    · exact Or.inl ⟨by omega, e2⟩
    · exact Or.inr (Or.inl e)
    · exact Or.inr (Or.inr ⟨by omega, e2, fun q => by omega⟩)
  | a :: l, i + 2, 0, w, h => by
    have h2 : some a = some w := by rcases a with x | x | x <;> exact h
    exact Or.inr (Or.inr ⟨by omega, h2, fun q => by omega⟩)
  | a :: l, i + 2, j + 1, w, h => by
    have h2 : pn (plst l (i + 1) v) j = some w := by rcases a with x | x | x <;> exact h
    rcases plst_at v l (i + 1) j w h2 with ⟨e, e2⟩ | e | ⟨e, e2, e3⟩
    · exact Or.inl ⟨by omega, e2⟩
    · exact Or.inr (Or.inl e)
    · exact Or.inr (Or.inr ⟨by omega, e2, fun q => e3 (by omega)⟩)
theorem vR.cat1 {ws : va_W} {sx : Nat → Option Nat} {v : pV} {w : Value} (h : vR ws sx v w) (hv : ∀ x, v ≠ pL x) : w.category = 1 := by
  rcases v with x | x | _ | a
  · obtain ⟨y, rfl, -⟩ := h; rfl
  · exact absurd rfl (hv x)
  · exact h.elim
  · obtain ⟨y, rfl, -⟩ := h; rfl
/-- a store of one word -/
theorem lR.st1 {ws : va_W} {sx : Nat → Option Nat} {nL : Nat} {loc : List pV} {ls ls' : Array Slot} {i : Nat} {v : pV} {w : Value} (h : lR ws sx nL loc ls) (hi : i < loc.length) (hc : w.category = 1) (hs : storeLocals ls i w = some ls') (hv : vR ws sx v w) : lR ws sx nL (plst loc i v) ls' := by
  obtain ⟨h1, h2, h3, h4⟩ := h
  have hb : ∀ l, lv_has ls nL l → lv_has ls' nL ((i, w) :: l.filter (fun q => !(q.1 == i) && !(q.1 + 1 == i && q.2.category == 2))) := fun l hl => by
    obtain ⟨l2, e2, h2⟩ := lv_store1 (v := w) hl (show i < nL by omega) hc
    rw [hs] at e2
    cases e2
    exact h2
  have h0 := hb [] ⟨h1, h2, fun _ hq => by cases hq⟩
  refine ⟨h0.1, h0.2.1, by rw [plst_len]; exact h3, fun j u hu => ?_⟩
  rcases plst_at v loc i j u hu with ⟨e, e2⟩ | e | ⟨e, e2, e3⟩
  · subst e; subst e2
    exact Or.inr ⟨w, h0.2.2 (j, w) List.mem_cons_self, hv⟩
  · exact Or.inl e
  · rcases h4 j u e2 with e4 | ⟨w2, g1, g2⟩
    · exact Or.inl e4
    · refine Or.inr ⟨w2, ?_, g2⟩
      refine (hb [(j, w2)] ⟨h1, h2, fun q hq => by rw [List.mem_singleton.mp hq]; exact g1⟩).2.2 (j, w2) (List.mem_cons_of_mem _ (List.mem_filter.mpr ⟨List.mem_singleton.mpr rfl, ?_⟩))
      by_cases hj : j + 1 = i
      · have := g2.cat1 (e3 hj)
        simp [e, this]
      · simp [e, hj]
/-- a store of two words -/
theorem lR.st2 {ws : va_W} {sx : Nat → Option Nat} {nL : Nat} {loc : List pV} {ls ls' : Array Slot} {i : Nat} {v : pV} {w : Value} (h : lR ws sx nL loc ls) (hi : i + 1 < loc.length) (hc : w.category = 2) (hs : storeLocals ls i w = some ls') (hv : vR ws sx v w) : lR ws sx nL (plst2 loc i v) ls' := by
  obtain ⟨h1, h2, h3, h4⟩ := h
  have hb : ∀ l, lv_has ls nL l → lv_has ls' nL ((i, w) :: l.filter (fun q => !(q.1 == i) && (!(q.1 == i + 1) && !(q.1 + 1 == i && q.2.category == 2)))) := fun l hl => by
    obtain ⟨l2, e2, h2⟩ := lv_store2 (v := w) hl (show i + 1 < nL by omega) hc
    rw [hs] at e2
    cases e2
    exact h2
  have h0 := hb [] ⟨h1, h2, fun _ hq => by cases hq⟩
  refine ⟨h0.1, h0.2.1, by unfold plst2; rw [plst_len, plst_len]; exact h3, fun j u hu => ?_⟩
  unfold plst2 at hu
  rcases plst_at v _ i j u hu with ⟨e, e2⟩ | e | ⟨e, e2, e3⟩
  · subst e; subst e2
    exact Or.inr ⟨w, h0.2.2 (j, w) List.mem_cons_self, hv⟩
  · exact Or.inl e
  · rcases plst_at pU loc (i + 1) j u e2 with ⟨f, f2⟩ | f | ⟨f, f2, f3⟩
    · exact Or.inl f2
    · exact Or.inl f
    · rcases h4 j u f2 with e4 | ⟨w2, g1, g2⟩
      · exact Or.inl e4
      · refine Or.inr ⟨w2, ?_, g2⟩
        refine (hb [(j, w2)] ⟨h1, h2, fun q hq => by rw [List.mem_singleton.mp hq]; exact g1⟩).2.2 (j, w2) (List.mem_cons_of_mem _ (List.mem_filter.mpr ⟨List.mem_singleton.mpr rfl, ?_⟩))
        by_cases hj : j + 1 = i
        · have := g2.cat1 (e3 hj)
          simp [e, f, this]
        · simp [e, f, hj]

theorem k_i_s {stk : List pV} {k : Int → List pV → Option pO} {z : pO} (h : k_i stk none k = some z) : ∃ (x : Int) (st : List pV), stk = .inl x :: st ∧ k x st = some z := by
  unfold k_i at h; split at h
  · exact ⟨_, _, rfl, h⟩
  · cases h
theorem k_l_s {stk : List pV} {k : Int → List pV → Option pO} {z : pO} (h : k_l stk none k = some z) : ∃ (x : Int) (st : List pV), stk = .inr (.inl x) :: st ∧ k x st = some z := by
  unfold k_l at h; split at h
  · exact ⟨_, _, rfl, h⟩
  · cases h
theorem k_r_s {stk : List pV} {k : Nat → List pV → Option pO} {z : pO} (h : k_r stk none k = some z) : ∃ (x : Nat) (st : List pV), stk = .inr (.inr (some x)) :: st ∧ k x st = some z := by
  unfold k_r at h; split at h
  · exact ⟨_, _, rfl, h⟩
  · cases h
theorem k_ii_s {stk : List pV} {k : Int → Int → List pV → Option pO} {z : pO} (h : k_ii stk none k = some z) : ∃ (x : Int) (y : Int) (st : List pV), stk = .inl y :: .inl x :: st ∧ k x y st = some z := by
  unfold k_ii at h; split at h
  · exact ⟨_, _, _, rfl, h⟩
  · cases h
theorem k_ll_s {stk : List pV} {k : Int → Int → List pV → Option pO} {z : pO} (h : k_ll stk none k = some z) : ∃ (x : Int) (y : Int) (st : List pV), stk = .inr (.inl y) :: .inr (.inl x) :: st ∧ k x y st = some z := by
  unfold k_ll at h; split at h
  · exact ⟨_, _, _, rfl, h⟩
  · cases h
theorem k_li_s {stk : List pV} {k : Int → Int → List pV → Option pO} {z : pO} (h : k_li stk none k = some z) : ∃ (x : Int) (y : Int) (st : List pV), stk = .inl y :: .inr (.inl x) :: st ∧ k x y st = some z := by
  unfold k_li at h; split at h
  · exact ⟨_, _, _, rfl, h⟩
  · cases h
theorem k_ri_s {stk : List pV} {k : Nat → Int → List pV → Option pO} {z : pO} (h : k_ri stk none k = some z) : ∃ (x : Nat) (y : Int) (st : List pV), stk = .inl y :: .inr (.inr (some x)) :: st ∧ k x y st = some z := by
  unfold k_ri at h; split at h
  · exact ⟨_, _, _, rfl, h⟩
  · cases h
theorem k_rl_s {stk : List pV} {k : Nat → Int → List pV → Option pO} {z : pO} (h : k_rl stk none k = some z) : ∃ (x : Nat) (y : Int) (st : List pV), stk = .inr (.inl y) :: .inr (.inr (some x)) :: st ∧ k x y st = some z := by
  unfold k_rl at h; split at h
  · exact ⟨_, _, _, rfl, h⟩
  · cases h
theorem k_rr_s {stk : List pV} {k : Nat → Nat → List pV → Option pO} {z : pO} (h : k_rr stk none k = some z) : ∃ (x : Nat) (y : Nat) (st : List pV), stk = .inr (.inr (some y)) :: .inr (.inr (some x)) :: st ∧ k x y st = some z := by
  unfold k_rr at h; split at h
  · exact ⟨_, _, _, rfl, h⟩
  · cases h
theorem k_rii_s {stk : List pV} {k : Nat → Int → Int → List pV → Option pO} {z : pO} (h : k_rii stk none k = some z) : ∃ (x : Nat) (y : Int) (v : Int) (st : List pV), stk = .inl v :: .inl y :: .inr (.inr (some x)) :: st ∧ k x y v st = some z := by
  unfold k_rii at h; split at h
  · exact ⟨_, _, _, _, rfl, h⟩
  · cases h
theorem k_ril_s {stk : List pV} {k : Nat → Int → Int → List pV → Option pO} {z : pO} (h : k_ril stk none k = some z) : ∃ (x : Nat) (y : Int) (v : Int) (st : List pV), stk = .inr (.inl v) :: .inl y :: .inr (.inr (some x)) :: st ∧ k x y v st = some z := by
  unfold k_ril at h; split at h
  · exact ⟨_, _, _, _, rfl, h⟩
  · cases h
theorem k_oi_s {o : Option pV} {k : Int → Option pO} {z : pO} (h : k_oi o none k = some z) : ∃ x, o = some (.inl x) ∧ k x = some z := by
  unfold k_oi at h; split at h
  · exact ⟨_, rfl, h⟩
  · cases h
theorem k_ol_s {o : Option pV} {k : Int → Option pO} {z : pO} (h : k_ol o none k = some z) : ∃ x, o = some (.inr (.inl x)) ∧ k x = some z := by
  unfold k_ol at h; split at h
  · exact ⟨_, rfl, h⟩
  · cases h
theorem k_or_s {o : Option pV} {k : Nat → Option pO} {z : pO} (h : k_or o none k = some z) : ∃ x, o = some (.inr (.inr (some x))) ∧ k x = some z := by
  unfold k_or at h; split at h
  · exact ⟨_, rfl, h⟩
  · cases h
theorem k_op_s {β γ : Type} {o : Option β} {k : β → Option γ} {z : γ} (h : k_op o none k = some z) : ∃ x, o = some x ∧ k x = some z := by
  unfold k_op at h; split at h
  · exact ⟨_, rfl, h⟩
  · cases h
theorem bif_s {γ : Type} {b : Bool} {a : Option γ} {z : γ} (h : (bif b then a else none) = some z) : b = true ∧ a = some z := by
  cases b
  · cases h
  · exact ⟨rfl, h⟩
theorem if_s {γ : Type} {b : Prop} [Decidable b] {a : Option γ} {z : γ} (h : (if b then a else none) = some z) : b ∧ a = some z := by
  by_cases hb : b
  · rw [if_pos hb] at h; exact ⟨hb, h⟩
  · rw [if_neg hb] at h; cases h
theorem ifn_s {γ : Type} {b : Prop} [Decidable b] {a : Option γ} {z : γ} (h : (if b then none else a) = some z) : ¬ b ∧ a = some z := by
  by_cases hb : b
  · rw [if_pos hb] at h; cases h
  · rw [if_neg hb] at h; exact ⟨hb, h⟩
theorem pnx_s {Y : pY} {G : pG} {pc : Nat} {loc stk : List pV} {z : pO} (h : pnx Y G pc loc stk = some z) : z = .inl (pc, loc, stk, Y, G) := (Option.some.inj h).symm
theorem k_d_s {stk : List pV} {k : pV → List pV → Option pO} {z : pO} (h : k_d stk none k = some z) : ∃ v st, stk = v :: st ∧ (∀ x, v ≠ pL x) ∧ k v st = some z := by
  unfold k_d k_c1 at h; split at h
  · rename_i v st
    rcases v with x | x | x
    · exact ⟨_, _, rfl, (fun _ e => by cases e), h⟩
    · cases h
    · exact ⟨_, _, rfl, (fun _ e => by cases e), h⟩
  · cases h
theorem k_d2_s {stk : List pV} {k : pV → pV → List pV → Option pO} {z : pO} (h : k_d2 stk none k = some z) : ∃ v w st, stk = v :: w :: st ∧ (∀ x, v ≠ pL x) ∧ (∀ x, w ≠ pL x) ∧ k v w st = some z := by
  unfold k_d2 k_c1 at h; split at h
  · rename_i v w st
    rcases v with x | x | x
    · rcases w with y | y | y
      · exact ⟨_, _, _, rfl, (fun _ e => by cases e), (fun _ e => by cases e), h⟩
      · cases h
      · exact ⟨_, _, _, rfl, (fun _ e => by cases e), (fun _ e => by cases e), h⟩
    · cases h
    · rcases w with y | y | y
      · exact ⟨_, _, _, rfl, (fun _ e => by cases e), (fun _ e => by cases e), h⟩
      · cases h
      · exact ⟨_, _, _, rfl, (fun _ e => by cases e), (fun _ e => by cases e), h⟩
  · cases h
theorem w32_add (a b : Int32) : (a + b).toInt = w32 (a.toInt + b.toInt) := by simp [w32, Int32.ofInt_add]
theorem w32_sub (a b : Int32) : (a - b).toInt = w32 (a.toInt - b.toInt) := by simp [w32, Int32.ofInt_sub]
theorem w32_mul (a b : Int32) : (a * b).toInt = w32 (a.toInt * b.toInt) := by simp [w32, Int32.ofInt_mul]
theorem w32_neg (a : Int32) : (-a).toInt = w32 (-a.toInt) := by simp [w32, Int32.ofInt_neg]
theorem w64_add (a b : Int64) : (a + b).toInt = w64 (a.toInt + b.toInt) := by simp [w64, Int64.ofInt_add]
theorem w64_sub (a b : Int64) : (a - b).toInt = w64 (a.toInt - b.toInt) := by simp [w64, Int64.ofInt_sub]
theorem w64_mul (a b : Int64) : (a * b).toInt = w64 (a.toInt * b.toInt) := by simp [w64, Int64.ofInt_mul]
theorem w64_neg (a : Int64) : (-a).toInt = w64 (-a.toInt) := by simp [w64, Int64.ofInt_neg]
theorem w32_of (z : Int) (a : Int32) : w32 (a.toInt + z) = (a + Int32.ofInt z).toInt := by simp [w32, Int32.ofInt_add]
theorem w32_l2i (a : Int64) : a.toInt32.toInt = w32 a.toInt := by
  unfold w32
  rw [Int32.toInt_ofInt, Int64.toInt_toInt32]

