/-- all is well from here on: at any state of the machine that stands for this point, it comes to Q -/
def pKK (p : Program) (l : Launch) (e : Env) (R : Room) (s : State) (m : MethodId) (args : Array Value) (below : List Frame) (meth : Method) (c : Code) (Q : State → Prop) (D : va_G) (A : Nat → Prop) (sx : Nat → Option Nat) (nL n0 s0 : Nat) (ws0 : va_W) (pc : Nat) (loc stk : List pV) (Y : pY) (G : pG) : Prop :=
  ∀ (H : Heap) (locs : List Loc) (ws : va_W) (tys : List (ClassId × FieldType)) (ls : Array Slot) (st : List Value) (cells slots : Nat), pWl D A s tys Y G ws H locs → aS ws0 ws → lR ws sx nL loc ls → sR ws sx stk st → Y.1.1 = n0 + cells → Y.1.2 = s0 + slots → W p l e R s m args below meth c H locs cells slots Q (F0 m pc ls st)
theorem i64_l (a : Int32) : a.toInt64.toInt = a.toInt := by simp
theorem lcmp_r (a b : Int64) : (lg_cmp a b).toInt = plcmp a.toInt b.toInt := by
  unfold lg_cmp plcmp
  by_cases h : a > b
  · have h2 : a.toInt > b.toInt := by have := Int64.lt_iff_toInt_lt.mp h; omega
    rw [if_pos h, if_pos h2]; rfl
  · have h2 : ¬ a.toInt > b.toInt := fun q => h (Int64.lt_iff_toInt_lt.mpr q)
    rw [if_neg h, if_neg h2]
    by_cases h3 : a = b
    · rw [if_pos h3, if_pos (by rw [h3])]; rfl
    · rw [if_neg h3, if_neg (fun q => h3 (Int64.toInt_inj.mp q))]; rfl
theorem ne0_32 {a : Int32} (h : ¬ a.toInt = 0) : ¬ a = 0 := fun e => h (by rw [e]; rfl)
theorem ne0_64 {a : Int64} (h : ¬ a.toInt = 0) : ¬ a = 0 := fun e => h (by rw [e]; rfl)
theorem ptgt_s {pc : Nat} {off : Int} {k : Nat → Option pE} {z : pE} (h : ptgt pc off k = some z) : ∃ t : Nat, (pc : Int) + off = (t : Int) ∧ k t = some z := by
  unfold ptgt at h
  obtain ⟨h1, h2⟩ := bif_s h
  exact ⟨_, (of_decide_eq_true h1).symm, h2⟩
theorem pnneg_s {x : Int} (h : pnneg x = true) : x = (x.toNat : Int) := by
  cases x with
  | ofNat n => rfl
  | negSucc n => cases h

theorem ss_iadd {p : Program} {l : Launch} {e : Env} {R : Room} {s : State} {m : MethodId} {args : Array Value} {below : List Frame} {meth : Method} {c : Code} {Q : State → Prop} {D : va_G} {A : Nat → Prop} {sx : Nat → Option Nat} {cc : ByteArray} {nL K rt d n0 s0 : Nat} {ws0 : va_W} (hX : pCx p R s m args c sx A K nL d cc) {pc len : Nat} {e0 : pE} (hd : decode cc pc = .ok (.iadd, len)) (hp : ptr K rt pc (.iadd) len = some e0) {Y Y' : pY} {G G' : pG} {pc' : Nat} {loc loc' stk stk' : List pV} (hs : pstep Y G e0 pc loc stk = some (.inl (pc', loc', stk', Y', G'))) (kk : pKK p l e R s m args below meth c Q D A sx nL n0 s0 ws0 pc' loc' stk' Y' G') : pKK p l e R s m args below meth c Q D A sx nL n0 s0 ws0 pc loc stk Y G := by
  obtain ⟨hx, hb, hml, hown, hts, hnest, hao, hstr, hAA, hfr, hlo⟩ := hX
  intro H locs ws tys ls st cells slots hW hA hl hst hc1 hc2
  obtain ⟨hlen, hp⟩ := bif_s hp
  have hlen : len = 1 := Nat.eq_of_beq_eq_true hlen
  subst hlen
  cases hp
  obtain ⟨x, y, stk0, rfl, hs⟩ := k_ii_s hs
  cases pnx_s hs
  obtain ⟨b1, st1, rfl, rfl, h1⟩ := sR_i hst
  obtain ⟨a1, st2, rfl, rfl, h2⟩ := sR_i h1
  exact lv_iadd hx hb hd (kk H locs ws tys ls _ cells slots hW hA hl ⟨⟨_, rfl, w32_add _ _⟩, h2⟩ hc1 hc2)

theorem ss_isub {p : Program} {l : Launch} {e : Env} {R : Room} {s : State} {m : MethodId} {args : Array Value} {below : List Frame} {meth : Method} {c : Code} {Q : State → Prop} {D : va_G} {A : Nat → Prop} {sx : Nat → Option Nat} {cc : ByteArray} {nL K rt d n0 s0 : Nat} {ws0 : va_W} (hX : pCx p R s m args c sx A K nL d cc) {pc len : Nat} {e0 : pE} (hd : decode cc pc = .ok (.isub, len)) (hp : ptr K rt pc (.isub) len = some e0) {Y Y' : pY} {G G' : pG} {pc' : Nat} {loc loc' stk stk' : List pV} (hs : pstep Y G e0 pc loc stk = some (.inl (pc', loc', stk', Y', G'))) (kk : pKK p l e R s m args below meth c Q D A sx nL n0 s0 ws0 pc' loc' stk' Y' G') : pKK p l e R s m args below meth c Q D A sx nL n0 s0 ws0 pc loc stk Y G := by
  obtain ⟨hx, hb, hml, hown, hts, hnest, hao, hstr, hAA, hfr, hlo⟩ := hX
  intro H locs ws tys ls st cells slots hW hA hl hst hc1 hc2
  obtain ⟨hlen, hp⟩ := bif_s hp
  have hlen : len = 1 := Nat.eq_of_beq_eq_true hlen
  subst hlen
  cases hp
  obtain ⟨x, y, stk0, rfl, hs⟩ := k_ii_s hs
  cases pnx_s hs
  obtain ⟨b1, st1, rfl, rfl, h1⟩ := sR_i hst
  obtain ⟨a1, st2, rfl, rfl, h2⟩ := sR_i h1
  exact lv_isub hx hb hd (kk H locs ws tys ls _ cells slots hW hA hl ⟨⟨_, rfl, w32_sub _ _⟩, h2⟩ hc1 hc2)

theorem ss_imul {p : Program} {l : Launch} {e : Env} {R : Room} {s : State} {m : MethodId} {args : Array Value} {below : List Frame} {meth : Method} {c : Code} {Q : State → Prop} {D : va_G} {A : Nat → Prop} {sx : Nat → Option Nat} {cc : ByteArray} {nL K rt d n0 s0 : Nat} {ws0 : va_W} (hX : pCx p R s m args c sx A K nL d cc) {pc len : Nat} {e0 : pE} (hd : decode cc pc = .ok (.imul, len)) (hp : ptr K rt pc (.imul) len = some e0) {Y Y' : pY} {G G' : pG} {pc' : Nat} {loc loc' stk stk' : List pV} (hs : pstep Y G e0 pc loc stk = some (.inl (pc', loc', stk', Y', G'))) (kk : pKK p l e R s m args below meth c Q D A sx nL n0 s0 ws0 pc' loc' stk' Y' G') : pKK p l e R s m args below meth c Q D A sx nL n0 s0 ws0 pc loc stk Y G := by
  obtain ⟨hx, hb, hml, hown, hts, hnest, hao, hstr, hAA, hfr, hlo⟩ := hX
  intro H locs ws tys ls st cells slots hW hA hl hst hc1 hc2
  obtain ⟨hlen, hp⟩ := bif_s hp
  have hlen : len = 1 := Nat.eq_of_beq_eq_true hlen
  subst hlen
  cases hp
  obtain ⟨x, y, stk0, rfl, hs⟩ := k_ii_s hs
  cases pnx_s hs
  obtain ⟨b1, st1, rfl, rfl, h1⟩ := sR_i hst
  obtain ⟨a1, st2, rfl, rfl, h2⟩ := sR_i h1
  exact lv_imul hx hb hd (kk H locs ws tys ls _ cells slots hW hA hl ⟨⟨_, rfl, w32_mul _ _⟩, h2⟩ hc1 hc2)

theorem ss_iand {p : Program} {l : Launch} {e : Env} {R : Room} {s : State} {m : MethodId} {args : Array Value} {below : List Frame} {meth : Method} {c : Code} {Q : State → Prop} {D : va_G} {A : Nat → Prop} {sx : Nat → Option Nat} {cc : ByteArray} {nL K rt d n0 s0 : Nat} {ws0 : va_W} (hX : pCx p R s m args c sx A K nL d cc) {pc len : Nat} {e0 : pE} (hd : decode cc pc = .ok (.iand, len)) (hp : ptr K rt pc (.iand) len = some e0) {Y Y' : pY} {G G' : pG} {pc' : Nat} {loc loc' stk stk' : List pV} (hs : pstep Y G e0 pc loc stk = some (.inl (pc', loc', stk', Y', G'))) (kk : pKK p l e R s m args below meth c Q D A sx nL n0 s0 ws0 pc' loc' stk' Y' G') : pKK p l e R s m args below meth c Q D A sx nL n0 s0 ws0 pc loc stk Y G := by
  obtain ⟨hx, hb, hml, hown, hts, hnest, hao, hstr, hAA, hfr, hlo⟩ := hX
  intro H locs ws tys ls st cells slots hW hA hl hst hc1 hc2
  obtain ⟨hlen, hp⟩ := bif_s hp
  have hlen : len = 1 := Nat.eq_of_beq_eq_true hlen
  subst hlen
  cases hp
  obtain ⟨x, y, stk0, rfl, hs⟩ := k_ii_s hs
  cases pnx_s hs
  obtain ⟨b1, st1, rfl, rfl, h1⟩ := sR_i hst
  obtain ⟨a1, st2, rfl, rfl, h2⟩ := sR_i h1
  exact lv_iand hx hb hd (kk H locs ws tys ls _ cells slots hW hA hl ⟨⟨_, rfl, by simp [pand]⟩, h2⟩ hc1 hc2)

theorem ss_ior {p : Program} {l : Launch} {e : Env} {R : Room} {s : State} {m : MethodId} {args : Array Value} {below : List Frame} {meth : Method} {c : Code} {Q : State → Prop} {D : va_G} {A : Nat → Prop} {sx : Nat → Option Nat} {cc : ByteArray} {nL K rt d n0 s0 : Nat} {ws0 : va_W} (hX : pCx p R s m args c sx A K nL d cc) {pc len : Nat} {e0 : pE} (hd : decode cc pc = .ok (.ior, len)) (hp : ptr K rt pc (.ior) len = some e0) {Y Y' : pY} {G G' : pG} {pc' : Nat} {loc loc' stk stk' : List pV} (hs : pstep Y G e0 pc loc stk = some (.inl (pc', loc', stk', Y', G'))) (kk : pKK p l e R s m args below meth c Q D A sx nL n0 s0 ws0 pc' loc' stk' Y' G') : pKK p l e R s m args below meth c Q D A sx nL n0 s0 ws0 pc loc stk Y G := by
  obtain ⟨hx, hb, hml, hown, hts, hnest, hao, hstr, hAA, hfr, hlo⟩ := hX
  intro H locs ws tys ls st cells slots hW hA hl hst hc1 hc2
  obtain ⟨hlen, hp⟩ := bif_s hp
  have hlen : len = 1 := Nat.eq_of_beq_eq_true hlen
  subst hlen
  cases hp
  obtain ⟨x, y, stk0, rfl, hs⟩ := k_ii_s hs
  cases pnx_s hs
  obtain ⟨b1, st1, rfl, rfl, h1⟩ := sR_i hst
  obtain ⟨a1, st2, rfl, rfl, h2⟩ := sR_i h1
  exact lv_ior hx hb hd (kk H locs ws tys ls _ cells slots hW hA hl ⟨⟨_, rfl, by simp [por]⟩, h2⟩ hc1 hc2)

theorem ss_ixor {p : Program} {l : Launch} {e : Env} {R : Room} {s : State} {m : MethodId} {args : Array Value} {below : List Frame} {meth : Method} {c : Code} {Q : State → Prop} {D : va_G} {A : Nat → Prop} {sx : Nat → Option Nat} {cc : ByteArray} {nL K rt d n0 s0 : Nat} {ws0 : va_W} (hX : pCx p R s m args c sx A K nL d cc) {pc len : Nat} {e0 : pE} (hd : decode cc pc = .ok (.ixor, len)) (hp : ptr K rt pc (.ixor) len = some e0) {Y Y' : pY} {G G' : pG} {pc' : Nat} {loc loc' stk stk' : List pV} (hs : pstep Y G e0 pc loc stk = some (.inl (pc', loc', stk', Y', G'))) (kk : pKK p l e R s m args below meth c Q D A sx nL n0 s0 ws0 pc' loc' stk' Y' G') : pKK p l e R s m args below meth c Q D A sx nL n0 s0 ws0 pc loc stk Y G := by
  obtain ⟨hx, hb, hml, hown, hts, hnest, hao, hstr, hAA, hfr, hlo⟩ := hX
  intro H locs ws tys ls st cells slots hW hA hl hst hc1 hc2
  obtain ⟨hlen, hp⟩ := bif_s hp
  have hlen : len = 1 := Nat.eq_of_beq_eq_true hlen
  subst hlen
  cases hp
  obtain ⟨x, y, stk0, rfl, hs⟩ := k_ii_s hs
  cases pnx_s hs
  obtain ⟨b1, st1, rfl, rfl, h1⟩ := sR_i hst
  obtain ⟨a1, st2, rfl, rfl, h2⟩ := sR_i h1
  exact lv_ixor hx hb hd (kk H locs ws tys ls _ cells slots hW hA hl ⟨⟨_, rfl, by simp [pxor]⟩, h2⟩ hc1 hc2)

theorem ss_ishl {p : Program} {l : Launch} {e : Env} {R : Room} {s : State} {m : MethodId} {args : Array Value} {below : List Frame} {meth : Method} {c : Code} {Q : State → Prop} {D : va_G} {A : Nat → Prop} {sx : Nat → Option Nat} {cc : ByteArray} {nL K rt d n0 s0 : Nat} {ws0 : va_W} (hX : pCx p R s m args c sx A K nL d cc) {pc len : Nat} {e0 : pE} (hd : decode cc pc = .ok (.ishl, len)) (hp : ptr K rt pc (.ishl) len = some e0) {Y Y' : pY} {G G' : pG} {pc' : Nat} {loc loc' stk stk' : List pV} (hs : pstep Y G e0 pc loc stk = some (.inl (pc', loc', stk', Y', G'))) (kk : pKK p l e R s m args below meth c Q D A sx nL n0 s0 ws0 pc' loc' stk' Y' G') : pKK p l e R s m args below meth c Q D A sx nL n0 s0 ws0 pc loc stk Y G := by
  obtain ⟨hx, hb, hml, hown, hts, hnest, hao, hstr, hAA, hfr, hlo⟩ := hX
  intro H locs ws tys ls st cells slots hW hA hl hst hc1 hc2
  obtain ⟨hlen, hp⟩ := bif_s hp
  have hlen : len = 1 := Nat.eq_of_beq_eq_true hlen
  subst hlen
  cases hp
  obtain ⟨x, y, stk0, rfl, hs⟩ := k_ii_s hs
  cases pnx_s hs
  obtain ⟨b1, st1, rfl, rfl, h1⟩ := sR_i hst
  obtain ⟨a1, st2, rfl, rfl, h2⟩ := sR_i h1
  exact lv_ishl hx hb hd (kk H locs ws tys ls _ cells slots hW hA hl ⟨⟨_, rfl, by simp [pshl]⟩, h2⟩ hc1 hc2)

theorem ss_ishr {p : Program} {l : Launch} {e : Env} {R : Room} {s : State} {m : MethodId} {args : Array Value} {below : List Frame} {meth : Method} {c : Code} {Q : State → Prop} {D : va_G} {A : Nat → Prop} {sx : Nat → Option Nat} {cc : ByteArray} {nL K rt d n0 s0 : Nat} {ws0 : va_W} (hX : pCx p R s m args c sx A K nL d cc) {pc len : Nat} {e0 : pE} (hd : decode cc pc = .ok (.ishr, len)) (hp : ptr K rt pc (.ishr) len = some e0) {Y Y' : pY} {G G' : pG} {pc' : Nat} {loc loc' stk stk' : List pV} (hs : pstep Y G e0 pc loc stk = some (.inl (pc', loc', stk', Y', G'))) (kk : pKK p l e R s m args below meth c Q D A sx nL n0 s0 ws0 pc' loc' stk' Y' G') : pKK p l e R s m args below meth c Q D A sx nL n0 s0 ws0 pc loc stk Y G := by
  obtain ⟨hx, hb, hml, hown, hts, hnest, hao, hstr, hAA, hfr, hlo⟩ := hX
  intro H locs ws tys ls st cells slots hW hA hl hst hc1 hc2
  obtain ⟨hlen, hp⟩ := bif_s hp
  have hlen : len = 1 := Nat.eq_of_beq_eq_true hlen
  subst hlen
  cases hp
  obtain ⟨x, y, stk0, rfl, hs⟩ := k_ii_s hs
  cases pnx_s hs
  obtain ⟨b1, st1, rfl, rfl, h1⟩ := sR_i hst
  obtain ⟨a1, st2, rfl, rfl, h2⟩ := sR_i h1
  exact lv_ishr hx hb hd (kk H locs ws tys ls _ cells slots hW hA hl ⟨⟨_, rfl, by simp [pshr]⟩, h2⟩ hc1 hc2)

theorem ss_iushr {p : Program} {l : Launch} {e : Env} {R : Room} {s : State} {m : MethodId} {args : Array Value} {below : List Frame} {meth : Method} {c : Code} {Q : State → Prop} {D : va_G} {A : Nat → Prop} {sx : Nat → Option Nat} {cc : ByteArray} {nL K rt d n0 s0 : Nat} {ws0 : va_W} (hX : pCx p R s m args c sx A K nL d cc) {pc len : Nat} {e0 : pE} (hd : decode cc pc = .ok (.iushr, len)) (hp : ptr K rt pc (.iushr) len = some e0) {Y Y' : pY} {G G' : pG} {pc' : Nat} {loc loc' stk stk' : List pV} (hs : pstep Y G e0 pc loc stk = some (.inl (pc', loc', stk', Y', G'))) (kk : pKK p l e R s m args below meth c Q D A sx nL n0 s0 ws0 pc' loc' stk' Y' G') : pKK p l e R s m args below meth c Q D A sx nL n0 s0 ws0 pc loc stk Y G := by
  obtain ⟨hx, hb, hml, hown, hts, hnest, hao, hstr, hAA, hfr, hlo⟩ := hX
  intro H locs ws tys ls st cells slots hW hA hl hst hc1 hc2
  obtain ⟨hlen, hp⟩ := bif_s hp
  have hlen : len = 1 := Nat.eq_of_beq_eq_true hlen
  subst hlen
  cases hp
  obtain ⟨x, y, stk0, rfl, hs⟩ := k_ii_s hs
  cases pnx_s hs
  obtain ⟨b1, st1, rfl, rfl, h1⟩ := sR_i hst
  obtain ⟨a1, st2, rfl, rfl, h2⟩ := sR_i h1
  exact lv_iushr hx hb hd rfl (kk H locs ws tys ls _ cells slots hW hA hl ⟨⟨_, rfl, by simp [push']⟩, h2⟩ hc1 hc2)

theorem ss_idiv {p : Program} {l : Launch} {e : Env} {R : Room} {s : State} {m : MethodId} {args : Array Value} {below : List Frame} {meth : Method} {c : Code} {Q : State → Prop} {D : va_G} {A : Nat → Prop} {sx : Nat → Option Nat} {cc : ByteArray} {nL K rt d n0 s0 : Nat} {ws0 : va_W} (hX : pCx p R s m args c sx A K nL d cc) {pc len : Nat} {e0 : pE} (hd : decode cc pc = .ok (.idiv, len)) (hp : ptr K rt pc (.idiv) len = some e0) {Y Y' : pY} {G G' : pG} {pc' : Nat} {loc loc' stk stk' : List pV} (hs : pstep Y G e0 pc loc stk = some (.inl (pc', loc', stk', Y', G'))) (kk : pKK p l e R s m args below meth c Q D A sx nL n0 s0 ws0 pc' loc' stk' Y' G') : pKK p l e R s m args below meth c Q D A sx nL n0 s0 ws0 pc loc stk Y G := by
  obtain ⟨hx, hb, hml, hown, hts, hnest, hao, hstr, hAA, hfr, hlo⟩ := hX
  intro H locs ws tys ls st cells slots hW hA hl hst hc1 hc2
  obtain ⟨hlen, hp⟩ := bif_s hp
  have hlen : len = 1 := Nat.eq_of_beq_eq_true hlen
  subst hlen
  cases hp
  obtain ⟨x, y, stk0, rfl, hs⟩ := k_ii_s hs
  obtain ⟨hne, hs⟩ := ifn_s hs
  cases pnx_s hs
  obtain ⟨b1, st1, rfl, rfl, h1⟩ := sR_i hst
  obtain ⟨a1, st2, rfl, rfl, h2⟩ := sR_i h1
  exact lv_idiv hx hb hd (ne0_32 hne) (kk H locs ws tys ls _ cells slots hW hA hl ⟨⟨_, rfl, by simp [pdiv]⟩, h2⟩ hc1 hc2)

theorem ss_irem {p : Program} {l : Launch} {e : Env} {R : Room} {s : State} {m : MethodId} {args : Array Value} {below : List Frame} {meth : Method} {c : Code} {Q : State → Prop} {D : va_G} {A : Nat → Prop} {sx : Nat → Option Nat} {cc : ByteArray} {nL K rt d n0 s0 : Nat} {ws0 : va_W} (hX : pCx p R s m args c sx A K nL d cc) {pc len : Nat} {e0 : pE} (hd : decode cc pc = .ok (.irem, len)) (hp : ptr K rt pc (.irem) len = some e0) {Y Y' : pY} {G G' : pG} {pc' : Nat} {loc loc' stk stk' : List pV} (hs : pstep Y G e0 pc loc stk = some (.inl (pc', loc', stk', Y', G'))) (kk : pKK p l e R s m args below meth c Q D A sx nL n0 s0 ws0 pc' loc' stk' Y' G') : pKK p l e R s m args below meth c Q D A sx nL n0 s0 ws0 pc loc stk Y G := by
  obtain ⟨hx, hb, hml, hown, hts, hnest, hao, hstr, hAA, hfr, hlo⟩ := hX
  intro H locs ws tys ls st cells slots hW hA hl hst hc1 hc2
  obtain ⟨hlen, hp⟩ := bif_s hp
  have hlen : len = 1 := Nat.eq_of_beq_eq_true hlen
  subst hlen
  cases hp
  obtain ⟨x, y, stk0, rfl, hs⟩ := k_ii_s hs
  obtain ⟨hne, hs⟩ := ifn_s hs
  cases pnx_s hs
  obtain ⟨b1, st1, rfl, rfl, h1⟩ := sR_i hst
  obtain ⟨a1, st2, rfl, rfl, h2⟩ := sR_i h1
  exact lv_irem hx hb hd (ne0_32 hne) (kk H locs ws tys ls _ cells slots hW hA hl ⟨⟨_, rfl, by simp [prem]⟩, h2⟩ hc1 hc2)

theorem ss_ldiv {p : Program} {l : Launch} {e : Env} {R : Room} {s : State} {m : MethodId} {args : Array Value} {below : List Frame} {meth : Method} {c : Code} {Q : State → Prop} {D : va_G} {A : Nat → Prop} {sx : Nat → Option Nat} {cc : ByteArray} {nL K rt d n0 s0 : Nat} {ws0 : va_W} (hX : pCx p R s m args c sx A K nL d cc) {pc len : Nat} {e0 : pE} (hd : decode cc pc = .ok (.ldiv, len)) (hp : ptr K rt pc (.ldiv) len = some e0) {Y Y' : pY} {G G' : pG} {pc' : Nat} {loc loc' stk stk' : List pV} (hs : pstep Y G e0 pc loc stk = some (.inl (pc', loc', stk', Y', G'))) (kk : pKK p l e R s m args below meth c Q D A sx nL n0 s0 ws0 pc' loc' stk' Y' G') : pKK p l e R s m args below meth c Q D A sx nL n0 s0 ws0 pc loc stk Y G := by
  obtain ⟨hx, hb, hml, hown, hts, hnest, hao, hstr, hAA, hfr, hlo⟩ := hX
  intro H locs ws tys ls st cells slots hW hA hl hst hc1 hc2
  obtain ⟨hlen, hp⟩ := bif_s hp
  have hlen : len = 1 := Nat.eq_of_beq_eq_true hlen
  subst hlen
  cases hp
  obtain ⟨x, y, stk0, rfl, hs⟩ := k_ll_s hs
  obtain ⟨hne, hs⟩ := ifn_s hs
  cases pnx_s hs
  obtain ⟨b1, st1, rfl, rfl, h1⟩ := sR_l hst
  obtain ⟨a1, st2, rfl, rfl, h2⟩ := sR_l h1
  exact lv_ldiv hx hb hd (ne0_64 hne) (kk H locs ws tys ls _ cells slots hW hA hl ⟨⟨_, rfl, by simp [pldiv]⟩, h2⟩ hc1 hc2)

theorem ss_lrem {p : Program} {l : Launch} {e : Env} {R : Room} {s : State} {m : MethodId} {args : Array Value} {below : List Frame} {meth : Method} {c : Code} {Q : State → Prop} {D : va_G} {A : Nat → Prop} {sx : Nat → Option Nat} {cc : ByteArray} {nL K rt d n0 s0 : Nat} {ws0 : va_W} (hX : pCx p R s m args c sx A K nL d cc) {pc len : Nat} {e0 : pE} (hd : decode cc pc = .ok (.lrem, len)) (hp : ptr K rt pc (.lrem) len = some e0) {Y Y' : pY} {G G' : pG} {pc' : Nat} {loc loc' stk stk' : List pV} (hs : pstep Y G e0 pc loc stk = some (.inl (pc', loc', stk', Y', G'))) (kk : pKK p l e R s m args below meth c Q D A sx nL n0 s0 ws0 pc' loc' stk' Y' G') : pKK p l e R s m args below meth c Q D A sx nL n0 s0 ws0 pc loc stk Y G := by
  obtain ⟨hx, hb, hml, hown, hts, hnest, hao, hstr, hAA, hfr, hlo⟩ := hX
  intro H locs ws tys ls st cells slots hW hA hl hst hc1 hc2
  obtain ⟨hlen, hp⟩ := bif_s hp
  have hlen : len = 1 := Nat.eq_of_beq_eq_true hlen
  subst hlen
  cases hp
  obtain ⟨x, y, stk0, rfl, hs⟩ := k_ll_s hs
  obtain ⟨hne, hs⟩ := ifn_s hs
  cases pnx_s hs
  obtain ⟨b1, st1, rfl, rfl, h1⟩ := sR_l hst
  obtain ⟨a1, st2, rfl, rfl, h2⟩ := sR_l h1
  exact lv_lrem hx hb hd (ne0_64 hne) (kk H locs ws tys ls _ cells slots hW hA hl ⟨⟨_, rfl, by simp [plrem]⟩, h2⟩ hc1 hc2)

theorem ss_ladd {p : Program} {l : Launch} {e : Env} {R : Room} {s : State} {m : MethodId} {args : Array Value} {below : List Frame} {meth : Method} {c : Code} {Q : State → Prop} {D : va_G} {A : Nat → Prop} {sx : Nat → Option Nat} {cc : ByteArray} {nL K rt d n0 s0 : Nat} {ws0 : va_W} (hX : pCx p R s m args c sx A K nL d cc) {pc len : Nat} {e0 : pE} (hd : decode cc pc = .ok (.ladd, len)) (hp : ptr K rt pc (.ladd) len = some e0) {Y Y' : pY} {G G' : pG} {pc' : Nat} {loc loc' stk stk' : List pV} (hs : pstep Y G e0 pc loc stk = some (.inl (pc', loc', stk', Y', G'))) (kk : pKK p l e R s m args below meth c Q D A sx nL n0 s0 ws0 pc' loc' stk' Y' G') : pKK p l e R s m args below meth c Q D A sx nL n0 s0 ws0 pc loc stk Y G := by
  obtain ⟨hx, hb, hml, hown, hts, hnest, hao, hstr, hAA, hfr, hlo⟩ := hX
  intro H locs ws tys ls st cells slots hW hA hl hst hc1 hc2
  obtain ⟨hlen, hp⟩ := bif_s hp
  have hlen : len = 1 := Nat.eq_of_beq_eq_true hlen
  subst hlen
  cases hp
  obtain ⟨x, y, stk0, rfl, hs⟩ := k_ll_s hs
  cases pnx_s hs
  obtain ⟨b1, st1, rfl, rfl, h1⟩ := sR_l hst
  obtain ⟨a1, st2, rfl, rfl, h2⟩ := sR_l h1
  exact lv_ladd hx hb hd (kk H locs ws tys ls _ cells slots hW hA hl ⟨⟨_, rfl, w64_add _ _⟩, h2⟩ hc1 hc2)

theorem ss_lsub {p : Program} {l : Launch} {e : Env} {R : Room} {s : State} {m : MethodId} {args : Array Value} {below : List Frame} {meth : Method} {c : Code} {Q : State → Prop} {D : va_G} {A : Nat → Prop} {sx : Nat → Option Nat} {cc : ByteArray} {nL K rt d n0 s0 : Nat} {ws0 : va_W} (hX : pCx p R s m args c sx A K nL d cc) {pc len : Nat} {e0 : pE} (hd : decode cc pc = .ok (.lsub, len)) (hp : ptr K rt pc (.lsub) len = some e0) {Y Y' : pY} {G G' : pG} {pc' : Nat} {loc loc' stk stk' : List pV} (hs : pstep Y G e0 pc loc stk = some (.inl (pc', loc', stk', Y', G'))) (kk : pKK p l e R s m args below meth c Q D A sx nL n0 s0 ws0 pc' loc' stk' Y' G') : pKK p l e R s m args below meth c Q D A sx nL n0 s0 ws0 pc loc stk Y G := by
  obtain ⟨hx, hb, hml, hown, hts, hnest, hao, hstr, hAA, hfr, hlo⟩ := hX
  intro H locs ws tys ls st cells slots hW hA hl hst hc1 hc2
  obtain ⟨hlen, hp⟩ := bif_s hp
  have hlen : len = 1 := Nat.eq_of_beq_eq_true hlen
  subst hlen
  cases hp
  obtain ⟨x, y, stk0, rfl, hs⟩ := k_ll_s hs
  cases pnx_s hs
  obtain ⟨b1, st1, rfl, rfl, h1⟩ := sR_l hst
  obtain ⟨a1, st2, rfl, rfl, h2⟩ := sR_l h1
  exact lv_lsub hx hb hd (kk H locs ws tys ls _ cells slots hW hA hl ⟨⟨_, rfl, w64_sub _ _⟩, h2⟩ hc1 hc2)

theorem ss_lmul {p : Program} {l : Launch} {e : Env} {R : Room} {s : State} {m : MethodId} {args : Array Value} {below : List Frame} {meth : Method} {c : Code} {Q : State → Prop} {D : va_G} {A : Nat → Prop} {sx : Nat → Option Nat} {cc : ByteArray} {nL K rt d n0 s0 : Nat} {ws0 : va_W} (hX : pCx p R s m args c sx A K nL d cc) {pc len : Nat} {e0 : pE} (hd : decode cc pc = .ok (.lmul, len)) (hp : ptr K rt pc (.lmul) len = some e0) {Y Y' : pY} {G G' : pG} {pc' : Nat} {loc loc' stk stk' : List pV} (hs : pstep Y G e0 pc loc stk = some (.inl (pc', loc', stk', Y', G'))) (kk : pKK p l e R s m args below meth c Q D A sx nL n0 s0 ws0 pc' loc' stk' Y' G') : pKK p l e R s m args below meth c Q D A sx nL n0 s0 ws0 pc loc stk Y G := by
  obtain ⟨hx, hb, hml, hown, hts, hnest, hao, hstr, hAA, hfr, hlo⟩ := hX
  intro H locs ws tys ls st cells slots hW hA hl hst hc1 hc2
  obtain ⟨hlen, hp⟩ := bif_s hp
  have hlen : len = 1 := Nat.eq_of_beq_eq_true hlen
  subst hlen
  cases hp
  obtain ⟨x, y, stk0, rfl, hs⟩ := k_ll_s hs
  cases pnx_s hs
  obtain ⟨b1, st1, rfl, rfl, h1⟩ := sR_l hst
  obtain ⟨a1, st2, rfl, rfl, h2⟩ := sR_l h1
  exact lv_lmul hx hb hd (kk H locs ws tys ls _ cells slots hW hA hl ⟨⟨_, rfl, w64_mul _ _⟩, h2⟩ hc1 hc2)

theorem ss_land {p : Program} {l : Launch} {e : Env} {R : Room} {s : State} {m : MethodId} {args : Array Value} {below : List Frame} {meth : Method} {c : Code} {Q : State → Prop} {D : va_G} {A : Nat → Prop} {sx : Nat → Option Nat} {cc : ByteArray} {nL K rt d n0 s0 : Nat} {ws0 : va_W} (hX : pCx p R s m args c sx A K nL d cc) {pc len : Nat} {e0 : pE} (hd : decode cc pc = .ok (.land, len)) (hp : ptr K rt pc (.land) len = some e0) {Y Y' : pY} {G G' : pG} {pc' : Nat} {loc loc' stk stk' : List pV} (hs : pstep Y G e0 pc loc stk = some (.inl (pc', loc', stk', Y', G'))) (kk : pKK p l e R s m args below meth c Q D A sx nL n0 s0 ws0 pc' loc' stk' Y' G') : pKK p l e R s m args below meth c Q D A sx nL n0 s0 ws0 pc loc stk Y G := by
  obtain ⟨hx, hb, hml, hown, hts, hnest, hao, hstr, hAA, hfr, hlo⟩ := hX
  intro H locs ws tys ls st cells slots hW hA hl hst hc1 hc2
  obtain ⟨hlen, hp⟩ := bif_s hp
  have hlen : len = 1 := Nat.eq_of_beq_eq_true hlen
  subst hlen
  cases hp
  obtain ⟨x, y, stk0, rfl, hs⟩ := k_ll_s hs
  cases pnx_s hs
  obtain ⟨b1, st1, rfl, rfl, h1⟩ := sR_l hst
  obtain ⟨a1, st2, rfl, rfl, h2⟩ := sR_l h1
  exact lv_land hx hb hd (kk H locs ws tys ls _ cells slots hW hA hl ⟨⟨_, rfl, by simp [pland]⟩, h2⟩ hc1 hc2)

theorem ss_lor {p : Program} {l : Launch} {e : Env} {R : Room} {s : State} {m : MethodId} {args : Array Value} {below : List Frame} {meth : Method} {c : Code} {Q : State → Prop} {D : va_G} {A : Nat → Prop} {sx : Nat → Option Nat} {cc : ByteArray} {nL K rt d n0 s0 : Nat} {ws0 : va_W} (hX : pCx p R s m args c sx A K nL d cc) {pc len : Nat} {e0 : pE} (hd : decode cc pc = .ok (.lor, len)) (hp : ptr K rt pc (.lor) len = some e0) {Y Y' : pY} {G G' : pG} {pc' : Nat} {loc loc' stk stk' : List pV} (hs : pstep Y G e0 pc loc stk = some (.inl (pc', loc', stk', Y', G'))) (kk : pKK p l e R s m args below meth c Q D A sx nL n0 s0 ws0 pc' loc' stk' Y' G') : pKK p l e R s m args below meth c Q D A sx nL n0 s0 ws0 pc loc stk Y G := by
  obtain ⟨hx, hb, hml, hown, hts, hnest, hao, hstr, hAA, hfr, hlo⟩ := hX
  intro H locs ws tys ls st cells slots hW hA hl hst hc1 hc2
  obtain ⟨hlen, hp⟩ := bif_s hp
  have hlen : len = 1 := Nat.eq_of_beq_eq_true hlen
  subst hlen
  cases hp
  obtain ⟨x, y, stk0, rfl, hs⟩ := k_ll_s hs
  cases pnx_s hs
  obtain ⟨b1, st1, rfl, rfl, h1⟩ := sR_l hst
  obtain ⟨a1, st2, rfl, rfl, h2⟩ := sR_l h1
  exact lv_lor hx hb hd (kk H locs ws tys ls _ cells slots hW hA hl ⟨⟨_, rfl, by simp [plor]⟩, h2⟩ hc1 hc2)

theorem ss_lshl {p : Program} {l : Launch} {e : Env} {R : Room} {s : State} {m : MethodId} {args : Array Value} {below : List Frame} {meth : Method} {c : Code} {Q : State → Prop} {D : va_G} {A : Nat → Prop} {sx : Nat → Option Nat} {cc : ByteArray} {nL K rt d n0 s0 : Nat} {ws0 : va_W} (hX : pCx p R s m args c sx A K nL d cc) {pc len : Nat} {e0 : pE} (hd : decode cc pc = .ok (.lshl, len)) (hp : ptr K rt pc (.lshl) len = some e0) {Y Y' : pY} {G G' : pG} {pc' : Nat} {loc loc' stk stk' : List pV} (hs : pstep Y G e0 pc loc stk = some (.inl (pc', loc', stk', Y', G'))) (kk : pKK p l e R s m args below meth c Q D A sx nL n0 s0 ws0 pc' loc' stk' Y' G') : pKK p l e R s m args below meth c Q D A sx nL n0 s0 ws0 pc loc stk Y G := by
  obtain ⟨hx, hb, hml, hown, hts, hnest, hao, hstr, hAA, hfr, hlo⟩ := hX
  intro H locs ws tys ls st cells slots hW hA hl hst hc1 hc2
  obtain ⟨hlen, hp⟩ := bif_s hp
  have hlen : len = 1 := Nat.eq_of_beq_eq_true hlen
  subst hlen
  cases hp
  obtain ⟨x, y, stk0, rfl, hs⟩ := k_li_s hs
  cases pnx_s hs
  obtain ⟨b1, st1, rfl, rfl, h1⟩ := sR_i hst
  obtain ⟨a1, st2, rfl, rfl, h2⟩ := sR_l h1
  exact lv_lshl hx hb hd rfl (kk H locs ws tys ls _ cells slots hW hA hl ⟨⟨_, rfl, by simp [plshl]⟩, h2⟩ hc1 hc2)

theorem ss_lshr {p : Program} {l : Launch} {e : Env} {R : Room} {s : State} {m : MethodId} {args : Array Value} {below : List Frame} {meth : Method} {c : Code} {Q : State → Prop} {D : va_G} {A : Nat → Prop} {sx : Nat → Option Nat} {cc : ByteArray} {nL K rt d n0 s0 : Nat} {ws0 : va_W} (hX : pCx p R s m args c sx A K nL d cc) {pc len : Nat} {e0 : pE} (hd : decode cc pc = .ok (.lshr, len)) (hp : ptr K rt pc (.lshr) len = some e0) {Y Y' : pY} {G G' : pG} {pc' : Nat} {loc loc' stk stk' : List pV} (hs : pstep Y G e0 pc loc stk = some (.inl (pc', loc', stk', Y', G'))) (kk : pKK p l e R s m args below meth c Q D A sx nL n0 s0 ws0 pc' loc' stk' Y' G') : pKK p l e R s m args below meth c Q D A sx nL n0 s0 ws0 pc loc stk Y G := by
  obtain ⟨hx, hb, hml, hown, hts, hnest, hao, hstr, hAA, hfr, hlo⟩ := hX
  intro H locs ws tys ls st cells slots hW hA hl hst hc1 hc2
  obtain ⟨hlen, hp⟩ := bif_s hp
  have hlen : len = 1 := Nat.eq_of_beq_eq_true hlen
  subst hlen
  cases hp
  obtain ⟨x, y, stk0, rfl, hs⟩ := k_li_s hs
  cases pnx_s hs
  obtain ⟨b1, st1, rfl, rfl, h1⟩ := sR_i hst
  obtain ⟨a1, st2, rfl, rfl, h2⟩ := sR_l h1
  exact lv_lshr hx hb hd rfl (kk H locs ws tys ls _ cells slots hW hA hl ⟨⟨_, rfl, by simp [plshr]⟩, h2⟩ hc1 hc2)

theorem ss_lcmp {p : Program} {l : Launch} {e : Env} {R : Room} {s : State} {m : MethodId} {args : Array Value} {below : List Frame} {meth : Method} {c : Code} {Q : State → Prop} {D : va_G} {A : Nat → Prop} {sx : Nat → Option Nat} {cc : ByteArray} {nL K rt d n0 s0 : Nat} {ws0 : va_W} (hX : pCx p R s m args c sx A K nL d cc) {pc len : Nat} {e0 : pE} (hd : decode cc pc = .ok (.lcmp, len)) (hp : ptr K rt pc (.lcmp) len = some e0) {Y Y' : pY} {G G' : pG} {pc' : Nat} {loc loc' stk stk' : List pV} (hs : pstep Y G e0 pc loc stk = some (.inl (pc', loc', stk', Y', G'))) (kk : pKK p l e R s m args below meth c Q D A sx nL n0 s0 ws0 pc' loc' stk' Y' G') : pKK p l e R s m args below meth c Q D A sx nL n0 s0 ws0 pc loc stk Y G := by
  obtain ⟨hx, hb, hml, hown, hts, hnest, hao, hstr, hAA, hfr, hlo⟩ := hX
  intro H locs ws tys ls st cells slots hW hA hl hst hc1 hc2
  obtain ⟨hlen, hp⟩ := bif_s hp
  have hlen : len = 1 := Nat.eq_of_beq_eq_true hlen
  subst hlen
  cases hp
  obtain ⟨x, y, stk0, rfl, hs⟩ := k_ll_s hs
  cases pnx_s hs
  obtain ⟨b1, st1, rfl, rfl, h1⟩ := sR_l hst
  obtain ⟨a1, st2, rfl, rfl, h2⟩ := sR_l h1
  exact W.lcmp hx hb hd (kk H locs ws tys ls _ cells slots hW hA hl ⟨⟨_, rfl, lcmp_r _ _⟩, h2⟩ hc1 hc2)

theorem ss_ineg {p : Program} {l : Launch} {e : Env} {R : Room} {s : State} {m : MethodId} {args : Array Value} {below : List Frame} {meth : Method} {c : Code} {Q : State → Prop} {D : va_G} {A : Nat → Prop} {sx : Nat → Option Nat} {cc : ByteArray} {nL K rt d n0 s0 : Nat} {ws0 : va_W} (hX : pCx p R s m args c sx A K nL d cc) {pc len : Nat} {e0 : pE} (hd : decode cc pc = .ok (.ineg, len)) (hp : ptr K rt pc (.ineg) len = some e0) {Y Y' : pY} {G G' : pG} {pc' : Nat} {loc loc' stk stk' : List pV} (hs : pstep Y G e0 pc loc stk = some (.inl (pc', loc', stk', Y', G'))) (kk : pKK p l e R s m args below meth c Q D A sx nL n0 s0 ws0 pc' loc' stk' Y' G') : pKK p l e R s m args below meth c Q D A sx nL n0 s0 ws0 pc loc stk Y G := by
  obtain ⟨hx, hb, hml, hown, hts, hnest, hao, hstr, hAA, hfr, hlo⟩ := hX
  intro H locs ws tys ls st cells slots hW hA hl hst hc1 hc2
  obtain ⟨hlen, hp⟩ := bif_s hp
  have hlen : len = 1 := Nat.eq_of_beq_eq_true hlen
  subst hlen
  cases hp
  obtain ⟨x, stk0, rfl, hs⟩ := k_i_s hs
  cases pnx_s hs
  obtain ⟨b1, st1, rfl, rfl, h1⟩ := sR_i hst
  exact lv_ineg hx hb hd (kk H locs ws tys ls _ cells slots hW hA hl ⟨⟨_, rfl, w32_neg _⟩, h1⟩ hc1 hc2)

theorem ss_lneg {p : Program} {l : Launch} {e : Env} {R : Room} {s : State} {m : MethodId} {args : Array Value} {below : List Frame} {meth : Method} {c : Code} {Q : State → Prop} {D : va_G} {A : Nat → Prop} {sx : Nat → Option Nat} {cc : ByteArray} {nL K rt d n0 s0 : Nat} {ws0 : va_W} (hX : pCx p R s m args c sx A K nL d cc) {pc len : Nat} {e0 : pE} (hd : decode cc pc = .ok (.lneg, len)) (hp : ptr K rt pc (.lneg) len = some e0) {Y Y' : pY} {G G' : pG} {pc' : Nat} {loc loc' stk stk' : List pV} (hs : pstep Y G e0 pc loc stk = some (.inl (pc', loc', stk', Y', G'))) (kk : pKK p l e R s m args below meth c Q D A sx nL n0 s0 ws0 pc' loc' stk' Y' G') : pKK p l e R s m args below meth c Q D A sx nL n0 s0 ws0 pc loc stk Y G := by
  obtain ⟨hx, hb, hml, hown, hts, hnest, hao, hstr, hAA, hfr, hlo⟩ := hX
  intro H locs ws tys ls st cells slots hW hA hl hst hc1 hc2
  obtain ⟨hlen, hp⟩ := bif_s hp
  have hlen : len = 1 := Nat.eq_of_beq_eq_true hlen
  subst hlen
  cases hp
  obtain ⟨x, stk0, rfl, hs⟩ := k_l_s hs
  cases pnx_s hs
  obtain ⟨b1, st1, rfl, rfl, h1⟩ := sR_l hst
  exact lv_lneg hx hb hd (kk H locs ws tys ls _ cells slots hW hA hl ⟨⟨_, rfl, w64_neg _⟩, h1⟩ hc1 hc2)

theorem ss_i2l {p : Program} {l : Launch} {e : Env} {R : Room} {s : State} {m : MethodId} {args : Array Value} {below : List Frame} {meth : Method} {c : Code} {Q : State → Prop} {D : va_G} {A : Nat → Prop} {sx : Nat → Option Nat} {cc : ByteArray} {nL K rt d n0 s0 : Nat} {ws0 : va_W} (hX : pCx p R s m args c sx A K nL d cc) {pc len : Nat} {e0 : pE} (hd : decode cc pc = .ok (.i2l, len)) (hp : ptr K rt pc (.i2l) len = some e0) {Y Y' : pY} {G G' : pG} {pc' : Nat} {loc loc' stk stk' : List pV} (hs : pstep Y G e0 pc loc stk = some (.inl (pc', loc', stk', Y', G'))) (kk : pKK p l e R s m args below meth c Q D A sx nL n0 s0 ws0 pc' loc' stk' Y' G') : pKK p l e R s m args below meth c Q D A sx nL n0 s0 ws0 pc loc stk Y G := by
  obtain ⟨hx, hb, hml, hown, hts, hnest, hao, hstr, hAA, hfr, hlo⟩ := hX
  intro H locs ws tys ls st cells slots hW hA hl hst hc1 hc2
  obtain ⟨hlen, hp⟩ := bif_s hp
  have hlen : len = 1 := Nat.eq_of_beq_eq_true hlen
  subst hlen
  cases hp
  obtain ⟨x, stk0, rfl, hs⟩ := k_i_s hs
  cases pnx_s hs
  obtain ⟨b1, st1, rfl, rfl, h1⟩ := sR_i hst
  exact lv_i2l hx hb hd rfl (kk H locs ws tys ls _ cells slots hW hA hl ⟨⟨_, rfl, i64_l _⟩, h1⟩ hc1 hc2)

theorem ss_l2i {p : Program} {l : Launch} {e : Env} {R : Room} {s : State} {m : MethodId} {args : Array Value} {below : List Frame} {meth : Method} {c : Code} {Q : State → Prop} {D : va_G} {A : Nat → Prop} {sx : Nat → Option Nat} {cc : ByteArray} {nL K rt d n0 s0 : Nat} {ws0 : va_W} (hX : pCx p R s m args c sx A K nL d cc) {pc len : Nat} {e0 : pE} (hd : decode cc pc = .ok (.l2i, len)) (hp : ptr K rt pc (.l2i) len = some e0) {Y Y' : pY} {G G' : pG} {pc' : Nat} {loc loc' stk stk' : List pV} (hs : pstep Y G e0 pc loc stk = some (.inl (pc', loc', stk', Y', G'))) (kk : pKK p l e R s m args below meth c Q D A sx nL n0 s0 ws0 pc' loc' stk' Y' G') : pKK p l e R s m args below meth c Q D A sx nL n0 s0 ws0 pc loc stk Y G := by
  obtain ⟨hx, hb, hml, hown, hts, hnest, hao, hstr, hAA, hfr, hlo⟩ := hX
  intro H locs ws tys ls st cells slots hW hA hl hst hc1 hc2
  obtain ⟨hlen, hp⟩ := bif_s hp
  have hlen : len = 1 := Nat.eq_of_beq_eq_true hlen
  subst hlen
  cases hp
  obtain ⟨x, stk0, rfl, hs⟩ := k_l_s hs
  cases pnx_s hs
  obtain ⟨b1, st1, rfl, rfl, h1⟩ := sR_l hst
  exact lv_l2i hx hb hd rfl (kk H locs ws tys ls _ cells slots hW hA hl ⟨⟨_, rfl, w32_l2i _⟩, h1⟩ hc1 hc2)

theorem ss_i2b {p : Program} {l : Launch} {e : Env} {R : Room} {s : State} {m : MethodId} {args : Array Value} {below : List Frame} {meth : Method} {c : Code} {Q : State → Prop} {D : va_G} {A : Nat → Prop} {sx : Nat → Option Nat} {cc : ByteArray} {nL K rt d n0 s0 : Nat} {ws0 : va_W} (hX : pCx p R s m args c sx A K nL d cc) {pc len : Nat} {e0 : pE} (hd : decode cc pc = .ok (.i2b, len)) (hp : ptr K rt pc (.i2b) len = some e0) {Y Y' : pY} {G G' : pG} {pc' : Nat} {loc loc' stk stk' : List pV} (hs : pstep Y G e0 pc loc stk = some (.inl (pc', loc', stk', Y', G'))) (kk : pKK p l e R s m args below meth c Q D A sx nL n0 s0 ws0 pc' loc' stk' Y' G') : pKK p l e R s m args below meth c Q D A sx nL n0 s0 ws0 pc loc stk Y G := by
  obtain ⟨hx, hb, hml, hown, hts, hnest, hao, hstr, hAA, hfr, hlo⟩ := hX
  intro H locs ws tys ls st cells slots hW hA hl hst hc1 hc2
  obtain ⟨hlen, hp⟩ := bif_s hp
  have hlen : len = 1 := Nat.eq_of_beq_eq_true hlen
  subst hlen
  cases hp
  obtain ⟨x, stk0, rfl, hs⟩ := k_i_s hs
  cases pnx_s hs
  obtain ⟨b1, st1, rfl, rfl, h1⟩ := sR_i hst
  exact lv_i2b hx hb hd rfl (kk H locs ws tys ls _ cells slots hW hA hl ⟨⟨_, rfl, by simp [w8]⟩, h1⟩ hc1 hc2)

theorem ss_iconst {p : Program} {l : Launch} {e : Env} {R : Room} {s : State} {m : MethodId} {args : Array Value} {below : List Frame} {meth : Method} {c : Code} {Q : State → Prop} {D : va_G} {A : Nat → Prop} {sx : Nat → Option Nat} {cc : ByteArray} {nL K rt d n0 s0 : Nat} {ws0 : va_W} (hX : pCx p R s m args c sx A K nL d cc) {pc len : Nat} {e0 : pE} {n : Int} (hd : decode cc pc = .ok (.iconst n, len)) (hp : ptr K rt pc (.iconst n) len = some e0) {Y Y' : pY} {G G' : pG} {pc' : Nat} {loc loc' stk stk' : List pV} (hs : pstep Y G e0 pc loc stk = some (.inl (pc', loc', stk', Y', G'))) (kk : pKK p l e R s m args below meth c Q D A sx nL n0 s0 ws0 pc' loc' stk' Y' G') : pKK p l e R s m args below meth c Q D A sx nL n0 s0 ws0 pc loc stk Y G := by
  obtain ⟨hx, hb, hml, hown, hts, hnest, hao, hstr, hAA, hfr, hlo⟩ := hX
  intro H locs ws tys ls st cells slots hW hA hl hst hc1 hc2
  obtain ⟨hlen, hp⟩ := bif_s hp
  have hlen : len = 1 := Nat.eq_of_beq_eq_true hlen
  subst hlen
  obtain ⟨h0, hp⟩ := bif_s hp
  cases hp
  cases pnx_s hs
  exact lv_iconst hx hb hd rfl (kk H locs ws tys ls _ cells slots hW hA hl ⟨⟨_, rfl, eq_of_beq h0⟩, hst⟩ hc1 hc2)

theorem ss_bipush {p : Program} {l : Launch} {e : Env} {R : Room} {s : State} {m : MethodId} {args : Array Value} {below : List Frame} {meth : Method} {c : Code} {Q : State → Prop} {D : va_G} {A : Nat → Prop} {sx : Nat → Option Nat} {cc : ByteArray} {nL K rt d n0 s0 : Nat} {ws0 : va_W} (hX : pCx p R s m args c sx A K nL d cc) {pc len : Nat} {e0 : pE} {n : Int} (hd : decode cc pc = .ok (.bipush n, len)) (hp : ptr K rt pc (.bipush n) len = some e0) {Y Y' : pY} {G G' : pG} {pc' : Nat} {loc loc' stk stk' : List pV} (hs : pstep Y G e0 pc loc stk = some (.inl (pc', loc', stk', Y', G'))) (kk : pKK p l e R s m args below meth c Q D A sx nL n0 s0 ws0 pc' loc' stk' Y' G') : pKK p l e R s m args below meth c Q D A sx nL n0 s0 ws0 pc loc stk Y G := by
  obtain ⟨hx, hb, hml, hown, hts, hnest, hao, hstr, hAA, hfr, hlo⟩ := hX
  intro H locs ws tys ls st cells slots hW hA hl hst hc1 hc2
  obtain ⟨hlen, hp⟩ := bif_s hp
  have hlen : len = 2 := Nat.eq_of_beq_eq_true hlen
  subst hlen
  obtain ⟨h0, hp⟩ := bif_s hp
  cases hp
  cases pnx_s hs
  exact lv_bipush hx hb hd rfl (kk H locs ws tys ls _ cells slots hW hA hl ⟨⟨_, rfl, eq_of_beq h0⟩, hst⟩ hc1 hc2)

theorem ss_sipush {p : Program} {l : Launch} {e : Env} {R : Room} {s : State} {m : MethodId} {args : Array Value} {below : List Frame} {meth : Method} {c : Code} {Q : State → Prop} {D : va_G} {A : Nat → Prop} {sx : Nat → Option Nat} {cc : ByteArray} {nL K rt d n0 s0 : Nat} {ws0 : va_W} (hX : pCx p R s m args c sx A K nL d cc) {pc len : Nat} {e0 : pE} {n : Int} (hd : decode cc pc = .ok (.sipush n, len)) (hp : ptr K rt pc (.sipush n) len = some e0) {Y Y' : pY} {G G' : pG} {pc' : Nat} {loc loc' stk stk' : List pV} (hs : pstep Y G e0 pc loc stk = some (.inl (pc', loc', stk', Y', G'))) (kk : pKK p l e R s m args below meth c Q D A sx nL n0 s0 ws0 pc' loc' stk' Y' G') : pKK p l e R s m args below meth c Q D A sx nL n0 s0 ws0 pc loc stk Y G := by
  obtain ⟨hx, hb, hml, hown, hts, hnest, hao, hstr, hAA, hfr, hlo⟩ := hX
  intro H locs ws tys ls st cells slots hW hA hl hst hc1 hc2
  obtain ⟨hlen, hp⟩ := bif_s hp
  have hlen : len = 3 := Nat.eq_of_beq_eq_true hlen
  subst hlen
  obtain ⟨h0, hp⟩ := bif_s hp
  cases hp
  cases pnx_s hs
  exact lv_sipush hx hb hd rfl (kk H locs ws tys ls _ cells slots hW hA hl ⟨⟨_, rfl, eq_of_beq h0⟩, hst⟩ hc1 hc2)

theorem ss_lconst {p : Program} {l : Launch} {e : Env} {R : Room} {s : State} {m : MethodId} {args : Array Value} {below : List Frame} {meth : Method} {c : Code} {Q : State → Prop} {D : va_G} {A : Nat → Prop} {sx : Nat → Option Nat} {cc : ByteArray} {nL K rt d n0 s0 : Nat} {ws0 : va_W} (hX : pCx p R s m args c sx A K nL d cc) {pc len : Nat} {e0 : pE} {n : Fin 2} (hd : decode cc pc = .ok (.lconst n, len)) (hp : ptr K rt pc (.lconst n) len = some e0) {Y Y' : pY} {G G' : pG} {pc' : Nat} {loc loc' stk stk' : List pV} (hs : pstep Y G e0 pc loc stk = some (.inl (pc', loc', stk', Y', G'))) (kk : pKK p l e R s m args below meth c Q D A sx nL n0 s0 ws0 pc' loc' stk' Y' G') : pKK p l e R s m args below meth c Q D A sx nL n0 s0 ws0 pc loc stk Y G := by
  obtain ⟨hx, hb, hml, hown, hts, hnest, hao, hstr, hAA, hfr, hlo⟩ := hX
  intro H locs ws tys ls st cells slots hW hA hl hst hc1 hc2
  obtain ⟨hlen, hp⟩ := bif_s hp
  have hlen : len = 1 := Nat.eq_of_beq_eq_true hlen
  subst hlen
  cases hp
  cases pnx_s hs
  exact lv_lconst hx hb hd rfl (kk H locs ws tys ls _ cells slots hW hA hl ⟨⟨_, rfl, by
    have h2 := n.isLt
    have h3 : (n : Nat) = 0 ∨ (n : Nat) = 1 := by omega
    rcases h3 with h3 | h3 <;> rw [h3] <;> rfl⟩, hst⟩ hc1 hc2)

theorem ss_ldc2 {p : Program} {l : Launch} {e : Env} {R : Room} {s : State} {m : MethodId} {args : Array Value} {below : List Frame} {meth : Method} {c : Code} {Q : State → Prop} {D : va_G} {A : Nat → Prop} {sx : Nat → Option Nat} {cc : ByteArray} {nL K rt d n0 s0 : Nat} {ws0 : va_W} (hX : pCx p R s m args c sx A K nL d cc) {pc len : Nat} {e0 : pE} {i : Nat} (hd : decode cc pc = .ok (.ldc2_w i, len)) (hp : ptr K rt pc (.ldc2_w i) len = some e0) {Y Y' : pY} {G G' : pG} {pc' : Nat} {loc loc' stk stk' : List pV} (hs : pstep Y G e0 pc loc stk = some (.inl (pc', loc', stk', Y', G'))) (kk : pKK p l e R s m args below meth c Q D A sx nL n0 s0 ws0 pc' loc' stk' Y' G') : pKK p l e R s m args below meth c Q D A sx nL n0 s0 ws0 pc loc stk Y G := by
  obtain ⟨hx, hb, hml, hown, hts, hnest, hao, hstr, hAA, hfr, hlo⟩ := hX
  intro H locs ws tys ls st cells slots hW hA hl hst hc1 hc2
  obtain ⟨hlen, hp⟩ := bif_s hp
  have hlen : len = 3 := Nat.eq_of_beq_eq_true hlen
  subst hlen
  obtain ⟨v, hv, hp⟩ := k_op_s hp
  cases hp
  cases pnx_s hs
  exact lv_ldc2 hx hb hown (hts _ (lkL_in hv)) hd (kk H locs ws tys ls _ cells slots hW hA hl ⟨⟨_, rfl, lkL_bd _ (lkf_mem hv)⟩, hst⟩ hc1 hc2)

theorem ss_iload_n {p : Program} {l : Launch} {e : Env} {R : Room} {s : State} {m : MethodId} {args : Array Value} {below : List Frame} {meth : Method} {c : Code} {Q : State → Prop} {D : va_G} {A : Nat → Prop} {sx : Nat → Option Nat} {cc : ByteArray} {nL K rt d n0 s0 : Nat} {ws0 : va_W} (hX : pCx p R s m args c sx A K nL d cc) {pc len : Nat} {e0 : pE} {k : Fin 4} (hd : decode cc pc = .ok (.iload_n k, len)) (hp : ptr K rt pc (.iload_n k) len = some e0) {Y Y' : pY} {G G' : pG} {pc' : Nat} {loc loc' stk stk' : List pV} (hs : pstep Y G e0 pc loc stk = some (.inl (pc', loc', stk', Y', G'))) (kk : pKK p l e R s m args below meth c Q D A sx nL n0 s0 ws0 pc' loc' stk' Y' G') : pKK p l e R s m args below meth c Q D A sx nL n0 s0 ws0 pc loc stk Y G := by
  obtain ⟨hx, hb, hml, hown, hts, hnest, hao, hstr, hAA, hfr, hlo⟩ := hX
  intro H locs ws tys ls st cells slots hW hA hl hst hc1 hc2
  obtain ⟨hlen, hp⟩ := bif_s hp
  have hlen : len = 1 := Nat.eq_of_beq_eq_true hlen
  subst hlen
  cases hp
  obtain ⟨x, hk, hs⟩ := k_oi_s hs
  cases pnx_s hs
  obtain ⟨w, hw, hv⟩ := hl.at hk (fun q => by cases q)
  have hv0 := hv
  obtain ⟨y, rfl, hy⟩ := hv
  exact lv_iload_n hx hb hd rfl hw (kk H locs ws tys ls _ cells slots hW hA hl ⟨hv0, hst⟩ hc1 hc2)

theorem ss_iload {p : Program} {l : Launch} {e : Env} {R : Room} {s : State} {m : MethodId} {args : Array Value} {below : List Frame} {meth : Method} {c : Code} {Q : State → Prop} {D : va_G} {A : Nat → Prop} {sx : Nat → Option Nat} {cc : ByteArray} {nL K rt d n0 s0 : Nat} {ws0 : va_W} (hX : pCx p R s m args c sx A K nL d cc) {pc len : Nat} {e0 : pE} {k : Nat} (hd : decode cc pc = .ok (.iload k, len)) (hp : ptr K rt pc (.iload k) len = some e0) {Y Y' : pY} {G G' : pG} {pc' : Nat} {loc loc' stk stk' : List pV} (hs : pstep Y G e0 pc loc stk = some (.inl (pc', loc', stk', Y', G'))) (kk : pKK p l e R s m args below meth c Q D A sx nL n0 s0 ws0 pc' loc' stk' Y' G') : pKK p l e R s m args below meth c Q D A sx nL n0 s0 ws0 pc loc stk Y G := by
  obtain ⟨hx, hb, hml, hown, hts, hnest, hao, hstr, hAA, hfr, hlo⟩ := hX
  intro H locs ws tys ls st cells slots hW hA hl hst hc1 hc2
  obtain ⟨hlen, hp⟩ := bif_s hp
  have hlen : len = 2 := Nat.eq_of_beq_eq_true hlen
  subst hlen
  cases hp
  obtain ⟨x, hk, hs⟩ := k_oi_s hs
  cases pnx_s hs
  obtain ⟨w, hw, hv⟩ := hl.at hk (fun q => by cases q)
  have hv0 := hv
  obtain ⟨y, rfl, hy⟩ := hv
  exact lv_iload hx hb hd hw (kk H locs ws tys ls _ cells slots hW hA hl ⟨hv0, hst⟩ hc1 hc2)

theorem ss_lload_n {p : Program} {l : Launch} {e : Env} {R : Room} {s : State} {m : MethodId} {args : Array Value} {below : List Frame} {meth : Method} {c : Code} {Q : State → Prop} {D : va_G} {A : Nat → Prop} {sx : Nat → Option Nat} {cc : ByteArray} {nL K rt d n0 s0 : Nat} {ws0 : va_W} (hX : pCx p R s m args c sx A K nL d cc) {pc len : Nat} {e0 : pE} {k : Fin 4} (hd : decode cc pc = .ok (.lload_n k, len)) (hp : ptr K rt pc (.lload_n k) len = some e0) {Y Y' : pY} {G G' : pG} {pc' : Nat} {loc loc' stk stk' : List pV} (hs : pstep Y G e0 pc loc stk = some (.inl (pc', loc', stk', Y', G'))) (kk : pKK p l e R s m args below meth c Q D A sx nL n0 s0 ws0 pc' loc' stk' Y' G') : pKK p l e R s m args below meth c Q D A sx nL n0 s0 ws0 pc loc stk Y G := by
  obtain ⟨hx, hb, hml, hown, hts, hnest, hao, hstr, hAA, hfr, hlo⟩ := hX
  intro H locs ws tys ls st cells slots hW hA hl hst hc1 hc2
  obtain ⟨hlen, hp⟩ := bif_s hp
  have hlen : len = 1 := Nat.eq_of_beq_eq_true hlen
  subst hlen
  cases hp
  obtain ⟨x, hk, hs⟩ := k_ol_s hs
  cases pnx_s hs
  obtain ⟨w, hw, hv⟩ := hl.at hk (fun q => by cases q)
  have hv0 := hv
  obtain ⟨y, rfl, hy⟩ := hv
  exact lv_lload_n hx hb hd rfl hw (kk H locs ws tys ls _ cells slots hW hA hl ⟨hv0, hst⟩ hc1 hc2)

theorem ss_lload {p : Program} {l : Launch} {e : Env} {R : Room} {s : State} {m : MethodId} {args : Array Value} {below : List Frame} {meth : Method} {c : Code} {Q : State → Prop} {D : va_G} {A : Nat → Prop} {sx : Nat → Option Nat} {cc : ByteArray} {nL K rt d n0 s0 : Nat} {ws0 : va_W} (hX : pCx p R s m args c sx A K nL d cc) {pc len : Nat} {e0 : pE} {k : Nat} (hd : decode cc pc = .ok (.lload k, len)) (hp : ptr K rt pc (.lload k) len = some e0) {Y Y' : pY} {G G' : pG} {pc' : Nat} {loc loc' stk stk' : List pV} (hs : pstep Y G e0 pc loc stk = some (.inl (pc', loc', stk', Y', G'))) (kk : pKK p l e R s m args below meth c Q D A sx nL n0 s0 ws0 pc' loc' stk' Y' G') : pKK p l e R s m args below meth c Q D A sx nL n0 s0 ws0 pc loc stk Y G := by
  obtain ⟨hx, hb, hml, hown, hts, hnest, hao, hstr, hAA, hfr, hlo⟩ := hX
  intro H locs ws tys ls st cells slots hW hA hl hst hc1 hc2
  obtain ⟨hlen, hp⟩ := bif_s hp
  have hlen : len = 2 := Nat.eq_of_beq_eq_true hlen
  subst hlen
  cases hp
  obtain ⟨x, hk, hs⟩ := k_ol_s hs
  cases pnx_s hs
  obtain ⟨w, hw, hv⟩ := hl.at hk (fun q => by cases q)
  have hv0 := hv
  obtain ⟨y, rfl, hy⟩ := hv
  exact lv_lload hx hb hd hw (kk H locs ws tys ls _ cells slots hW hA hl ⟨hv0, hst⟩ hc1 hc2)

theorem ss_aload_n {p : Program} {l : Launch} {e : Env} {R : Room} {s : State} {m : MethodId} {args : Array Value} {below : List Frame} {meth : Method} {c : Code} {Q : State → Prop} {D : va_G} {A : Nat → Prop} {sx : Nat → Option Nat} {cc : ByteArray} {nL K rt d n0 s0 : Nat} {ws0 : va_W} (hX : pCx p R s m args c sx A K nL d cc) {pc len : Nat} {e0 : pE} {k : Fin 4} (hd : decode cc pc = .ok (.aload_n k, len)) (hp : ptr K rt pc (.aload_n k) len = some e0) {Y Y' : pY} {G G' : pG} {pc' : Nat} {loc loc' stk stk' : List pV} (hs : pstep Y G e0 pc loc stk = some (.inl (pc', loc', stk', Y', G'))) (kk : pKK p l e R s m args below meth c Q D A sx nL n0 s0 ws0 pc' loc' stk' Y' G') : pKK p l e R s m args below meth c Q D A sx nL n0 s0 ws0 pc loc stk Y G := by
  obtain ⟨hx, hb, hml, hown, hts, hnest, hao, hstr, hAA, hfr, hlo⟩ := hX
  intro H locs ws tys ls st cells slots hW hA hl hst hc1 hc2
  obtain ⟨hlen, hp⟩ := bif_s hp
  have hlen : len = 1 := Nat.eq_of_beq_eq_true hlen
  subst hlen
  cases hp
  obtain ⟨x, hk, hs⟩ := k_or_s hs
  cases pnx_s hs
  obtain ⟨w, hw, hv⟩ := hl.at hk (fun q => by cases q)
  have hv0 := hv
  obtain ⟨y, rfl, hy⟩ := hv
  exact lv_aload_n hx hb hd rfl hw (kk H locs ws tys ls _ cells slots hW hA hl ⟨hv0, hst⟩ hc1 hc2)

theorem ss_aload {p : Program} {l : Launch} {e : Env} {R : Room} {s : State} {m : MethodId} {args : Array Value} {below : List Frame} {meth : Method} {c : Code} {Q : State → Prop} {D : va_G} {A : Nat → Prop} {sx : Nat → Option Nat} {cc : ByteArray} {nL K rt d n0 s0 : Nat} {ws0 : va_W} (hX : pCx p R s m args c sx A K nL d cc) {pc len : Nat} {e0 : pE} {k : Nat} (hd : decode cc pc = .ok (.aload k, len)) (hp : ptr K rt pc (.aload k) len = some e0) {Y Y' : pY} {G G' : pG} {pc' : Nat} {loc loc' stk stk' : List pV} (hs : pstep Y G e0 pc loc stk = some (.inl (pc', loc', stk', Y', G'))) (kk : pKK p l e R s m args below meth c Q D A sx nL n0 s0 ws0 pc' loc' stk' Y' G') : pKK p l e R s m args below meth c Q D A sx nL n0 s0 ws0 pc loc stk Y G := by
  obtain ⟨hx, hb, hml, hown, hts, hnest, hao, hstr, hAA, hfr, hlo⟩ := hX
  intro H locs ws tys ls st cells slots hW hA hl hst hc1 hc2
  obtain ⟨hlen, hp⟩ := bif_s hp
  have hlen : len = 2 := Nat.eq_of_beq_eq_true hlen
  subst hlen
  cases hp
  obtain ⟨x, hk, hs⟩ := k_or_s hs
  cases pnx_s hs
  obtain ⟨w, hw, hv⟩ := hl.at hk (fun q => by cases q)
  have hv0 := hv
  obtain ⟨y, rfl, hy⟩ := hv
  exact lv_aload hx hb hd hw (kk H locs ws tys ls _ cells slots hW hA hl ⟨hv0, hst⟩ hc1 hc2)

theorem ss_istore_n {p : Program} {l : Launch} {e : Env} {R : Room} {s : State} {m : MethodId} {args : Array Value} {below : List Frame} {meth : Method} {c : Code} {Q : State → Prop} {D : va_G} {A : Nat → Prop} {sx : Nat → Option Nat} {cc : ByteArray} {nL K rt d n0 s0 : Nat} {ws0 : va_W} (hX : pCx p R s m args c sx A K nL d cc) {pc len : Nat} {e0 : pE} {k : Fin 4} (hd : decode cc pc = .ok (.istore_n k, len)) (hp : ptr K rt pc (.istore_n k) len = some e0) {Y Y' : pY} {G G' : pG} {pc' : Nat} {loc loc' stk stk' : List pV} (hs : pstep Y G e0 pc loc stk = some (.inl (pc', loc', stk', Y', G'))) (kk : pKK p l e R s m args below meth c Q D A sx nL n0 s0 ws0 pc' loc' stk' Y' G') : pKK p l e R s m args below meth c Q D A sx nL n0 s0 ws0 pc loc stk Y G := by
  obtain ⟨hx, hb, hml, hown, hts, hnest, hao, hstr, hAA, hfr, hlo⟩ := hX
  intro H locs ws tys ls st cells slots hW hA hl hst hc1 hc2
  obtain ⟨hlen, hp⟩ := bif_s hp
  have hlen : len = 1 := Nat.eq_of_beq_eq_true hlen
  subst hlen
  cases hp
  obtain ⟨x, stk0, rfl, hs⟩ := k_i_s hs
  obtain ⟨hbd, hs⟩ := bif_s hs
  have hbd : k.val < loc.length := by simpa [Nat.blt_eq] using hbd
  cases pnx_s hs
  obtain ⟨y, st1, rfl, hy, h1⟩ := sR_i hst
  intro T hT X
  obtain ⟨ls', e', -⟩ := lv_store1 (v := .int y) (l := []) ⟨hl.1, hl.2.1, fun _ h => by cases h⟩ (show k.val < nL by have := hl.2.2.1; omega) rfl
  obtain ⟨t, a, b⟩ := kk H locs ws tys ls' _ cells slots hW hA (hl.st1 hbd rfl e' ⟨y, rfl, hy⟩) h1 hc1 hc2 T hT X
  refine ⟨t, ?_, b⟩
  jvm_step X.here [X.here.top, ↓top_set X.here.top, hx, hb, hd, e']
  exact a

theorem ss_istore {p : Program} {l : Launch} {e : Env} {R : Room} {s : State} {m : MethodId} {args : Array Value} {below : List Frame} {meth : Method} {c : Code} {Q : State → Prop} {D : va_G} {A : Nat → Prop} {sx : Nat → Option Nat} {cc : ByteArray} {nL K rt d n0 s0 : Nat} {ws0 : va_W} (hX : pCx p R s m args c sx A K nL d cc) {pc len : Nat} {e0 : pE} {k : Nat} (hd : decode cc pc = .ok (.istore k, len)) (hp : ptr K rt pc (.istore k) len = some e0) {Y Y' : pY} {G G' : pG} {pc' : Nat} {loc loc' stk stk' : List pV} (hs : pstep Y G e0 pc loc stk = some (.inl (pc', loc', stk', Y', G'))) (kk : pKK p l e R s m args below meth c Q D A sx nL n0 s0 ws0 pc' loc' stk' Y' G') : pKK p l e R s m args below meth c Q D A sx nL n0 s0 ws0 pc loc stk Y G := by
  obtain ⟨hx, hb, hml, hown, hts, hnest, hao, hstr, hAA, hfr, hlo⟩ := hX
  intro H locs ws tys ls st cells slots hW hA hl hst hc1 hc2
  obtain ⟨hlen, hp⟩ := bif_s hp
  have hlen : len = 2 := Nat.eq_of_beq_eq_true hlen
  subst hlen
  cases hp
  obtain ⟨x, stk0, rfl, hs⟩ := k_i_s hs
  obtain ⟨hbd, hs⟩ := bif_s hs
  have hbd : k < loc.length := by simpa [Nat.blt_eq] using hbd
  cases pnx_s hs
  obtain ⟨y, st1, rfl, hy, h1⟩ := sR_i hst
  intro T hT X
  obtain ⟨ls', e', -⟩ := lv_store1 (v := .int y) (l := []) ⟨hl.1, hl.2.1, fun _ h => by cases h⟩ (show k < nL by have := hl.2.2.1; omega) rfl
  obtain ⟨t, a, b⟩ := kk H locs ws tys ls' _ cells slots hW hA (hl.st1 hbd rfl e' ⟨y, rfl, hy⟩) h1 hc1 hc2 T hT X
  refine ⟨t, ?_, b⟩
  jvm_step X.here [X.here.top, ↓top_set X.here.top, hx, hb, hd, e']
  exact a

theorem ss_astore_n {p : Program} {l : Launch} {e : Env} {R : Room} {s : State} {m : MethodId} {args : Array Value} {below : List Frame} {meth : Method} {c : Code} {Q : State → Prop} {D : va_G} {A : Nat → Prop} {sx : Nat → Option Nat} {cc : ByteArray} {nL K rt d n0 s0 : Nat} {ws0 : va_W} (hX : pCx p R s m args c sx A K nL d cc) {pc len : Nat} {e0 : pE} {k : Fin 4} (hd : decode cc pc = .ok (.astore_n k, len)) (hp : ptr K rt pc (.astore_n k) len = some e0) {Y Y' : pY} {G G' : pG} {pc' : Nat} {loc loc' stk stk' : List pV} (hs : pstep Y G e0 pc loc stk = some (.inl (pc', loc', stk', Y', G'))) (kk : pKK p l e R s m args below meth c Q D A sx nL n0 s0 ws0 pc' loc' stk' Y' G') : pKK p l e R s m args below meth c Q D A sx nL n0 s0 ws0 pc loc stk Y G := by
  obtain ⟨hx, hb, hml, hown, hts, hnest, hao, hstr, hAA, hfr, hlo⟩ := hX
  intro H locs ws tys ls st cells slots hW hA hl hst hc1 hc2
  obtain ⟨hlen, hp⟩ := bif_s hp
  have hlen : len = 1 := Nat.eq_of_beq_eq_true hlen
  subst hlen
  cases hp
  obtain ⟨x, stk0, rfl, hs⟩ := k_r_s hs
  obtain ⟨hbd, hs⟩ := bif_s hs
  have hbd : k.val < loc.length := by simpa [Nat.blt_eq] using hbd
  cases pnx_s hs
  obtain ⟨y, st1, rfl, hy, h1⟩ := sR_r hst
  intro T hT X
  obtain ⟨ls', e', -⟩ := lv_store1 (v := .ref y) (l := []) ⟨hl.1, hl.2.1, fun _ h => by cases h⟩ (show k.val < nL by have := hl.2.2.1; omega) rfl
  obtain ⟨t, a, b⟩ := kk H locs ws tys ls' _ cells slots hW hA (hl.st1 hbd rfl e' ⟨y, rfl, hy⟩) h1 hc1 hc2 T hT X
  refine ⟨t, ?_, b⟩
  jvm_step X.here [X.here.top, ↓top_set X.here.top, hx, hb, hd, e', Value.isRef]
  exact a

theorem ss_astore {p : Program} {l : Launch} {e : Env} {R : Room} {s : State} {m : MethodId} {args : Array Value} {below : List Frame} {meth : Method} {c : Code} {Q : State → Prop} {D : va_G} {A : Nat → Prop} {sx : Nat → Option Nat} {cc : ByteArray} {nL K rt d n0 s0 : Nat} {ws0 : va_W} (hX : pCx p R s m args c sx A K nL d cc) {pc len : Nat} {e0 : pE} {k : Nat} (hd : decode cc pc = .ok (.astore k, len)) (hp : ptr K rt pc (.astore k) len = some e0) {Y Y' : pY} {G G' : pG} {pc' : Nat} {loc loc' stk stk' : List pV} (hs : pstep Y G e0 pc loc stk = some (.inl (pc', loc', stk', Y', G'))) (kk : pKK p l e R s m args below meth c Q D A sx nL n0 s0 ws0 pc' loc' stk' Y' G') : pKK p l e R s m args below meth c Q D A sx nL n0 s0 ws0 pc loc stk Y G := by
  obtain ⟨hx, hb, hml, hown, hts, hnest, hao, hstr, hAA, hfr, hlo⟩ := hX
  intro H locs ws tys ls st cells slots hW hA hl hst hc1 hc2
  obtain ⟨hlen, hp⟩ := bif_s hp
  have hlen : len = 2 := Nat.eq_of_beq_eq_true hlen
  subst hlen
  cases hp
  obtain ⟨x, stk0, rfl, hs⟩ := k_r_s hs
  obtain ⟨hbd, hs⟩ := bif_s hs
  have hbd : k < loc.length := by simpa [Nat.blt_eq] using hbd
  cases pnx_s hs
  obtain ⟨y, st1, rfl, hy, h1⟩ := sR_r hst
  intro T hT X
  obtain ⟨ls', e', -⟩ := lv_store1 (v := .ref y) (l := []) ⟨hl.1, hl.2.1, fun _ h => by cases h⟩ (show k < nL by have := hl.2.2.1; omega) rfl
  obtain ⟨t, a, b⟩ := kk H locs ws tys ls' _ cells slots hW hA (hl.st1 hbd rfl e' ⟨y, rfl, hy⟩) h1 hc1 hc2 T hT X
  refine ⟨t, ?_, b⟩
  jvm_step X.here [X.here.top, ↓top_set X.here.top, hx, hb, hd, e', Value.isRef]
  exact a

theorem ss_lstore_n {p : Program} {l : Launch} {e : Env} {R : Room} {s : State} {m : MethodId} {args : Array Value} {below : List Frame} {meth : Method} {c : Code} {Q : State → Prop} {D : va_G} {A : Nat → Prop} {sx : Nat → Option Nat} {cc : ByteArray} {nL K rt d n0 s0 : Nat} {ws0 : va_W} (hX : pCx p R s m args c sx A K nL d cc) {pc len : Nat} {e0 : pE} {k : Fin 4} (hd : decode cc pc = .ok (.lstore_n k, len)) (hp : ptr K rt pc (.lstore_n k) len = some e0) {Y Y' : pY} {G G' : pG} {pc' : Nat} {loc loc' stk stk' : List pV} (hs : pstep Y G e0 pc loc stk = some (.inl (pc', loc', stk', Y', G'))) (kk : pKK p l e R s m args below meth c Q D A sx nL n0 s0 ws0 pc' loc' stk' Y' G') : pKK p l e R s m args below meth c Q D A sx nL n0 s0 ws0 pc loc stk Y G := by
  obtain ⟨hx, hb, hml, hown, hts, hnest, hao, hstr, hAA, hfr, hlo⟩ := hX
  intro H locs ws tys ls st cells slots hW hA hl hst hc1 hc2
  obtain ⟨hlen, hp⟩ := bif_s hp
  have hlen : len = 1 := Nat.eq_of_beq_eq_true hlen
  subst hlen
  cases hp
  obtain ⟨x, stk0, rfl, hs⟩ := k_l_s hs
  obtain ⟨hbd, hs⟩ := bif_s hs
  have hbd : k.val + 1 < loc.length := by simpa [Nat.blt_eq] using hbd
  cases pnx_s hs
  obtain ⟨y, st1, rfl, hy, h1⟩ := sR_l hst
  intro T hT X
  obtain ⟨ls', e', -⟩ := lv_store2 (v := .long y) (l := []) ⟨hl.1, hl.2.1, fun _ h => by cases h⟩ (show k.val + 1 < nL by have := hl.2.2.1; omega) rfl
  obtain ⟨t, a, b⟩ := kk H locs ws tys ls' _ cells slots hW hA (hl.st2 hbd rfl e' ⟨y, rfl, hy⟩) h1 hc1 hc2 T hT X
  refine ⟨t, ?_, b⟩
  jvm_step X.here [X.here.top, ↓top_set X.here.top, hx, hb, hd, e']
  exact a

theorem ss_lstore {p : Program} {l : Launch} {e : Env} {R : Room} {s : State} {m : MethodId} {args : Array Value} {below : List Frame} {meth : Method} {c : Code} {Q : State → Prop} {D : va_G} {A : Nat → Prop} {sx : Nat → Option Nat} {cc : ByteArray} {nL K rt d n0 s0 : Nat} {ws0 : va_W} (hX : pCx p R s m args c sx A K nL d cc) {pc len : Nat} {e0 : pE} {k : Nat} (hd : decode cc pc = .ok (.lstore k, len)) (hp : ptr K rt pc (.lstore k) len = some e0) {Y Y' : pY} {G G' : pG} {pc' : Nat} {loc loc' stk stk' : List pV} (hs : pstep Y G e0 pc loc stk = some (.inl (pc', loc', stk', Y', G'))) (kk : pKK p l e R s m args below meth c Q D A sx nL n0 s0 ws0 pc' loc' stk' Y' G') : pKK p l e R s m args below meth c Q D A sx nL n0 s0 ws0 pc loc stk Y G := by
  obtain ⟨hx, hb, hml, hown, hts, hnest, hao, hstr, hAA, hfr, hlo⟩ := hX
  intro H locs ws tys ls st cells slots hW hA hl hst hc1 hc2
  obtain ⟨hlen, hp⟩ := bif_s hp
  have hlen : len = 2 := Nat.eq_of_beq_eq_true hlen
  subst hlen
  cases hp
  obtain ⟨x, stk0, rfl, hs⟩ := k_l_s hs
  obtain ⟨hbd, hs⟩ := bif_s hs
  have hbd : k + 1 < loc.length := by simpa [Nat.blt_eq] using hbd
  cases pnx_s hs
  obtain ⟨y, st1, rfl, hy, h1⟩ := sR_l hst
  intro T hT X
  obtain ⟨ls', e', -⟩ := lv_store2 (v := .long y) (l := []) ⟨hl.1, hl.2.1, fun _ h => by cases h⟩ (show k + 1 < nL by have := hl.2.2.1; omega) rfl
  obtain ⟨t, a, b⟩ := kk H locs ws tys ls' _ cells slots hW hA (hl.st2 hbd rfl e' ⟨y, rfl, hy⟩) h1 hc1 hc2 T hT X
  refine ⟨t, ?_, b⟩
  jvm_step X.here [X.here.top, ↓top_set X.here.top, hx, hb, hd, e']
  exact a

theorem ss_iinc {p : Program} {l : Launch} {e : Env} {R : Room} {s : State} {m : MethodId} {args : Array Value} {below : List Frame} {meth : Method} {c : Code} {Q : State → Prop} {D : va_G} {A : Nat → Prop} {sx : Nat → Option Nat} {cc : ByteArray} {nL K rt d n0 s0 : Nat} {ws0 : va_W} (hX : pCx p R s m args c sx A K nL d cc) {pc len : Nat} {e0 : pE} {k : Nat} {z : Int} (hd : decode cc pc = .ok (.iinc k z, len)) (hp : ptr K rt pc (.iinc k z) len = some e0) {Y Y' : pY} {G G' : pG} {pc' : Nat} {loc loc' stk stk' : List pV} (hs : pstep Y G e0 pc loc stk = some (.inl (pc', loc', stk', Y', G'))) (kk : pKK p l e R s m args below meth c Q D A sx nL n0 s0 ws0 pc' loc' stk' Y' G') : pKK p l e R s m args below meth c Q D A sx nL n0 s0 ws0 pc loc stk Y G := by
  obtain ⟨hx, hb, hml, hown, hts, hnest, hao, hstr, hAA, hfr, hlo⟩ := hX
  intro H locs ws tys ls st cells slots hW hA hl hst hc1 hc2
  obtain ⟨hlen, hp⟩ := bif_s hp
  have hlen : len = 3 := Nat.eq_of_beq_eq_true hlen
  subst hlen
  cases hp
  obtain ⟨x, hk, hs⟩ := k_oi_s hs
  cases pnx_s hs
  obtain ⟨w, hw, y, rfl, rfl⟩ := hl.at hk (fun q => by cases q)
  have hbd := pn_lt hk
  intro T hT X
  obtain ⟨ls', e', -⟩ := lv_store1 (v := .int (y + Int32.ofInt z)) (l := []) ⟨hl.1, hl.2.1, fun _ h => by cases h⟩ (show k < nL by have := hl.2.2.1; omega) rfl
  obtain ⟨t, a, b⟩ := kk H locs ws tys ls' _ cells slots hW hA (hl.st1 hbd rfl e' ⟨_, rfl, (w32_of _ _).symm⟩) hst hc1 hc2 T hT X
  refine ⟨t, ?_, b⟩
  jvm_step X.here [X.here.top, ↓top_set X.here.top, hx, hb, hd, hw, e']
  exact a

theorem ss_dup {p : Program} {l : Launch} {e : Env} {R : Room} {s : State} {m : MethodId} {args : Array Value} {below : List Frame} {meth : Method} {c : Code} {Q : State → Prop} {D : va_G} {A : Nat → Prop} {sx : Nat → Option Nat} {cc : ByteArray} {nL K rt d n0 s0 : Nat} {ws0 : va_W} (hX : pCx p R s m args c sx A K nL d cc) {pc len : Nat} {e0 : pE} (hd : decode cc pc = .ok (.dup, len)) (hp : ptr K rt pc (.dup) len = some e0) {Y Y' : pY} {G G' : pG} {pc' : Nat} {loc loc' stk stk' : List pV} (hs : pstep Y G e0 pc loc stk = some (.inl (pc', loc', stk', Y', G'))) (kk : pKK p l e R s m args below meth c Q D A sx nL n0 s0 ws0 pc' loc' stk' Y' G') : pKK p l e R s m args below meth c Q D A sx nL n0 s0 ws0 pc loc stk Y G := by
  obtain ⟨hx, hb, hml, hown, hts, hnest, hao, hstr, hAA, hfr, hlo⟩ := hX
  intro H locs ws tys ls st cells slots hW hA hl hst hc1 hc2
  obtain ⟨hlen, hp⟩ := bif_s hp
  have hlen : len = 1 := Nat.eq_of_beq_eq_true hlen
  subst hlen
  cases hp
  obtain ⟨v, stk0, rfl, hv, hs⟩ := k_d_s hs
  cases pnx_s hs
  obtain ⟨w, st1, rfl, h1, h2⟩ := sR_c hst
  exact lv_dup hx hb hd (h1.cat1 hv) (kk H locs ws tys ls _ cells slots hW hA hl ⟨h1, h1, h2⟩ hc1 hc2)

theorem ss_dup2 {p : Program} {l : Launch} {e : Env} {R : Room} {s : State} {m : MethodId} {args : Array Value} {below : List Frame} {meth : Method} {c : Code} {Q : State → Prop} {D : va_G} {A : Nat → Prop} {sx : Nat → Option Nat} {cc : ByteArray} {nL K rt d n0 s0 : Nat} {ws0 : va_W} (hX : pCx p R s m args c sx A K nL d cc) {pc len : Nat} {e0 : pE} (hd : decode cc pc = .ok (.dup2, len)) (hp : ptr K rt pc (.dup2) len = some e0) {Y Y' : pY} {G G' : pG} {pc' : Nat} {loc loc' stk stk' : List pV} (hs : pstep Y G e0 pc loc stk = some (.inl (pc', loc', stk', Y', G'))) (kk : pKK p l e R s m args below meth c Q D A sx nL n0 s0 ws0 pc' loc' stk' Y' G') : pKK p l e R s m args below meth c Q D A sx nL n0 s0 ws0 pc loc stk Y G := by
  obtain ⟨hx, hb, hml, hown, hts, hnest, hao, hstr, hAA, hfr, hlo⟩ := hX
  intro H locs ws tys ls st cells slots hW hA hl hst hc1 hc2
  obtain ⟨hlen, hp⟩ := bif_s hp
  have hlen : len = 1 := Nat.eq_of_beq_eq_true hlen
  subst hlen
  cases hp
  obtain ⟨v, v2, stk0, rfl, hv, hv2, hs⟩ := k_d2_s hs
  cases pnx_s hs
  obtain ⟨w, st1, rfl, h1, h2⟩ := sR_c hst
  obtain ⟨w2, st2, rfl, h3, h4⟩ := sR_c h2
  exact lv_dup2_11 hx hb hd (h1.cat1 hv) (h3.cat1 hv2) (kk H locs ws tys ls _ cells slots hW hA hl ⟨h1, h3, h1, h3, h4⟩ hc1 hc2)

theorem ss_goto {p : Program} {l : Launch} {e : Env} {R : Room} {s : State} {m : MethodId} {args : Array Value} {below : List Frame} {meth : Method} {c : Code} {Q : State → Prop} {D : va_G} {A : Nat → Prop} {sx : Nat → Option Nat} {cc : ByteArray} {nL K rt d n0 s0 : Nat} {ws0 : va_W} (hX : pCx p R s m args c sx A K nL d cc) {pc len : Nat} {e0 : pE} {off : Int} (hd : decode cc pc = .ok (.goto off, len)) (hp : ptr K rt pc (.goto off) len = some e0) {Y Y' : pY} {G G' : pG} {pc' : Nat} {loc loc' stk stk' : List pV} (hs : pstep Y G e0 pc loc stk = some (.inl (pc', loc', stk', Y', G'))) (kk : pKK p l e R s m args below meth c Q D A sx nL n0 s0 ws0 pc' loc' stk' Y' G') : pKK p l e R s m args below meth c Q D A sx nL n0 s0 ws0 pc loc stk Y G := by
  obtain ⟨hx, hb, hml, hown, hts, hnest, hao, hstr, hAA, hfr, hlo⟩ := hX
  intro H locs ws tys ls st cells slots hW hA hl hst hc1 hc2
  obtain ⟨hlen, hp⟩ := bif_s hp
  have hlen : len = 3 := Nat.eq_of_beq_eq_true hlen
  subst hlen
  have hp : ptgt pc off (fun t => some (.goto 0, 3, t, 0, 0)) = some e0 := hp
  obtain ⟨t, ht, hp⟩ := ptgt_s hp
  cases hp
  cases pnx_s hs
  exact lv_goto hx hb hd ht (kk H locs ws tys ls _ cells slots hW hA hl hst hc1 hc2)

theorem ss_if_eq {p : Program} {l : Launch} {e : Env} {R : Room} {s : State} {m : MethodId} {args : Array Value} {below : List Frame} {meth : Method} {c : Code} {Q : State → Prop} {D : va_G} {A : Nat → Prop} {sx : Nat → Option Nat} {cc : ByteArray} {nL K rt d n0 s0 : Nat} {ws0 : va_W} (hX : pCx p R s m args c sx A K nL d cc) {pc len : Nat} {e0 : pE} {off : Int} (hd : decode cc pc = .ok (.ifCond .eq off, len)) (hp : ptr K rt pc (.ifCond .eq off) len = some e0) {Y Y' : pY} {G G' : pG} {pc' : Nat} {loc loc' stk stk' : List pV} (hs : pstep Y G e0 pc loc stk = some (.inl (pc', loc', stk', Y', G'))) (kk : pKK p l e R s m args below meth c Q D A sx nL n0 s0 ws0 pc' loc' stk' Y' G') : pKK p l e R s m args below meth c Q D A sx nL n0 s0 ws0 pc loc stk Y G := by
  obtain ⟨hx, hb, hml, hown, hts, hnest, hao, hstr, hAA, hfr, hlo⟩ := hX
  intro H locs ws tys ls st cells slots hW hA hl hst hc1 hc2
  obtain ⟨hlen, hp⟩ := bif_s hp
  have hlen : len = 3 := Nat.eq_of_beq_eq_true hlen
  subst hlen
  have hp : ptgt pc off (fun t => some (.ifCond .eq 0, 3, t, 0, 0)) = some e0 := hp
  obtain ⟨t, ht, hp⟩ := ptgt_s hp
  cases hp
  obtain ⟨x, stk0, rfl, hs2⟩ := k_i_s hs
  obtain ⟨a1, st1, rfl, rfl, h1⟩ := sR_i hst
  have hiff : a1 = (0 : Int32) ↔ a1.toInt = (0 : Int) := (Int32.toInt_inj (x := a1) (y := (0 : Int32))).symm
  by_cases hc : a1.toInt = (0 : Int)
  · have hb0 : pcc .eq a1.toInt (0 : Int) = true := by simp [pcc, hc]
    have hs3 := hs2
    rw [hb0] at hs3
    cases pnx_s hs3
    exact lv_if_eq hx hb hd ht (fun h => kk H locs ws tys ls _ cells slots hW hA hl h1 hc1 hc2) (fun h => absurd (hiff.mpr hc) (by simpa using h))
  · have hb0 : pcc .eq a1.toInt (0 : Int) = false := by simp [pcc, hc]
    have hs3 := hs2
    rw [hb0] at hs3
    cases pnx_s hs3
    exact lv_if_eq hx hb hd ht (fun h => absurd (hiff.mp (by simpa using h)) hc) (fun h => kk H locs ws tys ls _ cells slots hW hA hl h1 hc1 hc2)

theorem ss_icmp_eq {p : Program} {l : Launch} {e : Env} {R : Room} {s : State} {m : MethodId} {args : Array Value} {below : List Frame} {meth : Method} {c : Code} {Q : State → Prop} {D : va_G} {A : Nat → Prop} {sx : Nat → Option Nat} {cc : ByteArray} {nL K rt d n0 s0 : Nat} {ws0 : va_W} (hX : pCx p R s m args c sx A K nL d cc) {pc len : Nat} {e0 : pE} {off : Int} (hd : decode cc pc = .ok (.if_icmp .eq off, len)) (hp : ptr K rt pc (.if_icmp .eq off) len = some e0) {Y Y' : pY} {G G' : pG} {pc' : Nat} {loc loc' stk stk' : List pV} (hs : pstep Y G e0 pc loc stk = some (.inl (pc', loc', stk', Y', G'))) (kk : pKK p l e R s m args below meth c Q D A sx nL n0 s0 ws0 pc' loc' stk' Y' G') : pKK p l e R s m args below meth c Q D A sx nL n0 s0 ws0 pc loc stk Y G := by
  obtain ⟨hx, hb, hml, hown, hts, hnest, hao, hstr, hAA, hfr, hlo⟩ := hX
  intro H locs ws tys ls st cells slots hW hA hl hst hc1 hc2
  obtain ⟨hlen, hp⟩ := bif_s hp
  have hlen : len = 3 := Nat.eq_of_beq_eq_true hlen
  subst hlen
  have hp : ptgt pc off (fun t => some (.if_icmp .eq 0, 3, t, 0, 0)) = some e0 := hp
  obtain ⟨t, ht, hp⟩ := ptgt_s hp
  cases hp
  obtain ⟨x, y, stk0, rfl, hs2⟩ := k_ii_s hs
  obtain ⟨b1, st0, rfl, rfl, h0⟩ := sR_i hst
  obtain ⟨a1, st1, rfl, rfl, h1⟩ := sR_i h0
  have hiff : a1 = b1 ↔ a1.toInt = b1.toInt := (Int32.toInt_inj (x := a1) (y := b1)).symm
  by_cases hc : a1.toInt = b1.toInt
  · have hb0 : pcc .eq a1.toInt b1.toInt = true := by simp [pcc, hc]
    have hs3 := hs2
    rw [hb0] at hs3
    cases pnx_s hs3
    exact lv_icmp_eq hx hb hd ht (fun h => kk H locs ws tys ls _ cells slots hW hA hl h1 hc1 hc2) (fun h => absurd (hiff.mpr hc) (by simpa using h))
  · have hb0 : pcc .eq a1.toInt b1.toInt = false := by simp [pcc, hc]
    have hs3 := hs2
    rw [hb0] at hs3
    cases pnx_s hs3
    exact lv_icmp_eq hx hb hd ht (fun h => absurd (hiff.mp (by simpa using h)) hc) (fun h => kk H locs ws tys ls _ cells slots hW hA hl h1 hc1 hc2)

theorem ss_if_ne {p : Program} {l : Launch} {e : Env} {R : Room} {s : State} {m : MethodId} {args : Array Value} {below : List Frame} {meth : Method} {c : Code} {Q : State → Prop} {D : va_G} {A : Nat → Prop} {sx : Nat → Option Nat} {cc : ByteArray} {nL K rt d n0 s0 : Nat} {ws0 : va_W} (hX : pCx p R s m args c sx A K nL d cc) {pc len : Nat} {e0 : pE} {off : Int} (hd : decode cc pc = .ok (.ifCond .ne off, len)) (hp : ptr K rt pc (.ifCond .ne off) len = some e0) {Y Y' : pY} {G G' : pG} {pc' : Nat} {loc loc' stk stk' : List pV} (hs : pstep Y G e0 pc loc stk = some (.inl (pc', loc', stk', Y', G'))) (kk : pKK p l e R s m args below meth c Q D A sx nL n0 s0 ws0 pc' loc' stk' Y' G') : pKK p l e R s m args below meth c Q D A sx nL n0 s0 ws0 pc loc stk Y G := by
  obtain ⟨hx, hb, hml, hown, hts, hnest, hao, hstr, hAA, hfr, hlo⟩ := hX
  intro H locs ws tys ls st cells slots hW hA hl hst hc1 hc2
  obtain ⟨hlen, hp⟩ := bif_s hp
  have hlen : len = 3 := Nat.eq_of_beq_eq_true hlen
  subst hlen
  have hp : ptgt pc off (fun t => some (.ifCond .ne 0, 3, t, 0, 0)) = some e0 := hp
  obtain ⟨t, ht, hp⟩ := ptgt_s hp
  cases hp
  obtain ⟨x, stk0, rfl, hs2⟩ := k_i_s hs
  obtain ⟨a1, st1, rfl, rfl, h1⟩ := sR_i hst
  have hiff : a1 = (0 : Int32) ↔ a1.toInt = (0 : Int) := (Int32.toInt_inj (x := a1) (y := (0 : Int32))).symm
  by_cases hc : a1.toInt = (0 : Int)
  · have hb0 : pcc .ne a1.toInt (0 : Int) = false := by simp [pcc, hc]
    have hs3 := hs2
    rw [hb0] at hs3
    cases pnx_s hs3
    exact lv_if_ne hx hb hd ht (fun h => absurd (hiff.mpr hc) h) (fun h => kk H locs ws tys ls _ cells slots hW hA hl h1 hc1 hc2)
  · have hb0 : pcc .ne a1.toInt (0 : Int) = true := by simp [pcc, hc]
    have hs3 := hs2
    rw [hb0] at hs3
    cases pnx_s hs3
    exact lv_if_ne hx hb hd ht (fun h => kk H locs ws tys ls _ cells slots hW hA hl h1 hc1 hc2) (fun h => absurd (hiff.mp (by simpa using h)) hc)

theorem ss_icmp_ne {p : Program} {l : Launch} {e : Env} {R : Room} {s : State} {m : MethodId} {args : Array Value} {below : List Frame} {meth : Method} {c : Code} {Q : State → Prop} {D : va_G} {A : Nat → Prop} {sx : Nat → Option Nat} {cc : ByteArray} {nL K rt d n0 s0 : Nat} {ws0 : va_W} (hX : pCx p R s m args c sx A K nL d cc) {pc len : Nat} {e0 : pE} {off : Int} (hd : decode cc pc = .ok (.if_icmp .ne off, len)) (hp : ptr K rt pc (.if_icmp .ne off) len = some e0) {Y Y' : pY} {G G' : pG} {pc' : Nat} {loc loc' stk stk' : List pV} (hs : pstep Y G e0 pc loc stk = some (.inl (pc', loc', stk', Y', G'))) (kk : pKK p l e R s m args below meth c Q D A sx nL n0 s0 ws0 pc' loc' stk' Y' G') : pKK p l e R s m args below meth c Q D A sx nL n0 s0 ws0 pc loc stk Y G := by
  obtain ⟨hx, hb, hml, hown, hts, hnest, hao, hstr, hAA, hfr, hlo⟩ := hX
  intro H locs ws tys ls st cells slots hW hA hl hst hc1 hc2
  obtain ⟨hlen, hp⟩ := bif_s hp
  have hlen : len = 3 := Nat.eq_of_beq_eq_true hlen
  subst hlen
  have hp : ptgt pc off (fun t => some (.if_icmp .ne 0, 3, t, 0, 0)) = some e0 := hp
  obtain ⟨t, ht, hp⟩ := ptgt_s hp
  cases hp
  obtain ⟨x, y, stk0, rfl, hs2⟩ := k_ii_s hs
  obtain ⟨b1, st0, rfl, rfl, h0⟩ := sR_i hst
  obtain ⟨a1, st1, rfl, rfl, h1⟩ := sR_i h0
  have hiff : a1 = b1 ↔ a1.toInt = b1.toInt := (Int32.toInt_inj (x := a1) (y := b1)).symm
  by_cases hc : a1.toInt = b1.toInt
  · have hb0 : pcc .ne a1.toInt b1.toInt = false := by simp [pcc, hc]
    have hs3 := hs2
    rw [hb0] at hs3
    cases pnx_s hs3
    exact lv_icmp_ne hx hb hd ht (fun h => absurd (hiff.mpr hc) h) (fun h => kk H locs ws tys ls _ cells slots hW hA hl h1 hc1 hc2)
  · have hb0 : pcc .ne a1.toInt b1.toInt = true := by simp [pcc, hc]
    have hs3 := hs2
    rw [hb0] at hs3
    cases pnx_s hs3
    exact lv_icmp_ne hx hb hd ht (fun h => kk H locs ws tys ls _ cells slots hW hA hl h1 hc1 hc2) (fun h => absurd (hiff.mp (by simpa using h)) hc)

theorem ss_if_lt {p : Program} {l : Launch} {e : Env} {R : Room} {s : State} {m : MethodId} {args : Array Value} {below : List Frame} {meth : Method} {c : Code} {Q : State → Prop} {D : va_G} {A : Nat → Prop} {sx : Nat → Option Nat} {cc : ByteArray} {nL K rt d n0 s0 : Nat} {ws0 : va_W} (hX : pCx p R s m args c sx A K nL d cc) {pc len : Nat} {e0 : pE} {off : Int} (hd : decode cc pc = .ok (.ifCond .lt off, len)) (hp : ptr K rt pc (.ifCond .lt off) len = some e0) {Y Y' : pY} {G G' : pG} {pc' : Nat} {loc loc' stk stk' : List pV} (hs : pstep Y G e0 pc loc stk = some (.inl (pc', loc', stk', Y', G'))) (kk : pKK p l e R s m args below meth c Q D A sx nL n0 s0 ws0 pc' loc' stk' Y' G') : pKK p l e R s m args below meth c Q D A sx nL n0 s0 ws0 pc loc stk Y G := by
  obtain ⟨hx, hb, hml, hown, hts, hnest, hao, hstr, hAA, hfr, hlo⟩ := hX
  intro H locs ws tys ls st cells slots hW hA hl hst hc1 hc2
  obtain ⟨hlen, hp⟩ := bif_s hp
  have hlen : len = 3 := Nat.eq_of_beq_eq_true hlen
  subst hlen
  have hp : ptgt pc off (fun t => some (.ifCond .lt 0, 3, t, 0, 0)) = some e0 := hp
  obtain ⟨t, ht, hp⟩ := ptgt_s hp
  cases hp
  obtain ⟨x, stk0, rfl, hs2⟩ := k_i_s hs
  obtain ⟨a1, st1, rfl, rfl, h1⟩ := sR_i hst
  have hiff : a1 < (0 : Int32) ↔ a1.toInt < (0 : Int) := Int32.lt_iff_toInt_lt
  by_cases hc : a1.toInt < (0 : Int)
  · have hb0 : pcc .lt a1.toInt (0 : Int) = true := by simp [pcc, hc]
    have hs3 := hs2
    rw [hb0] at hs3
    cases pnx_s hs3
    exact lv_if_lt hx hb hd ht (fun h => kk H locs ws tys ls _ cells slots hW hA hl h1 hc1 hc2) (fun h => absurd (hiff.mpr hc) (by simpa using h))
  · have hb0 : pcc .lt a1.toInt (0 : Int) = false := by simp [pcc, hc]
    have hs3 := hs2
    rw [hb0] at hs3
    cases pnx_s hs3
    exact lv_if_lt hx hb hd ht (fun h => absurd (hiff.mp (by simpa using h)) hc) (fun h => kk H locs ws tys ls _ cells slots hW hA hl h1 hc1 hc2)

theorem ss_icmp_lt {p : Program} {l : Launch} {e : Env} {R : Room} {s : State} {m : MethodId} {args : Array Value} {below : List Frame} {meth : Method} {c : Code} {Q : State → Prop} {D : va_G} {A : Nat → Prop} {sx : Nat → Option Nat} {cc : ByteArray} {nL K rt d n0 s0 : Nat} {ws0 : va_W} (hX : pCx p R s m args c sx A K nL d cc) {pc len : Nat} {e0 : pE} {off : Int} (hd : decode cc pc = .ok (.if_icmp .lt off, len)) (hp : ptr K rt pc (.if_icmp .lt off) len = some e0) {Y Y' : pY} {G G' : pG} {pc' : Nat} {loc loc' stk stk' : List pV} (hs : pstep Y G e0 pc loc stk = some (.inl (pc', loc', stk', Y', G'))) (kk : pKK p l e R s m args below meth c Q D A sx nL n0 s0 ws0 pc' loc' stk' Y' G') : pKK p l e R s m args below meth c Q D A sx nL n0 s0 ws0 pc loc stk Y G := by
  obtain ⟨hx, hb, hml, hown, hts, hnest, hao, hstr, hAA, hfr, hlo⟩ := hX
  intro H locs ws tys ls st cells slots hW hA hl hst hc1 hc2
  obtain ⟨hlen, hp⟩ := bif_s hp
  have hlen : len = 3 := Nat.eq_of_beq_eq_true hlen
  subst hlen
  have hp : ptgt pc off (fun t => some (.if_icmp .lt 0, 3, t, 0, 0)) = some e0 := hp
  obtain ⟨t, ht, hp⟩ := ptgt_s hp
  cases hp
  obtain ⟨x, y, stk0, rfl, hs2⟩ := k_ii_s hs
  obtain ⟨b1, st0, rfl, rfl, h0⟩ := sR_i hst
  obtain ⟨a1, st1, rfl, rfl, h1⟩ := sR_i h0
  have hiff : a1 < b1 ↔ a1.toInt < b1.toInt := Int32.lt_iff_toInt_lt
  by_cases hc : a1.toInt < b1.toInt
  · have hb0 : pcc .lt a1.toInt b1.toInt = true := by simp [pcc, hc]
    have hs3 := hs2
    rw [hb0] at hs3
    cases pnx_s hs3
    exact lv_icmp_lt hx hb hd ht (fun h => kk H locs ws tys ls _ cells slots hW hA hl h1 hc1 hc2) (fun h => absurd (hiff.mpr hc) (by simpa using h))
  · have hb0 : pcc .lt a1.toInt b1.toInt = false := by simp [pcc, hc]
    have hs3 := hs2
    rw [hb0] at hs3
    cases pnx_s hs3
    exact lv_icmp_lt hx hb hd ht (fun h => absurd (hiff.mp (by simpa using h)) hc) (fun h => kk H locs ws tys ls _ cells slots hW hA hl h1 hc1 hc2)

theorem ss_if_ge {p : Program} {l : Launch} {e : Env} {R : Room} {s : State} {m : MethodId} {args : Array Value} {below : List Frame} {meth : Method} {c : Code} {Q : State → Prop} {D : va_G} {A : Nat → Prop} {sx : Nat → Option Nat} {cc : ByteArray} {nL K rt d n0 s0 : Nat} {ws0 : va_W} (hX : pCx p R s m args c sx A K nL d cc) {pc len : Nat} {e0 : pE} {off : Int} (hd : decode cc pc = .ok (.ifCond .ge off, len)) (hp : ptr K rt pc (.ifCond .ge off) len = some e0) {Y Y' : pY} {G G' : pG} {pc' : Nat} {loc loc' stk stk' : List pV} (hs : pstep Y G e0 pc loc stk = some (.inl (pc', loc', stk', Y', G'))) (kk : pKK p l e R s m args below meth c Q D A sx nL n0 s0 ws0 pc' loc' stk' Y' G') : pKK p l e R s m args below meth c Q D A sx nL n0 s0 ws0 pc loc stk Y G := by
  obtain ⟨hx, hb, hml, hown, hts, hnest, hao, hstr, hAA, hfr, hlo⟩ := hX
  intro H locs ws tys ls st cells slots hW hA hl hst hc1 hc2
  obtain ⟨hlen, hp⟩ := bif_s hp
  have hlen : len = 3 := Nat.eq_of_beq_eq_true hlen
  subst hlen
  have hp : ptgt pc off (fun t => some (.ifCond .ge 0, 3, t, 0, 0)) = some e0 := hp
  obtain ⟨t, ht, hp⟩ := ptgt_s hp
  cases hp
  obtain ⟨x, stk0, rfl, hs2⟩ := k_i_s hs
  obtain ⟨a1, st1, rfl, rfl, h1⟩ := sR_i hst
  have hiff : (0 : Int32) ≤ a1 ↔ (0 : Int) ≤ a1.toInt := Int32.le_iff_toInt_le
  by_cases hc : (0 : Int) ≤ a1.toInt
  · have hb0 : pcc .ge a1.toInt (0 : Int) = true := by simp [pcc, hc]
    have hs3 := hs2
    rw [hb0] at hs3
    cases pnx_s hs3
    exact lv_if_ge hx hb hd ht (fun h => kk H locs ws tys ls _ cells slots hW hA hl h1 hc1 hc2) (fun h => absurd (hiff.mpr hc) (by simpa using h))
  · have hb0 : pcc .ge a1.toInt (0 : Int) = false := by simp [pcc, hc]
    have hs3 := hs2
    rw [hb0] at hs3
    cases pnx_s hs3
    exact lv_if_ge hx hb hd ht (fun h => absurd (hiff.mp (by simpa using h)) hc) (fun h => kk H locs ws tys ls _ cells slots hW hA hl h1 hc1 hc2)

theorem ss_icmp_ge {p : Program} {l : Launch} {e : Env} {R : Room} {s : State} {m : MethodId} {args : Array Value} {below : List Frame} {meth : Method} {c : Code} {Q : State → Prop} {D : va_G} {A : Nat → Prop} {sx : Nat → Option Nat} {cc : ByteArray} {nL K rt d n0 s0 : Nat} {ws0 : va_W} (hX : pCx p R s m args c sx A K nL d cc) {pc len : Nat} {e0 : pE} {off : Int} (hd : decode cc pc = .ok (.if_icmp .ge off, len)) (hp : ptr K rt pc (.if_icmp .ge off) len = some e0) {Y Y' : pY} {G G' : pG} {pc' : Nat} {loc loc' stk stk' : List pV} (hs : pstep Y G e0 pc loc stk = some (.inl (pc', loc', stk', Y', G'))) (kk : pKK p l e R s m args below meth c Q D A sx nL n0 s0 ws0 pc' loc' stk' Y' G') : pKK p l e R s m args below meth c Q D A sx nL n0 s0 ws0 pc loc stk Y G := by
  obtain ⟨hx, hb, hml, hown, hts, hnest, hao, hstr, hAA, hfr, hlo⟩ := hX
  intro H locs ws tys ls st cells slots hW hA hl hst hc1 hc2
  obtain ⟨hlen, hp⟩ := bif_s hp
  have hlen : len = 3 := Nat.eq_of_beq_eq_true hlen
  subst hlen
  have hp : ptgt pc off (fun t => some (.if_icmp .ge 0, 3, t, 0, 0)) = some e0 := hp
  obtain ⟨t, ht, hp⟩ := ptgt_s hp
  cases hp
  obtain ⟨x, y, stk0, rfl, hs2⟩ := k_ii_s hs
  obtain ⟨b1, st0, rfl, rfl, h0⟩ := sR_i hst
  obtain ⟨a1, st1, rfl, rfl, h1⟩ := sR_i h0
  have hiff : b1 ≤ a1 ↔ b1.toInt ≤ a1.toInt := Int32.le_iff_toInt_le
  by_cases hc : b1.toInt ≤ a1.toInt
  · have hb0 : pcc .ge a1.toInt b1.toInt = true := by simp [pcc, hc]
    have hs3 := hs2
    rw [hb0] at hs3
    cases pnx_s hs3
    exact lv_icmp_ge hx hb hd ht (fun h => kk H locs ws tys ls _ cells slots hW hA hl h1 hc1 hc2) (fun h => absurd (hiff.mpr hc) (by simpa using h))
  · have hb0 : pcc .ge a1.toInt b1.toInt = false := by simp [pcc, hc]
    have hs3 := hs2
    rw [hb0] at hs3
    cases pnx_s hs3
    exact lv_icmp_ge hx hb hd ht (fun h => absurd (hiff.mp (by simpa using h)) hc) (fun h => kk H locs ws tys ls _ cells slots hW hA hl h1 hc1 hc2)

theorem ss_if_gt {p : Program} {l : Launch} {e : Env} {R : Room} {s : State} {m : MethodId} {args : Array Value} {below : List Frame} {meth : Method} {c : Code} {Q : State → Prop} {D : va_G} {A : Nat → Prop} {sx : Nat → Option Nat} {cc : ByteArray} {nL K rt d n0 s0 : Nat} {ws0 : va_W} (hX : pCx p R s m args c sx A K nL d cc) {pc len : Nat} {e0 : pE} {off : Int} (hd : decode cc pc = .ok (.ifCond .gt off, len)) (hp : ptr K rt pc (.ifCond .gt off) len = some e0) {Y Y' : pY} {G G' : pG} {pc' : Nat} {loc loc' stk stk' : List pV} (hs : pstep Y G e0 pc loc stk = some (.inl (pc', loc', stk', Y', G'))) (kk : pKK p l e R s m args below meth c Q D A sx nL n0 s0 ws0 pc' loc' stk' Y' G') : pKK p l e R s m args below meth c Q D A sx nL n0 s0 ws0 pc loc stk Y G := by
  obtain ⟨hx, hb, hml, hown, hts, hnest, hao, hstr, hAA, hfr, hlo⟩ := hX
  intro H locs ws tys ls st cells slots hW hA hl hst hc1 hc2
  obtain ⟨hlen, hp⟩ := bif_s hp
  have hlen : len = 3 := Nat.eq_of_beq_eq_true hlen
  subst hlen
  have hp : ptgt pc off (fun t => some (.ifCond .gt 0, 3, t, 0, 0)) = some e0 := hp
  obtain ⟨t, ht, hp⟩ := ptgt_s hp
  cases hp
  obtain ⟨x, stk0, rfl, hs2⟩ := k_i_s hs
  obtain ⟨a1, st1, rfl, rfl, h1⟩ := sR_i hst
  have hiff : (0 : Int32) < a1 ↔ (0 : Int) < a1.toInt := Int32.lt_iff_toInt_lt
  by_cases hc : (0 : Int) < a1.toInt
  · have hb0 : pcc .gt a1.toInt (0 : Int) = true := by simp [pcc, hc]
    have hs3 := hs2
    rw [hb0] at hs3
    cases pnx_s hs3
    exact lv_if_gt hx hb hd ht (fun h => kk H locs ws tys ls _ cells slots hW hA hl h1 hc1 hc2) (fun h => absurd (hiff.mpr hc) (by simpa using h))
  · have hb0 : pcc .gt a1.toInt (0 : Int) = false := by simp [pcc, hc]
    have hs3 := hs2
    rw [hb0] at hs3
    cases pnx_s hs3
    exact lv_if_gt hx hb hd ht (fun h => absurd (hiff.mp (by simpa using h)) hc) (fun h => kk H locs ws tys ls _ cells slots hW hA hl h1 hc1 hc2)

theorem ss_icmp_gt {p : Program} {l : Launch} {e : Env} {R : Room} {s : State} {m : MethodId} {args : Array Value} {below : List Frame} {meth : Method} {c : Code} {Q : State → Prop} {D : va_G} {A : Nat → Prop} {sx : Nat → Option Nat} {cc : ByteArray} {nL K rt d n0 s0 : Nat} {ws0 : va_W} (hX : pCx p R s m args c sx A K nL d cc) {pc len : Nat} {e0 : pE} {off : Int} (hd : decode cc pc = .ok (.if_icmp .gt off, len)) (hp : ptr K rt pc (.if_icmp .gt off) len = some e0) {Y Y' : pY} {G G' : pG} {pc' : Nat} {loc loc' stk stk' : List pV} (hs : pstep Y G e0 pc loc stk = some (.inl (pc', loc', stk', Y', G'))) (kk : pKK p l e R s m args below meth c Q D A sx nL n0 s0 ws0 pc' loc' stk' Y' G') : pKK p l e R s m args below meth c Q D A sx nL n0 s0 ws0 pc loc stk Y G := by
  obtain ⟨hx, hb, hml, hown, hts, hnest, hao, hstr, hAA, hfr, hlo⟩ := hX
  intro H locs ws tys ls st cells slots hW hA hl hst hc1 hc2
  obtain ⟨hlen, hp⟩ := bif_s hp
  have hlen : len = 3 := Nat.eq_of_beq_eq_true hlen
  subst hlen
  have hp : ptgt pc off (fun t => some (.if_icmp .gt 0, 3, t, 0, 0)) = some e0 := hp
  obtain ⟨t, ht, hp⟩ := ptgt_s hp
  cases hp
  obtain ⟨x, y, stk0, rfl, hs2⟩ := k_ii_s hs
  obtain ⟨b1, st0, rfl, rfl, h0⟩ := sR_i hst
  obtain ⟨a1, st1, rfl, rfl, h1⟩ := sR_i h0
  have hiff : b1 < a1 ↔ b1.toInt < a1.toInt := Int32.lt_iff_toInt_lt
  by_cases hc : b1.toInt < a1.toInt
  · have hb0 : pcc .gt a1.toInt b1.toInt = true := by simp [pcc, hc]
    have hs3 := hs2
    rw [hb0] at hs3
    cases pnx_s hs3
    exact lv_icmp_gt hx hb hd ht (fun h => kk H locs ws tys ls _ cells slots hW hA hl h1 hc1 hc2) (fun h => absurd (hiff.mpr hc) (by simpa using h))
  · have hb0 : pcc .gt a1.toInt b1.toInt = false := by simp [pcc, hc]
    have hs3 := hs2
    rw [hb0] at hs3
    cases pnx_s hs3
    exact lv_icmp_gt hx hb hd ht (fun h => absurd (hiff.mp (by simpa using h)) hc) (fun h => kk H locs ws tys ls _ cells slots hW hA hl h1 hc1 hc2)

theorem ss_if_le {p : Program} {l : Launch} {e : Env} {R : Room} {s : State} {m : MethodId} {args : Array Value} {below : List Frame} {meth : Method} {c : Code} {Q : State → Prop} {D : va_G} {A : Nat → Prop} {sx : Nat → Option Nat} {cc : ByteArray} {nL K rt d n0 s0 : Nat} {ws0 : va_W} (hX : pCx p R s m args c sx A K nL d cc) {pc len : Nat} {e0 : pE} {off : Int} (hd : decode cc pc = .ok (.ifCond .le off, len)) (hp : ptr K rt pc (.ifCond .le off) len = some e0) {Y Y' : pY} {G G' : pG} {pc' : Nat} {loc loc' stk stk' : List pV} (hs : pstep Y G e0 pc loc stk = some (.inl (pc', loc', stk', Y', G'))) (kk : pKK p l e R s m args below meth c Q D A sx nL n0 s0 ws0 pc' loc' stk' Y' G') : pKK p l e R s m args below meth c Q D A sx nL n0 s0 ws0 pc loc stk Y G := by
  obtain ⟨hx, hb, hml, hown, hts, hnest, hao, hstr, hAA, hfr, hlo⟩ := hX
  intro H locs ws tys ls st cells slots hW hA hl hst hc1 hc2
  obtain ⟨hlen, hp⟩ := bif_s hp
  have hlen : len = 3 := Nat.eq_of_beq_eq_true hlen
  subst hlen
  have hp : ptgt pc off (fun t => some (.ifCond .le 0, 3, t, 0, 0)) = some e0 := hp
  obtain ⟨t, ht, hp⟩ := ptgt_s hp
  cases hp
  obtain ⟨x, stk0, rfl, hs2⟩ := k_i_s hs
  obtain ⟨a1, st1, rfl, rfl, h1⟩ := sR_i hst
  have hiff : a1 ≤ (0 : Int32) ↔ a1.toInt ≤ (0 : Int) := Int32.le_iff_toInt_le
  by_cases hc : a1.toInt ≤ (0 : Int)
  · have hb0 : pcc .le a1.toInt (0 : Int) = true := by simp [pcc, hc]
    have hs3 := hs2
    rw [hb0] at hs3
    cases pnx_s hs3
    exact lv_if_le hx hb hd ht (fun h => kk H locs ws tys ls _ cells slots hW hA hl h1 hc1 hc2) (fun h => absurd (hiff.mpr hc) (by simpa using h))
  · have hb0 : pcc .le a1.toInt (0 : Int) = false := by simp [pcc, hc]
    have hs3 := hs2
    rw [hb0] at hs3
    cases pnx_s hs3
    exact lv_if_le hx hb hd ht (fun h => absurd (hiff.mp (by simpa using h)) hc) (fun h => kk H locs ws tys ls _ cells slots hW hA hl h1 hc1 hc2)

theorem ss_icmp_le {p : Program} {l : Launch} {e : Env} {R : Room} {s : State} {m : MethodId} {args : Array Value} {below : List Frame} {meth : Method} {c : Code} {Q : State → Prop} {D : va_G} {A : Nat → Prop} {sx : Nat → Option Nat} {cc : ByteArray} {nL K rt d n0 s0 : Nat} {ws0 : va_W} (hX : pCx p R s m args c sx A K nL d cc) {pc len : Nat} {e0 : pE} {off : Int} (hd : decode cc pc = .ok (.if_icmp .le off, len)) (hp : ptr K rt pc (.if_icmp .le off) len = some e0) {Y Y' : pY} {G G' : pG} {pc' : Nat} {loc loc' stk stk' : List pV} (hs : pstep Y G e0 pc loc stk = some (.inl (pc', loc', stk', Y', G'))) (kk : pKK p l e R s m args below meth c Q D A sx nL n0 s0 ws0 pc' loc' stk' Y' G') : pKK p l e R s m args below meth c Q D A sx nL n0 s0 ws0 pc loc stk Y G := by
  obtain ⟨hx, hb, hml, hown, hts, hnest, hao, hstr, hAA, hfr, hlo⟩ := hX
  intro H locs ws tys ls st cells slots hW hA hl hst hc1 hc2
  obtain ⟨hlen, hp⟩ := bif_s hp
  have hlen : len = 3 := Nat.eq_of_beq_eq_true hlen
  subst hlen
  have hp : ptgt pc off (fun t => some (.if_icmp .le 0, 3, t, 0, 0)) = some e0 := hp
  obtain ⟨t, ht, hp⟩ := ptgt_s hp
  cases hp
  obtain ⟨x, y, stk0, rfl, hs2⟩ := k_ii_s hs
  obtain ⟨b1, st0, rfl, rfl, h0⟩ := sR_i hst
  obtain ⟨a1, st1, rfl, rfl, h1⟩ := sR_i h0
  have hiff : a1 ≤ b1 ↔ a1.toInt ≤ b1.toInt := Int32.le_iff_toInt_le
  by_cases hc : a1.toInt ≤ b1.toInt
  · have hb0 : pcc .le a1.toInt b1.toInt = true := by simp [pcc, hc]
    have hs3 := hs2
    rw [hb0] at hs3
    cases pnx_s hs3
    exact lv_icmp_le hx hb hd ht (fun h => kk H locs ws tys ls _ cells slots hW hA hl h1 hc1 hc2) (fun h => absurd (hiff.mpr hc) (by simpa using h))
  · have hb0 : pcc .le a1.toInt b1.toInt = false := by simp [pcc, hc]
    have hs3 := hs2
    rw [hb0] at hs3
    cases pnx_s hs3
    exact lv_icmp_le hx hb hd ht (fun h => absurd (hiff.mp (by simpa using h)) hc) (fun h => kk H locs ws tys ls _ cells slots hW hA hl h1 hc1 hc2)

