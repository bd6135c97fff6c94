/-! ===== String.length and String.charAt of a constant ===== -/
def jF : Nat → Prop := fun _ => False
def jS (n : Nat) (f : Nat → Int32) (a : Nat) (U : State) : Prop := (∃ v, va_O "java/lang/String" a jF U U.heap ∧ va_OF "java/lang/String" "coder" "B" (.int 0) a jF U U.heap ∧ va_OF "java/lang/String" "value" "[B" (.ref v) a jF U U.heap ∧ va_T .byte v n (fun j => .int (f j)) jF U U.heap) ∧ pZs jF U
def jQ (x : Option Value) : Array Value → State → Outcome → State → Prop := fun _ st oc t => oc = .returned x ∧ t.heap = st.heap
def jW (y : MethodName) (b : ByteArray) (n : Nat) (r : Option FieldType) : List Cond := Cond.code y b n r :: lw_use
def jR (d : Nat) : Room := { frames := d, cells := 0, slots := 0, locals := 40 * d }
theorem jl38 : Cond.fieldLink "java/lang/String" 38 "java/lang/String" "COMPACT_STRINGS" "Z" ∈ lw_use := by decide +kernel
theorem jl15 : Cond.fieldLink "java/lang/String" 15 "java/lang/String" "coder" "B" ∈ lw_use := by decide +kernel
theorem jl9 : Cond.fieldLink "java/lang/String" 9 "java/lang/String" "value" "[B" ∈ lw_use := by decide +kernel
theorem jS.mv {n : Nat} {f : Nat → Int32} {a : Nat} {s U : State} {A : Nat → Prop} {H : Heap} {locs : List Loc} {v : Nat} (h1 : va_O "java/lang/String" a A s s.heap) (h2 : va_OF "java/lang/String" "coder" "B" (.int 0) a A s s.heap) (h3 : va_OF "java/lang/String" "value" "[B" (.ref v) a A s s.heap) (h4 : va_T .byte v n (fun j => .int (f j)) A s s.heap) (hz1 : va_Z "java/lang/String" "COMPACT_STRINGS" "Z" (.int 1) A s s.heap) {w : Value} (hw : w.isRef = true) (hz2 : va_Z "jdk/internal/util/Preconditions" "SIOOBE_FORMATTER" "Ljava/util/function/BiFunction;" w A s s.heap) (hv : s.vm.Alike U.vm) (hU : U.heap = H) (hS : va_S A s.heap H locs) : jS n f a U := by
  have hq : ∀ a : Nat, a < s.heap.size → ¬ A a → H[a]? = s.heap[a]? := fun a ha hn => hS.2.1 a ha hn
  have hF : ∀ q, jF q → A q := fun q h => h.elim
  subst hU
  exact ⟨⟨v, va_O.narrow (va_O.moved hv (va_O.kept h1 hq)) hF, va_OF.narrow (va_OF.moved hv (va_OF.kept h2 hq)) hF, va_OF.narrow (va_OF.moved hv (va_OF.kept h3 hq)) hF, va_T.narrow (va_T.moved hv (va_T.kept h4 hq)) hF⟩, va_Z.narrow (va_Z.moved hv (va_Z.kept hz1 hq)) hF, w, hw, va_Z.narrow (va_Z.moved hv (va_Z.kept hz2 hq)) hF⟩
theorem jS.blind {n : Nat} {f : Nat → Int32} {a : Nat} {av : List Value} : FrameBlind (va_Pc av (jS n f a)) := fun x U g mk q => by
  obtain ⟨q0, ⟨v, h1, h2, h3, h4⟩, hz1, w, hw, hz2⟩ := q
  exact ⟨q0, jS.mv (s := U) (U := U.calling g mk x) (locs := []) h1 h2 h3 h4 hz1 hw hz2 (Vm.Alike.refl U.vm) rfl va_S.rf⟩
section JR
variable {p : Program} {l : Launch} {e : Env} {R : Room} {s : State} {m : MethodId} {args : Array Value} {below : List Frame} {meth : Method} {c : Code} {H : Heap} {locs : List Loc} {cells slots : Nat} {Q : State → Prop} {pc : Nat} {ls : Array Slot} {rest st0 : List Value} {a : Array Value} {cc : ByteArray}
theorem jrun {x : Option Value} (hr : va_Run p l e R s m args below meth c H locs cells slots 0 0 (F0 m pc ls st0) rest (jQ x a) jF) (kk : W p l e R s m args below meth c H locs cells slots Q (F0 m (pc + 3) ls (x.toList ++ rest))) : W p l e R s m args below meth c H locs cells slots Q (F0 m pc ls st0) := by
  intro T hT X
  obtain ⟨v, st₀, t, T', L, h0, X', hL, e1, e2, ⟨hv, hh⟩, st⟩ := hr T hT X
  cases hv
  have hL0 : L = [] := by
    cases L with
    | nil => rfl
    | cons q _ => exact (hL q List.mem_cons_self).elim
  subst hL0
  rw [List.append_nil] at X'
  obtain ⟨t2, a1, b1⟩ := kk T' (by rw [e1, hh, h0]) X'
  exact ⟨t2, st t2 a1, b1⟩
end JR
theorem jm_coder {l : Launch} {n : Nat} {f : Nat → Int32} {a d : Nat} : Met l yJ0_coder_7d493 (jW yJ0_coder_7d493 cJ0_coder_7d493 1 (some .byte)) (jR d) (va_Pc [.ref a] (jS n f a)) (jQ (some (.int 0))) 0 0 jF := by
  refine Met.ofW (cc := cJ0_coder_7d493) (maxL := 1) (ret := some .byte) (ws' := lw_use) rfl rfl ?_
  intro p e s m args below meth c s₁ B hml hv
  obtain ⟨rfl, ⟨v, h1, h2, h3, h4⟩, hz1, w, hw, hz2⟩ := hv
  have hx := B.exec
  have hb := B.bytes
  have hr := B.returns
  have hts := atoms_spec (ws := jW yJ0_coder_7d493 cJ0_coder_7d493 1 (some .byte)) B.pre
  have hown : s.vm.findClass "java/lang/String" = some m.cls := findClass_of_methodNamed B.named
  have hlocks := B.notSynchronized
  have hl := lv_entry [.ref a] (n := 1) (Nat.le_refl 1)
  rw [lg_entry_eq]
  generalize (lg_sl [Value.ref a] ++ List.replicate (1 - (lg_sl [Value.ref a]).length) Slot.unset).toArray = ls at hl ⊢
  have hS : va_S jF s.heap s.heap [] := va_S.rf
  refine va_gets hx hb hz1 hS hown (hts _ (List.mem_cons_of_mem _ jl38)) (fun _ h => h) (by decide +kernel) ?_
  refine lv_if_eq (off := 10) (tgt := 13) hx hb (by decide +kernel) (by decide) (fun h => absurd h (by decide)) (fun h => ?_)
  refine lv_aload_n (k := 0) hx hb (by decide +kernel) rfl (lv_at hl 0 rfl) ?_
  refine vk_getf hx hb h2 hS hown (hts _ (List.mem_cons_of_mem _ jl15)) (fun _ h => h) (by decide +kernel) ?_
  refine lv_goto (off := 4) (tgt := 14) hx hb (by decide +kernel) (by decide) ?_
  exact W.zret (v := 0) hx hb hr rfl (fun t ht hWm => ⟨rfl, ht⟩) (fun _ h => by cases h) (by decide +kernel)
theorem jm_lat {l : Launch} {n : Nat} {f : Nat → Int32} {a d : Nat} : Met l yJ0_isLatin1_aae02 (jW yJ0_isLatin1_aae02 cJ0_isLatin1_aae02 1 (some .boolean)) (jR d) (va_Pc [.ref a] (jS n f a)) (jQ (some (.int 1))) 0 0 jF := by
  refine Met.ofW (cc := cJ0_isLatin1_aae02) (maxL := 1) (ret := some .boolean) (ws' := lw_use) rfl rfl ?_
  intro p e s m args below meth c s₁ B hml hv
  obtain ⟨rfl, ⟨v, h1, h2, h3, h4⟩, hz1, w, hw, hz2⟩ := hv
  have hx := B.exec
  have hb := B.bytes
  have hr := B.returns
  have hts := atoms_spec (ws := jW yJ0_isLatin1_aae02 cJ0_isLatin1_aae02 1 (some .boolean)) B.pre
  have hown : s.vm.findClass "java/lang/String" = some m.cls := findClass_of_methodNamed B.named
  have hlocks := B.notSynchronized
  have hl := lv_entry [.ref a] (n := 1) (Nat.le_refl 1)
  rw [lg_entry_eq]
  generalize (lg_sl [Value.ref a] ++ List.replicate (1 - (lg_sl [Value.ref a]).length) Slot.unset).toArray = ls at hl ⊢
  have hS : va_S jF s.heap s.heap [] := va_S.rf
  refine va_gets hx hb hz1 hS hown (hts _ (List.mem_cons_of_mem _ jl38)) (fun _ h => h) (by decide +kernel) ?_
  refine lv_if_eq (off := 14) (tgt := 17) hx hb (by decide +kernel) (by decide) (fun h => absurd h (by decide)) (fun h => ?_)
  refine lv_aload_n (k := 0) hx hb (by decide +kernel) rfl (lv_at hl 0 rfl) ?_
  refine vk_getf hx hb h2 hS hown (hts _ (List.mem_cons_of_mem _ jl15)) (fun _ h => h) (by decide +kernel) ?_
  refine lv_if_ne (off := 7) (tgt := 17) hx hb (by decide +kernel) (by decide) (fun h => absurd rfl h) (fun h => ?_)
  refine lv_iconst (n := 1) (v := 1) hx hb (by decide +kernel) rfl ?_
  refine lv_goto (off := 4) (tgt := 18) hx hb (by decide +kernel) (by decide) ?_
  exact W.zret (v := 1) hx hb hr rfl (fun t ht hWm => ⟨rfl, ht⟩) (fun _ h => by cases h) (by decide +kernel)
theorem jgood {y : MethodName} {b : ByteArray} {n : Nat} {r : Option FieldType} (h : Cond.code y b n r ∈ lw_use) : GoodIn lw_use (jW y b n r) := fun x hx => by
  have h2 : x ∈ lw_use := by
    rcases List.mem_cons.mp hx with e | hx
    · rw [e]; exact h
    · exact hx
  exact ⟨h2, good_of_word (List.mem_filter.mp h2).2⟩
theorem jB {R : Room} {s : State} {args : Array Value} {own : String} {index : Nat} {y : MethodName} {bytes : ByteArray} {maxL : Nat} {ret : Option FieldType} {d n : Nat} (hts : ∀ w ∈ lw_use, w.before args s = true) (h1 : Cond.code y bytes maxL ret ∈ lw_use) (h2 : Cond.initialized y.cls ∈ lw_use) (h3 : Cond.methodLink own index y ∈ lw_use) (h4 : y.cls ≠ "java/lang/invoke/MethodHandle" ∧ y.cls ≠ "java/lang/invoke/VarHandle") (h5 : (parseMethodDescriptor y.desc).map (fun z => z.parameters.length) = some n) (h8 : d + 1 ≤ R.frames) (h9 : 40 * d + 40 ≤ R.locals) (h10 : maxL ≤ 10) : CallB R s args own index y bytes maxL ret (jW y bytes maxL ret) (jR d) 0 0 n :=
  ⟨rfl, rfl, h8, by show 8 + (maxL + 11) + 40 * d ≤ R.locals; omega, pay_in hts (jgood h1), List.mem_cons_self, hts _ h1, hts _ h2, h4, fun sig h => by rw [h] at h5; exact (Option.some.inj h5).symm, hts _ h3⟩
theorem jw_code : Cond.code yJ0_coder_7d493 cJ0_coder_7d493 1 (some .byte) ∈ lw_use ∧ Cond.initialized "java/lang/String" ∈ lw_use ∧ Cond.methodLink "java/lang/String" 335 yJ0_coder_7d493 ∈ lw_use ∧ Cond.instanceMethod yJ0_coder_7d493 ∈ lw_use ∧ Cond.selects "java/lang/String" yJ0_coder_7d493 yJ0_coder_7d493 ∈ lw_use := by decide +kernel
theorem jm_len {l : Launch} {n : Nat} {f : Nat → Int32} {a d : Nat} : Met l yJ0_length_8abf5 (jW yJ0_length_8abf5 cJ0_length_8abf5 1 (some .int)) (jR (d + 1)) (va_Pc [.ref a] (jS n f a)) (jQ (some (.int (Int32.ofNat n)))) 0 0 jF := by
  refine Met.ofW (cc := cJ0_length_8abf5) (maxL := 1) (ret := some .int) (ws' := lw_use) rfl rfl ?_
  intro p e s m args below meth c s₁ B hml hv
  obtain ⟨rfl, ⟨v, h1, h2, h3, h4⟩, hz1, w, hw, hz2⟩ := hv
  have hx := B.exec
  have hb := B.bytes
  have hr := B.returns
  have hts := atoms_spec (ws := jW yJ0_length_8abf5 cJ0_length_8abf5 1 (some .int)) B.pre
  have htu : ∀ w ∈ lw_use, w.before _ s = true := fun w h => hts w (List.mem_cons_of_mem _ h)
  have hown : s.vm.findClass "java/lang/String" = some m.cls := findClass_of_methodNamed B.named
  have hlocks := B.notSynchronized
  have hl := lv_entry [.ref a] (n := 1) (Nat.le_refl 1)
  rw [lg_entry_eq]
  generalize (lg_sl [Value.ref a] ++ List.replicate (1 - (lg_sl [Value.ref a]).length) Slot.unset).toArray = ls at hl ⊢
  have hS : va_S jF s.heap s.heap [] := va_S.rf
  have hrec : ∃ cell : Cell, s.heap[a]? = some cell ∧ cell.vm.isStatics = false ∧ s.vm.findClass "java/lang/String" = some cell.cls := by
    obtain ⟨cell, g1, g2, g3, -⟩ := h1
    exact ⟨cell, g1, g2, g3⟩
  refine lv_aload_n (k := 0) hx hb (by decide +kernel) rfl (lv_at hl 0 rfl) ?_
  refine vk_getf hx hb h3 hS hown (htu _ jl9) (fun _ h => h) (by decide +kernel) ?_
  refine va_tlen hx hb h4 hS rfl (by decide +kernel) ?_
  refine lv_aload_n (k := 0) hx hb (by decide +kernel) rfl (lv_at hl 0 rfl) ?_
  refine jrun (x := some (.int 0)) (va_runV (C := "java/lang/String") (b := a) (As := []) (index := 335) (bytes := cJ0_coder_7d493) (maxL := 1) (ret := some .byte) (n := 0) ⟨hx, hb, hml, hown, htu⟩ (jm_coder (n := n) (f := f) (a := a) (d := d)) ⟨jB htu jw_code.1 jw_code.2.1 jw_code.2.2.1 (by decide) (by decide +kernel) (Nat.le_refl _) (by show 40 * d + 40 ≤ 40 * (d + 1); omega) (by decide), htu _ jw_code.2.2.2.1, htu _ jw_code.2.2.2.2⟩ ⟨jS.blind, hrec, fun U hU hW => ⟨rfl, jS.mv h1 h2 h3 h4 hz1 hw hz2 hW.alike hU hS⟩⟩ rfl rfl hl.1 rfl (lv_room (by show (1 : Nat) ≤ 8; decide)) (by show decode cJ0_length_8abf5 6 = _; decide +kernel) ⟨Nat.le_refl _, Nat.le_refl _⟩) ?_
  refine lv_ishr hx hb (by decide +kernel) ?_
  rw [show (Int32.ofNat n >>> ((0 : Int32) &&& 31)) = Int32.ofNat n by simp]
  exact W.iret (v := Int32.ofNat n) hx hb hr (fun t ht hWm => ⟨rfl, ht⟩) (fun _ h => by cases h) (by decide +kernel)
theorem jw_len : Cond.code yJ0_length_8abf5 cJ0_length_8abf5 1 (some .int) ∈ lw_use ∧ Cond.instanceMethod yJ0_length_8abf5 ∈ lw_use ∧ Cond.selects "java/lang/String" yJ0_length_8abf5 yJ0_length_8abf5 ∈ lw_use := by decide +kernel
theorem pSLN_ok : pSLN := by
  intro p l e R s m args below meth c H locs cells slots Q cc pc ls rest sx A K nL d index i a hX hsz hS hlk hi hsx hr8 hc1 hc2 hd kk
  obtain ⟨hx, hb, hml, hown, hts, hnest, hao, ⟨hs1, hs2, adV, ⟨hv, -⟩, hz1, w, hw, hz2⟩, hAA, hfr, hlo⟩ := hX
  obtain ⟨h1, h2, h3, h4⟩ := hv i hi
  simp only [hsx, Option.getD_some] at h1 h2 h3
  have hrec : ∃ cell : Cell, H[a]? = some cell ∧ cell.vm.isStatics = false ∧ s.vm.findClass "java/lang/String" = some cell.cls := by
    obtain ⟨cell, g1, g2, g3, -⟩ := h1.kept hS.2.1
    exact ⟨cell, g1, g2, g3⟩
  exact jrun (x := some (.int (Int32.ofNat (pstL.getD i 0)))) (va_runV (C := "java/lang/String") (b := a) (As := []) (index := index) (bytes := cJ0_length_8abf5) (maxL := 1) (ret := some .int) (n := 0) ⟨hx, hb, hml, hown, hts⟩ (jm_len (n := pstL.getD i 0) (f := fun j => (pstB.getD i []).getD j 0) (a := a) (d := 0)) ⟨jB hts jw_len.1 jw_code.2.1 hlk (by decide) (by decide +kernel) (by omega) (by omega) (by decide), hts _ jw_len.2.1, hts _ jw_len.2.2⟩ ⟨jS.blind, hrec, fun U hU hW => ⟨rfl, jS.mv h1 h2 h3 h4 hz1 hw hz2 hW.alike hU hS⟩⟩ rfl rfl hsz rfl (lv_room hr8) hd ⟨hc1, hc2⟩) kk
