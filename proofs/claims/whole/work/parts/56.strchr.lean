theorem jm_pre {l : Launch} {j k : Int32} {w : Value} {d : Nat} (hw : w.isRef = true) (h0 : ¬ j < 0) (h1 : j < k) : Met l yJ3_checkIndex_8e157 (jW yJ3_checkIndex_8e157 cJ3_checkIndex_8e157 3 (some .int)) (jR d) (va_Pc [.int j, .int k, w] (fun _ => True)) (jQ (some (.int j))) 0 0 jF := by
  have hw1 : w.category = 1 := by cases w <;> first | rfl | cases hw
  refine Met.ofW (cc := cJ3_checkIndex_8e157) (maxL := 3) (ret := some .int) (ws' := lw_use) rfl rfl ?_
  intro p e s m args below meth c s₁ B hml hv
  obtain ⟨rfl, -⟩ := hv
  have hx := B.exec
  have hb := B.bytes
  have hr := B.returns
  have hts := atoms_spec (ws := jW yJ3_checkIndex_8e157 cJ3_checkIndex_8e157 3 (some .int)) B.pre
  have htu : ∀ w ∈ lw_use, w.before _ s = true := fun w h => hts w (List.mem_cons_of_mem _ h)
  have hown : s.vm.findClass "jdk/internal/util/Preconditions" = some m.cls := findClass_of_methodNamed B.named
  have hlocks := B.notSynchronized
  have hl := lv_entry [.int j, .int k, w] (n := 3) (by cases w <;> first | exact Nat.le_refl 3 | cases hw)
  rw [lg_entry_eq]
  generalize (lg_sl [Value.int j, Value.int k, w] ++ List.replicate (3 - (lg_sl [Value.int j, Value.int k, w]).length) Slot.unset).toArray = ls at hl ⊢
  refine lv_iload_n (k := 0) hx hb (by show decode cJ3_checkIndex_8e157 0 = _; decide +kernel) rfl (lv_at hl 0 rfl) ?_
  refine lv_if_lt (off := 8) (tgt := 9) hx hb (by show decode cJ3_checkIndex_8e157 1 = _; decide +kernel) (by decide) (fun h => absurd h h0) (fun _ => ?_)
  refine lv_iload_n (k := 0) hx hb (by show decode cJ3_checkIndex_8e157 4 = _; decide +kernel) rfl (lv_at hl 0 rfl) ?_
  refine lv_iload_n (k := 1) hx hb (by show decode cJ3_checkIndex_8e157 5 = _; decide +kernel) rfl (lv_at hl 1 rfl) ?_
  refine lv_icmp_lt (off := 10) (tgt := 16) hx hb (by show decode cJ3_checkIndex_8e157 6 = _; decide +kernel) (by decide) (fun _ => ?_) (fun h => absurd h1 h)
  refine lv_iload_n (k := 0) hx hb (by show decode cJ3_checkIndex_8e157 16 = _; decide +kernel) rfl (lv_at hl 0 rfl) ?_
  exact W.iret (v := j) hx hb hr (fun t ht hWm => ⟨rfl, ht⟩) (fun _ h => by cases h) (by show decode cJ3_checkIndex_8e157 17 = _; decide +kernel)
theorem pZs.self {s U : State} (h : pZs jF s) (hv : s.vm.Alike U.vm) (hU : U.heap = s.heap) : pZs jF U := pZs.mv h hv hU (locs := []) va_S.rf (fun _ h => h)
theorem pZs.blind {av : List Value} : FrameBlind (va_Pc av (pZs jF)) := fun x U g mk q => ⟨q.1, pZs.self (s := U) q.2 (Vm.Alike.refl U.vm) rfl⟩
theorem jw_pre : Cond.code yJ3_checkIndex_8e157 cJ3_checkIndex_8e157 3 (some .int) ∈ lw_use ∧ Cond.initialized "jdk/internal/util/Preconditions" ∈ lw_use ∧ Cond.methodLink "java/lang/String" 1059 yJ3_checkIndex_8e157 ∈ lw_use ∧ Cond.static yJ3_checkIndex_8e157 ∈ lw_use ∧ Cond.fieldLink "java/lang/String" 1053 "jdk/internal/util/Preconditions" "SIOOBE_FORMATTER" "Ljava/util/function/BiFunction;" ∈ lw_use := by decide +kernel
theorem jm_chk {l : Launch} {j k : Int32} {d : Nat} (h0 : ¬ j < 0) (h1 : j < k) : Met l yJ0_checkIndex_df160 (jW yJ0_checkIndex_df160 cJ0_checkIndex_df160 2 none) (jR (d + 1)) (va_Pc [.int j, .int k] (pZs jF)) (jQ none) 0 0 jF := by
  refine Met.ofW (cc := cJ0_checkIndex_df160) (maxL := 2) (ret := none) (ws' := lw_use) rfl rfl ?_
  intro p e s m args below meth c s₁ B hml hv
  obtain ⟨rfl, hz1, w, hw, hz2⟩ := hv
  have hx := B.exec
  have hb := B.bytes
  have hr := B.returns
  have hts := atoms_spec (ws := jW yJ0_checkIndex_df160 cJ0_checkIndex_df160 2 (none)) B.pre
  have htu : ∀ w ∈ lw_use, w.before _ s = true := fun w h => hts w (List.mem_cons_of_mem _ h)
  have hown : s.vm.findClass "java/lang/String" = some m.cls := findClass_of_methodNamed B.named
  have hlocks := B.notSynchronized
  have hl := lv_entry [.int j, .int k] (n := 2) (by show (lg_sl [Value.int j, Value.int k]).length ≤ 2; simp [lg_sl, Value.category])
  rw [lg_entry_eq]
  generalize (lg_sl [Value.int j, Value.int k] ++ List.replicate (2 - (lg_sl [Value.int j, Value.int k]).length) Slot.unset).toArray = ls at hl ⊢
  have hS : va_S jF s.heap s.heap [] := va_S.rf
  have hw1 : w.category = 1 := by cases w <;> first | rfl | cases hw
  refine lv_iload_n (k := 0) hx hb (by show decode cJ0_checkIndex_df160 0 = _; decide +kernel) rfl (lv_at hl 0 rfl) ?_
  refine lv_iload_n (k := 1) hx hb (by show decode cJ0_checkIndex_df160 1 = _; decide +kernel) rfl (lv_at hl 1 rfl) ?_
  refine va_gets hx hb hz2 hS hown (htu _ jw_pre.2.2.2.2) (fun _ h => h) (by show decode cJ0_checkIndex_df160 2 = _; decide +kernel) ?_
  refine jrun (x := some (.int j)) (va_runS (As := [.int j, .int k, w]) (index := 1059) (bytes := cJ3_checkIndex_8e157) (maxL := 3) (ret := some .int) (n := 3) ⟨hx, hb, hml, hown, htu⟩ (jm_pre (d := d) hw h0 h1) ⟨jB htu jw_pre.1 jw_pre.2.1 jw_pre.2.2.1 (by decide) (by decide +kernel) (Nat.le_refl _) (by show 40 * d + 40 ≤ 40 * (d + 1); omega) (by decide), htu _ jw_pre.2.2.2.1⟩ ⟨fun _ _ _ _ q => q, fun U hU hW => ⟨rfl, trivial⟩⟩ rfl rfl hl.1 rfl (lv_room (by decide)) (by show decode cJ0_checkIndex_df160 5 = _; decide +kernel) ⟨Nat.le_refl _, Nat.le_refl _⟩) ?_
  refine lv_pop hx hb (by show decode cJ0_checkIndex_df160 8 = _; decide +kernel) rfl ?_
  exact W.vret hx hb hr (fun t ht hWm => ⟨rfl, ht⟩) (fun _ h => by cases h) (by show decode cJ0_checkIndex_df160 9 = _; decide +kernel)
def jT (n : Nat) (f : Nat → Int32) (v : Nat) (U : State) : Prop := va_T .byte v n (fun j => .int (f j)) jF U U.heap ∧ pZs jF U
theorem jT.self {n : Nat} {f : Nat → Int32} {v : Nat} {s U : State} (h : jT n f v s) (hv : s.vm.Alike U.vm) (hU : U.heap = s.heap) : jT n f v U := ⟨by rw [hU]; exact va_T.moved hv h.1, pZs.self h.2 hv hU⟩
theorem jT.blind {n : Nat} {f : Nat → Int32} {v : Nat} {av : List Value} : FrameBlind (va_Pc av (jT n f v)) := fun x U g mk q => ⟨q.1, jT.self (s := U) q.2 (Vm.Alike.refl U.vm) rfl⟩
theorem jw_chk : Cond.code yJ0_checkIndex_df160 cJ0_checkIndex_df160 2 none ∈ lw_use ∧ Cond.initialized "java/lang/String" ∈ lw_use ∧ Cond.methodLink "java/lang/StringLatin1" 9 yJ0_checkIndex_df160 ∈ lw_use ∧ Cond.static yJ0_checkIndex_df160 ∈ lw_use := by decide +kernel
theorem jm_chr1 {l : Launch} {n v : Nat} {f : Nat → Int32} {j : Int32} {d : Nat} (h0 : ¬ j < 0) (h1 : j < Int32.ofNat n) (h2 : vp_in j n) (h3 : (((f j.toNatClampNeg) &&& 255).toUInt32 % 65536).toInt32 = f j.toNatClampNeg) (h4 : narrow .char (.int (f j.toNatClampNeg)) = .int (f j.toNatClampNeg)) : Met l yJ1_charAt_3b067 (jW yJ1_charAt_3b067 cJ1_charAt_3b067 2 (some .char)) (jR (d + 1 + 1)) (va_Pc [.ref v, .int j] (jT n f v)) (jQ (some (.int (f j.toNatClampNeg)))) 0 0 jF := by
  refine Met.ofW (cc := cJ1_charAt_3b067) (maxL := 2) (ret := some .char) (ws' := lw_use) rfl rfl ?_
  intro p e s m args below meth c s₁ B hml hv
  obtain ⟨rfl, hT, hz⟩ := hv
  have hx := B.exec
  have hb := B.bytes
  have hr := B.returns
  have hts := atoms_spec (ws := jW yJ1_charAt_3b067 cJ1_charAt_3b067 2 (some .char)) B.pre
  have htu : ∀ w ∈ lw_use, w.before _ s = true := fun w h => hts w (List.mem_cons_of_mem _ h)
  have hown : s.vm.findClass "java/lang/StringLatin1" = some m.cls := findClass_of_methodNamed B.named
  have hlocks := B.notSynchronized
  have hl := lv_entry [.ref v, .int j] (n := 2) (Nat.le_refl 2)
  rw [lg_entry_eq]
  generalize (lg_sl [Value.ref v, Value.int j] ++ List.replicate (2 - (lg_sl [Value.ref v, Value.int j]).length) Slot.unset).toArray = ls at hl ⊢
  have hS : va_S jF s.heap s.heap [] := va_S.rf
  refine lv_iload_n (k := 1) hx hb (by show decode cJ1_charAt_3b067 0 = _; decide +kernel) rfl (lv_at hl 1 rfl) ?_
  refine lv_aload_n (k := 0) hx hb (by show decode cJ1_charAt_3b067 1 = _; decide +kernel) rfl (lv_at hl 0 rfl) ?_
  refine va_tlen hx hb hT hS rfl (by show decode cJ1_charAt_3b067 2 = _; decide +kernel) ?_
  refine jrun (x := none) (va_runS (As := [.int j, .int (Int32.ofNat n)]) (index := 9) (bytes := cJ0_checkIndex_df160) (maxL := 2) (ret := none) (n := 2) ⟨hx, hb, hml, hown, htu⟩ (jm_chk (d := d) h0 h1) ⟨jB htu jw_chk.1 jw_chk.2.1 jw_chk.2.2.1 (by decide) (by decide +kernel) (Nat.le_refl _) (by show 40 * (d + 1) + 40 ≤ 40 * (d + 1 + 1); omega) (by decide), htu _ jw_chk.2.2.2⟩ ⟨pZs.blind, fun U hU hW => ⟨rfl, pZs.self hz hW.alike hU⟩⟩ rfl rfl hl.1 rfl (lv_room (by decide)) (by show decode cJ1_charAt_3b067 3 = _; decide +kernel) ⟨Nat.le_refl _, Nat.le_refl _⟩) ?_
  refine lv_aload_n (k := 0) hx hb (by show decode cJ1_charAt_3b067 6 = _; decide +kernel) rfl (lv_at hl 0 rfl) ?_
  refine lv_iload_n (k := 1) hx hb (by show decode cJ1_charAt_3b067 7 = _; decide +kernel) rfl (lv_at hl 1 rfl) ?_
  refine va_tb hx hb hT hS h2 (v := .int (f j.toNatClampNeg)) rfl (by show decode cJ1_charAt_3b067 8 = _; decide +kernel) ?_
  refine lv_sipush (n := 255) (v := 255) hx hb (by show decode cJ1_charAt_3b067 9 = _; decide +kernel) (by decide) ?_
  refine lv_iand hx hb (by show decode cJ1_charAt_3b067 12 = _; decide +kernel) ?_
  refine lv_i2c hx hb (by show decode cJ1_charAt_3b067 13 = _; decide +kernel) h3 ?_
  exact W.zret hx hb hr h4 (fun t ht hWm => ⟨rfl, ht⟩) (fun _ h => by cases h) (by show decode cJ1_charAt_3b067 14 = _; decide +kernel)
theorem jw_lat : Cond.code yJ0_isLatin1_aae02 cJ0_isLatin1_aae02 1 (some .boolean) ∈ lw_use ∧ Cond.methodLink "java/lang/String" 492 yJ0_isLatin1_aae02 ∈ lw_use ∧ Cond.instanceMethod yJ0_isLatin1_aae02 ∈ lw_use ∧ Cond.selects "java/lang/String" yJ0_isLatin1_aae02 yJ0_isLatin1_aae02 ∈ lw_use := by decide +kernel
theorem jw_chr1 : Cond.code yJ1_charAt_3b067 cJ1_charAt_3b067 2 (some .char) ∈ lw_use ∧ Cond.initialized "java/lang/StringLatin1" ∈ lw_use ∧ Cond.methodLink "java/lang/String" 495 yJ1_charAt_3b067 ∈ lw_use ∧ Cond.static yJ1_charAt_3b067 ∈ lw_use := by decide +kernel
theorem jw_chr : Cond.code yJ0_charAt_5068e cJ0_charAt_5068e 2 (some .char) ∈ lw_use ∧ Cond.instanceMethod yJ0_charAt_5068e ∈ lw_use ∧ Cond.selects "java/lang/String" yJ0_charAt_5068e yJ0_charAt_5068e ∈ lw_use := by decide +kernel
theorem jm_chr {l : Launch} {n a : Nat} {f : Nat → Int32} {j : Int32} (h0 : ¬ j < 0) (h1 : j < Int32.ofNat n) (h2 : vp_in j n) (h3 : (((f j.toNatClampNeg) &&& 255).toUInt32 % 65536).toInt32 = f j.toNatClampNeg) (h4 : narrow .char (.int (f j.toNatClampNeg)) = .int (f j.toNatClampNeg)) : Met l yJ0_charAt_5068e (jW yJ0_charAt_5068e cJ0_charAt_5068e 2 (some .char)) (jR 4) (va_Pc [.ref a, .int j] (jS n f a)) (jQ (some (.int (f j.toNatClampNeg)))) 0 0 jF := by
  refine Met.ofW (cc := cJ0_charAt_5068e) (maxL := 2) (ret := some .char) (ws' := lw_use) rfl rfl ?_
  intro p e s m args below meth c s₁ B hml hv
  obtain ⟨rfl, ⟨v, g1, g2, g3, g4⟩, hz1, w, hw, hz2⟩ := hv
  have hx := B.exec
  have hb := B.bytes
  have hr := B.returns
  have hts := atoms_spec (ws := jW yJ0_charAt_5068e cJ0_charAt_5068e 2 (some .char)) B.pre
  have htu : ∀ w ∈ lw_use, w.before _ s = true := fun w h => hts w (List.mem_cons_of_mem _ h)
  have hown : s.vm.findClass "java/lang/String" = some m.cls := findClass_of_methodNamed B.named
  have hlocks := B.notSynchronized
  have hl := lv_entry [.ref a, .int j] (n := 2) (Nat.le_refl 2)
  rw [lg_entry_eq]
  generalize (lg_sl [Value.ref a, Value.int j] ++ List.replicate (2 - (lg_sl [Value.ref a, Value.int j]).length) Slot.unset).toArray = ls at hl ⊢
  have hS : va_S jF s.heap s.heap [] := va_S.rf
  have hrec : ∃ cell : Cell, s.heap[a]? = some cell ∧ cell.vm.isStatics = false ∧ s.vm.findClass "java/lang/String" = some cell.cls := by
    obtain ⟨cell, k1, k2, k3, -⟩ := g1
    exact ⟨cell, k1, k2, k3⟩
  refine lv_aload_n (k := 0) hx hb (by show decode cJ0_charAt_5068e 0 = _; decide +kernel) rfl (lv_at hl 0 rfl) ?_
  refine jrun (x := some (.int 1)) (va_runV (C := "java/lang/String") (b := a) (As := []) (index := 492) (bytes := cJ0_isLatin1_aae02) (maxL := 1) (ret := some .boolean) (n := 0) ⟨hx, hb, hml, hown, htu⟩ (jm_lat (n := n) (f := f) (a := a) (d := 0)) ⟨jB htu jw_lat.1 jw_code.2.1 jw_lat.2.1 (by decide) (by decide +kernel) (by show 1 ≤ 4; decide) (by show 40 ≤ 160; decide) (by decide), htu _ jw_lat.2.2.1, htu _ jw_lat.2.2.2⟩ ⟨jS.blind, hrec, fun U hU hW => ⟨rfl, jS.mv g1 g2 g3 g4 hz1 hw hz2 hW.alike hU hS⟩⟩ rfl rfl hl.1 rfl (lv_room (by decide)) (by show decode cJ0_charAt_5068e 1 = _; decide +kernel) ⟨Nat.le_refl _, Nat.le_refl _⟩) ?_
  refine lv_if_eq (off := 12) (tgt := 16) hx hb (by show decode cJ0_charAt_5068e 4 = _; decide +kernel) (by decide) (fun h => absurd h (by decide)) (fun _ => ?_)
  refine lv_aload_n (k := 0) hx hb (by show decode cJ0_charAt_5068e 7 = _; decide +kernel) rfl (lv_at hl 0 rfl) ?_
  refine vk_getf hx hb g3 hS hown (htu _ jl9) (fun _ h => h) (by show decode cJ0_charAt_5068e 8 = _; decide +kernel) ?_
  refine lv_iload_n (k := 1) hx hb (by show decode cJ0_charAt_5068e 11 = _; decide +kernel) rfl (lv_at hl 1 rfl) ?_
  refine jrun (x := some (.int (f j.toNatClampNeg))) (va_runS (As := [.ref v, .int j]) (index := 495) (bytes := cJ1_charAt_3b067) (maxL := 2) (ret := some .char) (n := 2) ⟨hx, hb, hml, hown, htu⟩ (jm_chr1 (d := 0) h0 h1 h2 h3 h4) ⟨jB (d := 2) htu jw_chr1.1 jw_chr1.2.1 jw_chr1.2.2.1 (by decide) (by decide +kernel) (by show 3 ≤ 4; decide) (by show 120 ≤ 160; decide) (by decide), htu _ jw_chr1.2.2.2⟩ ⟨jT.blind, fun U hU hW => ⟨rfl, jT.self ⟨g4, hz1, w, hw, hz2⟩ hW.alike hU⟩⟩ rfl rfl hl.1 rfl (lv_room (by decide)) (by show decode cJ0_charAt_5068e 12 = _; decide +kernel) ⟨Nat.le_refl _, Nat.le_refl _⟩) ?_
  exact W.zret hx hb hr h4 (fun t ht hWm => ⟨rfl, ht⟩) (fun _ h => by cases h) (by show decode cJ0_charAt_5068e 15 = _; decide +kernel)
theorem jbyt : ∀ i, i < 5 → ∀ k, k < pstL.getD i 0 → ((((pstB.getD i []).getD k 0) &&& 255).toUInt32 % 65536).toInt32 = (pstB.getD i []).getD k 0 ∧ narrow .char (.int ((pstB.getD i []).getD k 0)) = .int ((pstB.getD i []).getD k 0) := by decide +kernel
theorem jlen : ∀ i, i < 5 → (Int32.ofNat (pstL.getD i 0)).toInt = (pstL.getD i 0 : Int) := by decide +kernel
theorem pSCH_ok : pSCH := by
  intro p l e R s m args below meth c H locs cells slots Q cc pc ls rest sx A K nL d index i a j hX hsz hS hlk hi hsx hj0 hj1 hr8 hc1 hc2 hd kk
  obtain ⟨hx, hb, hml, hown, hts, hnest, hao, ⟨hs1, hs2, adV, ⟨hv, -⟩, hz1, w, hw, hz2⟩, hAA, hfr, hlo⟩ := hX
  obtain ⟨h1, h2, h3, h4⟩ := hv i hi
  simp only [hsx, Option.getD_some] at h1 h2 h3
  have hrec : ∃ cell : Cell, H[a]? = some cell ∧ cell.vm.isStatics = false ∧ s.vm.findClass "java/lang/String" = some cell.cls := by
    obtain ⟨cell, g1, g2, g3, -⟩ := h1.kept hS.2.1
    exact ⟨cell, g1, g2, g3⟩
  have n0 : ¬ j < 0 := fun q => by have := Int32.lt_iff_toInt_lt.mp q; simp at this; omega
  have n1 : j < Int32.ofNat (pstL.getD i 0) := Int32.lt_iff_toInt_lt.mpr (by rw [jlen i hi]; omega)
  have n2 : vp_in j (pstL.getD i 0) := fun q => by
    rcases q with q | q
    · exact n0 q
    · have q : pstL.getD i 0 ≤ j.toInt.toNat := q
      omega
  have n3 := jbyt i hi j.toInt.toNat hj1
  exact jrun (x := some (.int ((pstB.getD i []).getD j.toInt.toNat 0))) (va_runV (C := "java/lang/String") (b := a) (As := [.int j]) (index := index) (bytes := cJ0_charAt_5068e) (maxL := 2) (ret := some .char) (n := 1) ⟨hx, hb, hml, hown, hts⟩ (jm_chr (n := pstL.getD i 0) (f := fun j => (pstB.getD i []).getD j 0) (a := a) (j := j) n0 n1 n2 n3.1 n3.2) ⟨jB hts jw_chr.1 jw_code.2.1 hlk (by decide) (by decide +kernel) (by omega) (by omega) (by decide), hts _ jw_chr.2.1, hts _ jw_chr.2.2⟩ ⟨jS.blind, hrec, fun U hU hW => ⟨rfl, jS.mv h1 h2 h3 h4 hz1 hw hz2 hW.alike hU hS⟩⟩ rfl rfl hsz rfl (lv_room hr8) hd ⟨hc1, hc2⟩) kk
