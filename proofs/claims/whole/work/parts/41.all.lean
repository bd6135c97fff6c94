/-- the word on arrays of int rows stands at every state of the run -/
def pAOM : Prop := ∀ (u U : State), u.vm.Alike U.vm → (Cond.arrayOver (.array .int)).before #[] u = true → (Cond.arrayOver (.array .int)).before #[] U = true
theorem iret_s {Y : pY} {G : pG} {c : Int} {pc : Nat} {loc stk : List pV} {z : pO} (h : pstep Y G (.ireturn, 1, 0, 0, c) pc loc stk = some z) : ∃ x, stk = [.inl x] ∧ z = .inr (.inr (some (pI x))) ∧ (c = 3 → x = 0 ∨ x = 1) := by
  unfold pstep at h
  dsimp only at h
  split at h
  · rename_i x
    refine ⟨x, rfl, ?_⟩
    cases hb : (c == 3) with
    | true =>
      rw [hb] at h
      obtain ⟨h1, h⟩ := if_s h
      cases h
      exact ⟨rfl, fun _ => h1⟩
    | false =>
      rw [hb] at h
      cases h
      exact ⟨rfl, fun e => by rw [e] at hb; cases hb⟩
  · cases h
theorem lret_s {Y : pY} {G : pG} {pc : Nat} {loc stk : List pV} {z : pO} (h : pstep Y G (.lreturn, 1, 0, 0, 0) pc loc stk = some z) : ∃ x, stk = [.inr (.inl x)] ∧ z = .inr (.inr (some (pL x))) := by
  unfold pstep at h
  dsimp only at h
  split at h
  · cases h; exact ⟨_, rfl, rfl⟩
  · cases h
theorem vret_s {Y : pY} {G : pG} {pc : Nat} {loc stk : List pV} {z : pO} (h : pstep Y G (.return_, 1, 0, 0, 0) pc loc stk = some z) : stk = [] ∧ z = .inr (.inr none) := by
  unfold pstep at h
  dsimp only at h
  split at h
  · cases h; exact ⟨rfl, rfl⟩
  · cases h
theorem ppop_s : ∀ {n : Nat} {stk acc as st : List pV}, ppop n stk acc = some (as, st) → ∃ X, stk = X ++ st ∧ X.length = n ∧ as = X.reverse ++ acc
  | 0, _, _, _, _, h => by cases h; exact ⟨[], rfl, rfl, rfl⟩
  | n + 1, v :: stk, acc, as, st, h => by
    obtain ⟨X, h1, h2, h3⟩ := ppop_s (n := n) (stk := stk) (acc := v :: acc) h
    refine ⟨v :: X, by rw [h1]; rfl, by rw [List.length_cons, h2], ?_⟩
    rw [h3, List.reverse_cons, List.append_assoc]
    rfl
  | _ + 1, [], _, _, _, h => by cases h
theorem sR_app {ws : va_W} {sx : Nat → Option Nat} : ∀ {X l : List pV} {m : List Value}, sR ws sx (X ++ l) m → ∃ Xv r, m = Xv ++ r ∧ sR ws sx X Xv ∧ sR ws sx l r ∧ Xv.length = X.length
  | [], l, m, h => ⟨[], m, rfl, trivial, h, rfl⟩
  | v :: X, l, m, h => by
    obtain ⟨w, m2, rfl, h1, h2⟩ := sR_c h
    obtain ⟨Xv, r, rfl, h3, h4, h5⟩ := sR_app (X := X) h2
    exact ⟨w :: Xv, r, rfl, ⟨h1, h3⟩, h4, by rw [List.length_cons, List.length_cons, h5]⟩
theorem sR_cat {ws : va_W} {sx : Nat → Option Nat} : ∀ {X l : List pV} {Xv m : List Value}, sR ws sx X Xv → sR ws sx l m → sR ws sx (X ++ l) (Xv ++ m)
  | [], _, [], _, _, h => h
  | _ :: _, _, _ :: _, _, h1, h => ⟨h1.1, sR_cat h1.2 h⟩
theorem sR_rev {ws : va_W} {sx : Nat → Option Nat} : ∀ {X : List pV} {Xv : List Value}, sR ws sx X Xv → sR ws sx X.reverse Xv.reverse
  | [], [], _ => trivial
  | v :: X, w :: Xv, h => by
    rw [List.reverse_cons, List.reverse_cons]
    exact sR_cat (sR_rev h.2) ⟨h.1, trivial⟩
theorem pScr.mv {sx : Nat → Option Nat} {s : State} {A : Nat → Prop} {G G' : pG} (h : pScr sx s A G) (hg : ∀ i, 498 ≤ i → G' i = G i) : pScr sx s A G' := by
  obtain ⟨b, L, xs, g1, g2, g3, g4, g5, g6, g7⟩ := h
  exact ⟨b, L, xs, g1, g2, g3, g4, g5, by rw [hg 498 (by omega)]; exact g6, fun j hj => by rw [hg 499 (by omega)]; exact g7 j hj⟩
theorem pZs.mv {A B : Nat → Prop} {s U : State} {H : Heap} {locs : List Loc} (h : pZs A s) (hv : s.vm.Alike U.vm) (hU : U.heap = H) (hS : va_S A s.heap H locs) (hAB : ∀ q, B q → A q) : pZs B U := by
  obtain ⟨h1, w, hw, h2⟩ := h
  refine ⟨?_, w, hw, ?_⟩
  · rw [hU]
    exact va_Z.narrow (va_Z.moved hv (va_Z.kept h1 (fun a ha hn => hS.2.1 a ha hn))) hAB
  · rw [hU]
    exact va_Z.narrow (va_Z.moved hv (va_Z.kept h2 (fun a ha hn => hS.2.1 a ha hn))) hAB
/-- the strings at a callee's start -/
theorem pStr.mv {sx : Nat → Option Nat} {A B : Nat → Prop} {s U : State} {H : Heap} {locs : List Loc} (h : pStr sx A s) (hW : s.WarmedH U.vm) (hU : U.heap = H) (hS : va_S A s.heap H locs) (hAB : ∀ q, B q → A q) : pStr sx B U := by
  obtain ⟨h1, h2, adV, h3, h4⟩ := h
  refine ⟨fun q hq => ?_, h2, adV, ?_, h4.mv hW.alike hU hS hAB⟩
  · obtain ⟨a, ha, hr⟩ := h1 q hq
    exact ⟨a, ha, vk_R.warm hW hr⟩
  · rw [hU]
    exact vk_S.narrow (vk_S.moved hW.alike (vk_S.kept h3 (fun a ha hn => hS.2.1 a ha hn))) hAB
theorem pPre_blind {D : va_G} {sx : Nat → Option Nat} {tys : List (ClassId × FieldType)} {ws : va_W} {av : List Value} {sz : Nat} (hAO : pAOM) : FrameBlind (va_Pc av (pPre D sx tys ws sz)) := fun a U g mk q => by
  obtain ⟨q0, q1, q2, q3, q4, q5, q6, q7, q8, adV, q9, z1, w, z2, z3⟩ := q
  refine ⟨q0, q1, q2, va_K.moved (u := U) (U := U.calling g mk a) (Vm.Alike.refl U.vm) q3, q4, fun z hz => va_Nw.same rfl (u := U) rfl (q5 z hz), hAO U _ (Vm.Alike.refl U.vm) q6, fun z hz => ?_, q8, adV, ?_, va_Z.moved (u := U) (Vm.Alike.refl U.vm) z1, w, z2, va_Z.moved (u := U) (Vm.Alike.refl U.vm) z3⟩
  · obtain ⟨b, hb, hr⟩ := q7 z hz
    exact ⟨b, hb, vk_R.same (u := U) rfl hr⟩
  · exact vk_S.moved (u := U) (Vm.Alike.refl U.vm) q9
theorem pPre_at {D : va_G} {sx : Nat → Option Nat} {A : Nat → Prop} {s : State} {tys : List (ClassId × FieldType)} {Y : pY} {G : pG} {ws : va_W} {H : Heap} {locs : List Loc} (hAO : pAOM) (hW : pWl D A s tys Y G ws H locs) (hN : ∀ q ∈ lkN, va_Nw (.methodLinkNest (pown q.1) q.2.1 (pyn q.2.2) "DiscLathe") s) (hao : (Cond.arrayOver (.array .int)).before #[] s = true) (hstr : pStr sx A s) (hAA : ∀ q, s.heap.size ≤ q → A q) (av : List Value) : ∀ U : State, U.heap = H → s.WarmedH U.vm → va_Pc av (pPre D sx tys ws H.size) av.toArray U := fun U hU hWm =>
  ⟨rfl, by rw [hU], by rw [hU]; exact hW.2.1, va_K.moved hWm.alike hW.2.2.2.1, hW.2.2.1.weaken (fun _ _ _ _ => trivial), fun q hq => va_Nw.warmM hWm (hN q hq), hAO s U hWm.alike hao, hstr.mv hWm hU hW.2.2.2.2 (fun q hq => by
    rcases hq with ⟨k, e, h⟩ | h
    · exact hW.2.2.1.2 k (q, e) h
    · exact hAA q (Nat.le_trans hW.2.2.2.2.1 h))⟩
set_option maxRecDepth 20000 in
theorem loc_fit {z d x : Nat} (h1 : z ≤ 40) (h2 : 200 * (d + 1 + 2) ≤ x) : 8 + (z + 11) + 200 * (d + 2) ≤ x := by omega
theorem precv_s {Y : pY} {c : Int} {as : List pV} (h : precv Y c as = true) : ∃ r tl, as = .inr (.inr (some r)) :: tl ∧ (Y.2.1 r).1 = c.toNat := by
  unfold precv at h
  split at h
  · exact ⟨_, _, rfl, beq_e h⟩
  · cases h
set_option maxHeartbeats 4000000 in
/-- a call -/
theorem sim_call {f : Nat} (IH : pRunP f) (hAO : pAOM) {p : Program} {l : Launch} {e : Env} {R : Room} {s : State} {m : MethodId} {args : Array Value} {below : List Frame} {meth : Method} {c : Code} {Q : State → Prop} {D : va_G} {A : Nat → Prop} {sx : Nat → Option Nat} {cc : ByteArray} {nL K d n0 s0 : Nat} {ws0 : va_W} (hX : pCx p R s m args c sx A K nL (d + 1) cc) {pc : Nat} {r : Instr} {way i M1 : Nat} {e0 : pE} (hway : (way = 0 ∧ r = .invokevirtual i) ∨ (way = 1 ∧ r = .invokestatic i) ∨ (way = 2 ∧ r = .invokespecial i)) (hlk : lkf lkM K i = some M1 ∨ lkf lkN K i = some M1) (hcal : pcalM way M1 = some e0) (hd : decode cc pc = .ok (r, 3)) {Y : pY} {G : pG} {loc stk : List pV} {M2 : Nat} {as st0 : List pV} (hs : pstep Y G e0 pc loc stk = some (.inr (.inl (M2, as, st0)))) {mc : pM} (hMc : pMT M2 = some mc) (hk : pcat as ≤ mc.2.1) {r1 : Option pV} {Y1 : pY} {G1 : pG} (hx1 : pexec pMT f d M2 0 (pent as mc.2.1) [] Y G = some (r1, Y1, G1)) (hYk : pYk Y) (hr1 : Y1.1.1 ≤ n0 + R.cells) (hr2 : Y1.1.2 ≤ s0 + R.slots)
    (kk : pKK p l e R s m args below meth c Q D A sx nL n0 s0 ws0 (pc + 3) loc (r1.toList ++ st0) Y1 G1) : pKK p l e R s m args below meth c Q D A sx nL n0 s0 ws0 pc loc stk Y G := by
  obtain ⟨hx, hb, hml, hown, hts, hnest, hao, hstr, hAA, hfr, hlo⟩ := hX
  intro H locs ws tys ls st cells slots hW hA hl hst hc1 hc2
  obtain ⟨w, hw, hwy, rfl⟩ := pcalM_s hcal
  obtain ⟨⟨as', st'⟩, hpop, hs2⟩ := k_op_s (o := ppop w.2.2.2.1 stk []) hs
  obtain ⟨hchk, hs3⟩ := bif_s hs2
  cases hs3
  rw [Bool.and_eq_true] at hchk
  have h8 : pcat st' ≤ 8 := Nat.le_of_ble_eq_true hchk.1
  obtain ⟨X, rfl, hXl, hXr⟩ := ppop_s hpop
  rw [List.append_nil] at hXr
  obtain ⟨Xv, rest, rfl, hXv, hrest, hXvl⟩ := sR_app hst
  have hav : sR ws sx as' Xv.reverse := by rw [hXr]; exact sR_rev hXv
  have hhi := pexec_hi _ _ _ _ _ _ _ _ _ _ _ hx1
  have hMet := met_of IH (l := l) hw hMc hk hx1 hYk D sx tys ws Xv.reverse H.size hW.1 hav
  have hcat := hrest.cat
  have hbd := pmw_bd hw
  have hcls := (pyn_at hw).1
  have hplain := pplain w.1 hbd.2.1
  have hKs := hW.2.2.2.2
  have hAw : ∀ q, va_A ws H.size q → A q := fun q hq => by
    rcases hq with ⟨k, e, h⟩ | h
    · exact hW.2.2.1.2 k (q, e) h
    · exact hAA q (Nat.le_trans hKs.1 h)
  have hfit : cells + (Y1.1.1 - Y.1.1) ≤ R.cells ∧ slots + (Y1.1.2 - Y.1.2) ≤ R.slots := by
    have g1 := hhi.1
    have g2 := hhi.2.1
    omega
  have hcode := hts _ (code_in hw)
  have hini : (Cond.initialized (pyn M1).cls).before args s = true := by rw [hcls]; exact hts _ (w1_in (t := 7) lk7_eq (lk7_all w.1 hbd.2.1) (by omega))
  have hne : (pyn M1).cls ≠ "java/lang/invoke/MethodHandle" ∧ (pyn M1).cls ≠ "java/lang/invoke/VarHandle" := by rw [hcls]; exact hplain.2
  have hpar : ∀ sig, parseMethodDescriptor (pyn M1).desc = some sig → (bif w.2.2.2.2 then w.2.2.2.1 else w.2.2.2.1 - 1) = sig.parameters.length := fun sig h => by
    have h2 := (pyn_at hw).2
    rw [h] at h2
    exact (Option.some.inj h2).symm
  have hmlb : pml M1 ≤ 40 := by rw [pmw_ml hw]; exact hbd.2.2.2.1
  have hpl : 8 + (pml M1 + 11) + 200 * (d + 2) ≤ R.locals := loc_fit hmlb hlo
  have hpf : d + 8 + 1 ≤ R.frames := by omega
  have base : (prm d (Y1.1.1 - Y.1.1) (Y1.1.2 - Y.1.2)).cells = Y1.1.1 - Y.1.1 ∧ (prm d (Y1.1.1 - Y.1.1) (Y1.1.2 - Y.1.2)).slots = Y1.1.2 - Y.1.2 ∧ (prm d (Y1.1.1 - Y.1.1) (Y1.1.2 - Y.1.2)).frames + 1 ≤ R.frames ∧ 8 + (pml M1 + 11) + (prm d (Y1.1.1 - Y.1.1) (Y1.1.2 - Y.1.2)).locals ≤ R.locals ∧ (∀ x ∈ pws M1, ∀ (a' : Array Value) (U : State), s.WarmedH U.vm → x.before a' U = true) ∧ Cond.code (pyn M1) (pcd M1) (pml M1) (pmr M1) ∈ pws M1 :=
    ⟨rfl, rfl, hpf, hpl, pay_in hts (pws_good hw), List.mem_cons_self⟩
  have hroom : 2 * (F0 m pc ls (Xv ++ rest)).monitorRoom + (rest.map fun v => v.category).sum ≤ 8 := lv_room (by omega)
  have hsz : (F0 m pc ls (Xv ++ rest)).locals.size = nL := hl.1
  -- what follows when the call has run
  have fin : va_Run p l e R s m args below meth c H locs cells slots (Y1.1.1 - Y.1.1) (Y1.1.2 - Y.1.2) (F0 m pc ls (Xv ++ rest)) rest (pQ D ws H.size r1 Y1 G1 Xv.reverse.toArray) (va_A ws H.size) → W p l e R s m args below meth c H locs cells slots Q (F0 m pc ls (Xv ++ rest)) := by
    intro hrun
    have next : ∀ (u : pSt) (t : State) (H1 : Heap) (locs1 : List Loc) (v : List Value), t.heap = H1 → s.vm.Alike t.vm → pB D ws H.size Y1 G1 u t → va_S A s.heap H1 locs1 → sR u.1 sx (r1.toList ++ st') (v ++ rest) → W p l e R s m args below meth c H1 locs1 (cells + (Y1.1.1 - Y.1.1)) (slots + (Y1.1.2 - Y.1.2)) Q (F0 m (pc + 3) ls (v ++ rest)) := by
      intro u t H1 locs1 v ht hvm hB hS1 hst1
      obtain ⟨b1, b2, b3, b4, b5⟩ := hB
      exact kk H1 locs1 u.1 u.2 ls _ _ _ ⟨b4, by rw [← ht]; exact b1, b3.weaken (fun _ q _ h => hAw q.1 h), va_K.moved hvm.symm b2, hS1⟩ (hA.tr b5) (hl.mv b5) hst1 (by have := hhi.1; omega) (by have := hhi.2.1; omega)
    rcases r1 with _ | x | x | x
    · exact va_callv (A0 := A) (a := Xv.reverse.toArray) hrun hKs (fun q _ h => hAw q h) hAw (fun u t H1 locs1 ht hvm _ hB _ _ hS1 => next u t H1 locs1 [] ht hvm hB hS1 (hrest.mv hB.2.2.2.2))
    · exact va_calli (A0 := A) (a := Xv.reverse.toArray) hrun hKs (fun q _ h => hAw q h) hAw (fun y u t H1 locs1 ht hvm hy hB _ _ hS1 => next u t H1 locs1 [.int y] ht hvm hB hS1 ⟨⟨y, rfl, hy⟩, hrest.mv hB.2.2.2.2⟩)
    · exact va_calll (A0 := A) (a := Xv.reverse.toArray) hrun hKs (fun q _ h => hAw q h) hAw (fun y u t H1 locs1 ht hvm hy hB _ _ hS1 => next u t H1 locs1 [.long y] ht hvm hB hS1 ⟨⟨y, rfl, hy⟩, hrest.mv hB.2.2.2.2⟩)
    · intro T hT XX
      obtain ⟨v, st₀, t, T', L, h0, X', hL, e1, e2, hq, st⟩ := hrun T hT XX
      exact hq.elim
  have S : CallFix p m c cc nL s args lw_use (pown K) := ⟨hx, hb, hml, hown, hts⟩
  have hblind := pPre_blind (D := D) (sx := sx) (tys := tys) (ws := ws) (av := Xv.reverse) (sz := H.size) hAO
  have hat := pPre_at hAO hW hnest hao hstr hAA Xv.reverse
  have hst8 : Xv ++ rest = Xv.reverse.reverse ++ rest := by rw [List.reverse_reverse]
  have hlen8 : Xv.reverse.length = w.2.2.2.1 := by rw [List.length_reverse, hXvl, hXl]
  have hnst : ∀ {q : Nat}, lkf lkN K i = some q → va_Nw (.methodLinkNest (pown K) i (pyn q) "DiscLathe") s := fun h => hnest _ (lkf_mem h)
  apply fin
  rcases hway with ⟨rfl, rfl⟩ | ⟨rfl, rfl⟩ | ⟨rfl, rfl⟩
  · -- virtual
    have hst9 : w.2.2.2.2 = false := by cases h : w.2.2.2.2 <;> rw [h] at hwy <;> first | rfl | cases hwy
    rw [hst9] at hwy hpar
    have hi9 : pini M1 = false := by cases h : pini M1 <;> rw [h] at hwy <;> first | rfl | cases hwy
    obtain ⟨g9, -, g10⟩ := hbd.2.2.2.2.2.2 hst9
    have hins := hts _ (w1_in (t := 9) lk9_eq g9 (by omega))
    have hsel := hts _ (w1_in (t := 10) lk10_eq (g10 hi9) (by omega))
    have hrec := hchk.2
    rw [show (bif Nat.beq 0 1 then -1 else (w.1 : Int)) = (w.1 : Int) from rfl] at hrec
    rw [Bool.or_eq_true] at hrec
    rcases hrec with hrec | hrec
    · have := eq_of_beq hrec; omega
    · obtain ⟨ra, tl, has, hra⟩ := precv_s hrec
      have has : as' = .inr (.inr (some ra)) :: tl := has
      · rw [has] at hav
        obtain ⟨bq, Av, hAv, hb9, hAvs⟩ := sR_r hav
        have hra2 : (Y.2.1 ra).1 = w.1 := by rw [hra]; exact Int.toNat_natCast _
        obtain ⟨e1, he1, hcr⟩ := hW.1.cell hb9 (by have := hbd.2.1; omega)
        have h14 : w.1 < 13 := by
          have h15 := hbd.2.1
          have h16 := hbd.2.2.1
          by_cases h17 : w.1 = 14
          · rcases e1 with ⟨cA, n, x⟩ | ⟨ci, fs⟩
            · obtain ⟨-, -, hcr⟩ := hcr
              rcases x with x | x | x | x | x
              · rcases hcr.1 with ⟨q, -⟩ | ⟨q, -⟩ <;> omega
              · have := hcr.1; omega
              · exact hcr.elim
              · exact hcr.elim
              · have := hcr.1; omega
            · have q1 := hcr.1; have q2 := hcr.2.1; omega
          · omega
        obtain ⟨fs, rfl, -, -⟩ := cR_o hcr (by omega)
        rw [hra2] at he1
        have hrcv := va_recv (q := (pown w.1, pfT w.1, pfN w.1)) hW.2.2.2.1 hW.2.1 (pcl_at w.1 h14) he1
        have hstk : (F0 m pc ls (Xv ++ rest)).stack = Av.reverse ++ .ref bq :: rest := by
          show Xv ++ rest = _
          rw [hst8, hAv, List.reverse_cons, List.append_assoc]
          rfl
        have hnl : Av.length = w.2.2.2.1 - 1 := by rw [hAv, List.length_cons] at hlen8; omega
        rw [hAv] at hMet hblind hat ⊢
        rcases hlk with hlk | hlk
        · exact va_runV (C := pown w.1) (b := bq) (As := Av) (index := i) (bytes := pcd M1) (maxL := pml M1) (ret := pmr M1) (n := w.2.2.2.1 - 1) S hMet ⟨⟨base.1, base.2.1, base.2.2.1, base.2.2.2.1, base.2.2.2.2.1, base.2.2.2.2.2, hcode, hini, hne, hpar, hts _ (lkM_in hlk)⟩, hins, by rw [← hcls]; exact hsel⟩ ⟨hblind, hrcv, hat⟩ rfl hnl hsz hstk hroom hd hfit
        · exact va_runVN (C := pown w.1) (host := "DiscLathe") (b := bq) (As := Av) (index := i) (bytes := pcd M1) (maxL := pml M1) (ret := pmr M1) (n := w.2.2.2.1 - 1) S hMet ⟨⟨base, hcode, hini, hne, hpar, va_Nw.use rfl (hnst hlk)⟩, hins, by rw [← hcls]; exact hsel⟩ ⟨hblind, hrcv, hat⟩ rfl hnl hsz hstk hroom hd hfit
  · -- static
    have hst9 : w.2.2.2.2 = true := by
      cases h : w.2.2.2.2 with
      | true => rfl
      | false => rw [h] at hwy; cases h2 : pini M1 <;> rw [h2] at hwy <;> cases hwy
    rw [hst9] at hpar
    have hsta := hts _ (w1_in (t := 8) lk8_eq (hbd.2.2.2.2.2.1 hst9) (by omega))
    rcases hlk with hlk | hlk
    · exact va_runS (As := Xv.reverse) (index := i) (bytes := pcd M1) (maxL := pml M1) (ret := pmr M1) (n := w.2.2.2.1) S hMet ⟨⟨base.1, base.2.1, base.2.2.1, base.2.2.2.1, base.2.2.2.2.1, base.2.2.2.2.2, hcode, hini, hne, hpar, hts _ (lkM_in hlk)⟩, hsta⟩ ⟨hblind, hat⟩ rfl hlen8 hsz hst8 hroom hd hfit
    · exact va_runSN (host := "DiscLathe") (As := Xv.reverse) (index := i) (bytes := pcd M1) (maxL := pml M1) (ret := pmr M1) (n := w.2.2.2.1) S hMet ⟨⟨base, hcode, hini, hne, hpar, va_Nw.use rfl (hnst hlk)⟩, hsta, trivial⟩ ⟨hblind, hat⟩ rfl hlen8 hsz hst8 hroom hd hfit
  · -- init
    have hst9 : w.2.2.2.2 = false := by cases h : w.2.2.2.2 <;> rw [h] at hwy <;> first | rfl | cases hwy
    rw [hst9] at hwy hpar
    have hi9 : pini M1 = true := by cases h : pini M1 <;> rw [h] at hwy <;> first | rfl | cases hwy
    obtain ⟨g9, g11, -⟩ := hbd.2.2.2.2.2.2 hst9
    have hmr0 : pmr M1 = none := by rw [pmw_mr hw]; exact g11 hi9
    have hins := hts _ (w1_in (t := 9) lk9_eq g9 (by omega))
    rw [hmr0] at hcode base
    have hpos : ∃ bq Av, Xv.reverse = .ref bq :: Av := by
      have hrec := hchk.2
      rw [show (bif Nat.beq 2 1 then -1 else (w.1 : Int)) = (w.1 : Int) from rfl] at hrec
      rw [Bool.or_eq_true] at hrec
      rcases hrec with hrec | hrec
      · have := eq_of_beq hrec; omega
      · obtain ⟨ra, tl, has, hra⟩ := precv_s hrec
        have has : as' = .inr (.inr (some ra)) :: tl := has
        rw [has] at hav
        obtain ⟨bq, Av, hAv, -, -⟩ := sR_r hav
        exact ⟨bq, Av, hAv⟩
    obtain ⟨bq, Av, hAv⟩ := hpos
    have hstk : (F0 m pc ls (Xv ++ rest)).stack = Av.reverse ++ .ref bq :: rest := by
      show Xv ++ rest = _
      rw [hst8, hAv, List.reverse_cons, List.append_assoc]
      rfl
    have hnl : Av.length = w.2.2.2.1 - 1 := by rw [hAv, List.length_cons] at hlen8; omega
    rw [hAv] at hMet hblind hat ⊢
    rcases hlk with hlk | hlk
    · exact va_runI (b := bq) (As := Av) (index := i) (bytes := pcd M1) (maxL := pml M1) (n := w.2.2.2.1 - 1) S hMet ⟨⟨base.1, base.2.1, base.2.2.1, base.2.2.2.1, base.2.2.2.2.1, base.2.2.2.2.2, hcode, hini, hne, hpar, hts _ (lkM_in hlk)⟩, pini_nm M1 hi9, hins⟩ ⟨hblind, hat⟩ rfl hnl hsz hstk hroom hd hfit
    · exact va_runIN (host := "DiscLathe") (b := bq) (As := Av) (index := i) (bytes := pcd M1) (maxL := pml M1) (n := w.2.2.2.1 - 1) S hMet ⟨⟨base, hcode, hini, hne, hpar, va_Nw.use rfl (hnst hlk)⟩, pini_nm M1 hi9, hins⟩ ⟨hblind, hat⟩ rfl hnl hsz hstk hroom hd hfit
