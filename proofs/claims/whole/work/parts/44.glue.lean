/-! THE CLAIM OUT OF ONE WALK OF THE LAW'S BODY. Your part is whole_start (and what it stands on); all else here is the same for every law, but numbers. -/
def R_law : String := "DiscLatheLaw"
def lw_P (b : Addr) (xs : List Int32) (args : Array Value) (s : State) : Prop := args = #[.ref b] ∧ s.IntsAt b xs ∧ xs.length ≤ 3072 ∧ (Jvm.Cond.and given_1 narrow_1).before args s = true
def lw_Q (_ : Array Value) (s : State) (o : Outcome) (t : State) : Prop := o = .returned (some (.int 1)) ∧ Framed s o t [] 600000 7302250
def lw_Z (below : List Frame) (a : Array Value) (s : State) : State → Prop := fun t => ∃ o, t.status = .running ∧ Ended t below o ∧ lw_Q a s o t
/-- the law's own end, with 1 on the stack, nothing written that was there before, its room as the claim has it -/
theorem lw_ret {p : Program} {l : Launch} {e : Env} {s : State} {m : MethodId} {below : List Frame} {meth : Method} {c : Code} {b : Nat} (hx : p.tables.exec = Jvm.exec) (hb : c.code = code) (hr : meth.sig.returnType = ret) (hlocks : meth.locks = false) {pc : Nat} {H : Heap} {ls : Array Slot} (hdg : decode code pc = .ok (.ireturn, 1)) : W p l e room_1 s m #[Value.ref b] below meth c H [] 600000 7302250 (lw_Z below #[Value.ref b] s) (F0 m pc ls [.int 1]) := by
  intro T hT X
  obtain ⟨fs, hret, hrun, hended, hW, hframe⟩ := X.leave (v := some (.int 1)) (hlocks := hlocks) (fun h => by rw [hr] at h; cases h)
  have hmeth' : T.vm.method? m = some meth := X.method'
  refine ⟨T.setFrames fs, ?_, .returned (some (.int 1)), hrun, hended, rfl, ⟨_, rfl⟩, hW, hframe⟩
  jvm_step X.here [X.here.top, hx, hb, hdg, hmeth', hr, ret, narrow_b1]
  (try refine ⟨rfl, ?_⟩); (try refine ⟨rfl, ?_⟩)
  first | (intro acts; rw [hret _ acts rfl rfl rfl]) | rw [hret _ _ rfl rfl rfl]
  exact Steps.refl _
/-- what holds at the law's entry: the machine, the code, the tables' words (any of lw_tbl by 'hts w (by decide +kernel)'), the script of L ints xs at the cell b, what the Statement gives of the start (any of its parts by flat_of_before) -/
def lw_At (p : Program) (s : State) (m : MethodId) (meth : Method) (c : Code) (b L : Nat) (xs : Nat → Int32) : Prop :=
  p.tables.exec = Jvm.exec ∧ c.code = code ∧ meth.sig.returnType = ret ∧ c.maxLocals = 4 ∧ s.vm.findClass R_law = some m.cls ∧ (∀ w ∈ lw_tbl, w.before #[Value.ref b] s = true) ∧ va_X b L xs s s.heap ∧ b < s.heap.size ∧ meth.locks = false ∧ (Jvm.Cond.and given_1 narrow_1).before #[Value.ref b] s = true

set_option maxRecDepth 100000 in
theorem jw_str0 : Cond.stringRef "DiscLatheModel" 132 "tool" ∈ lw_tbl := List.mem_of_getElem? (i := 1642) rfl
set_option maxRecDepth 100000 in
theorem jw_str1 : Cond.stringRef "DiscLatheModel" 136 "step" ∈ lw_tbl := List.mem_of_getElem? (i := 1719) rfl
set_option maxRecDepth 100000 in
theorem jw_str2 : Cond.stringRef "DiscLatheModel" 141 "after" ∈ lw_tbl := List.mem_of_getElem? (i := 1728) rfl
set_option maxRecDepth 100000 in
theorem jw_str3 : Cond.stringRef "DiscLatheModel" 146 "meet" ∈ lw_tbl := List.mem_of_getElem? (i := 1733) rfl
set_option maxRecDepth 100000 in
theorem jw_str4 : Cond.stringRef "DiscLatheModel" 116 "idle" ∈ lw_tbl := List.mem_of_getElem? (i := 1742) rfl
set_option maxRecDepth 100000 in
theorem jw_over : Cond.arrayOver (.array .int) ∈ lw_tbl := List.mem_of_getElem? (i := 276) rfl
theorem lkN_in : ∀ q ∈ lkN, Cond.methodLinkNest (pown q.1) q.2.1 (pyn q.2.2) "DiscLathe" ∈ lw_tbl := by
  intro q hq
  obtain ⟨⟨t, a, b, x, y⟩, h1, h2, h3⟩ := pfm lkN_eq hq
  have h2 : t = 3 := h2
  subst h2
  subst h3
  exact pD_mem h1 (Nat.le_of_ble_eq_true rfl)
def pstT (i : Nat) : Term := Term.string "DiscLatheModel" (([132, 136, 141, 146, 116] : List Nat).getD i 0)
theorem lt5 {P : Nat → Prop} (h0 : P 0) (h1 : P 1) (h2 : P 2) (h3 : P 3) (h4 : P 4) : ∀ i, i < 5 → P i := by
  intro i hi
  have h5 : i = 0 ∨ i = 1 ∨ i = 2 ∨ i = 3 ∨ i = 4 := by omega
  rcases h5 with rfl | rfl | rfl | rfl | rfl <;> assumption
theorem pn_none {α : Type} : ∀ {l : List α} {i : Nat}, l.length ≤ i → pn l i = none
  | [], _, _ => rfl
  | _ :: l, 0, h => by rw [List.length_cons] at h; omega
  | _ :: l, i + 1, h => pn_none (l := l) (by rw [List.length_cons] at h; omega)
theorem Yc_hi : ∀ i, 174 ≤ i → (Yc.2.1 i).1 = 999 := by
  intro i hi
  show ((pn2 ycT i).getD (999, 0)).1 = 999
  have h : pn2 ycT i = none := by
    unfold pn2
    by_cases h1 : i / 16 = 10
    · rw [h1]
      exact pn_none (l := (ycT.getD 10 [])) (by show 14 ≤ i % 16; omega)
    · rw [pn_none (l := ycT) (by show 11 ≤ i / 16; omega)]
  rw [h]
  rfl
theorem pst0_s : pst0 = some ([pR 499, pR 0, pR 109, pI 0], [], pY1, pG1) ∧ pY1.1 = (174, 13851) ∧ (∀ i, i < 174 → pY1.2.1 i = Yc.2.1 i) ∧ (∀ i, i < 174 → ∀ j, j < 74 → j < (Yc.2.1 i).2.toNat → ((Yc.2.1 i).1 < 13 ∨ (Yc.2.1 i).1 = 103) → pY1.2.2 i j = Yc.2.2 i j) := by
  have h := pst0_ok
  unfold pst0c at h
  unfold pY1 pG1
  cases hq : pst0 with
  | none => rw [hq] at h; cases h
  | some q =>
    rw [hq] at h
    obtain ⟨q1, q2, q3, q4⟩ := q
    dsimp only at h ⊢
    simp only [Bool.and_eq_true, decide_eq_true_eq] at h
    obtain ⟨⟨⟨h1, h2⟩, h3⟩, h4⟩ := h
    subst h1; subst h2
    refine ⟨rfl, h3, fun i hi => ?_, fun i hi j hj hl hk => ?_⟩
    · have := List.all_eq_true.mp h4 i (List.mem_range.mpr hi)
      simp only [Bool.and_eq_true, decide_eq_true_eq] at this
      exact this.1
    · have h5 := List.all_eq_true.mp h4 i (List.mem_range.mpr hi)
      rw [Bool.and_eq_true] at h5
      have h6 := List.all_eq_true.mp h5.2 j (List.mem_range.mpr hj)
      have h7 : (Nat.blt j (Yc.2.1 i).2.toNat && (Nat.blt (Yc.2.1 i).1 13 || Nat.beq (Yc.2.1 i).1 103)) = true := by
        rw [Bool.and_eq_true, Bool.or_eq_true]
        refine ⟨by simpa [Nat.blt_eq] using hl, ?_⟩
        rcases hk with hk | hk
        · exact Or.inl (by simpa [Nat.blt_eq] using hk)
        · exact Or.inr (by rw [hk]; rfl)
      rw [h7] at h6
      exact of_decide_eq_true h6
theorem Yc_ob : ∀ i, i < 174 → ((Yc.2.1 i).1 < 13 → (Yc.2.1 i).2.toNat = pfN (Yc.2.1 i).1 ∧ pfN (Yc.2.1 i).1 ≤ 74) ∧ ((Yc.2.1 i).1 = 103 → (Yc.2.1 i).2 ≤ 74) := by decide +kernel
theorem cR.rf {ws : va_W} {tys : List (ClassId × FieldType)} {kl : Nat × Int} {g : Nat → Int} {rf rf' : Nat → Option Nat} {e : va_E} (h : cR ws tys kl g rf e) (h1 : kl.1 < 13 → ∀ k, k < pfN kl.1 → rf' k = rf k) (h2 : kl.1 = 103 → ∀ j : Nat, (j : Int) < kl.2 → rf' j = rf j) : cR ws tys kl g rf' e := by
  rcases e with ⟨cA, n, f | f | f | f | f⟩ | ⟨ci, fs⟩
  · exact h
  · exact h
  · exact h
  · exact h
  · obtain ⟨a1, a2, a3, a4, a5⟩ := h
    exact ⟨a1, a2, a3, a4, fun j hj a ha => a5 j hj a (by rw [← h2 a3 j (by omega)]; exact ha)⟩
  · obtain ⟨a1, a2, a3, a4⟩ := h
    exact ⟨a1, a2, a3, fun k hk => by rw [h1 (by omega) k (by rw [← a1]; exact hk)]; exact a4 k hk⟩
/-- the layout that was made is the layout Yc -/
theorem wR_Yc {tys : List (ClassId × FieldType)} {ws : va_W} {G : pG} (h : wR tys pY1 pG1 ws) (hG : ∀ i, i < 174 → G i = pG1 i) : wR tys Yc G ws := by
  obtain ⟨-, hy1, hy2, hy3⟩ := pst0_s
  obtain ⟨h1, h2, h3, h4⟩ := h
  have e1 : pY1.1.1 = 174 := by rw [hy1]
  rw [e1] at h1
  refine ⟨h1, by show 174 ≤ 498; omega, Yc_hi, fun i q hq => ?_⟩
  have hi : i < 174 := by rw [← h1]; exact (List.getElem?_eq_some_iff.mp hq).1
  have h5 := h4 i q hq
  rw [hy2 i hi] at h5
  rw [hG i hi]
  refine h5.rf (fun hk k hkN => ?_) (fun hk j hj => ?_)
  · obtain ⟨g1, g2⟩ := (Yc_ob i hi).1 hk
    exact (hy3 i hi k (by omega) (by omega) (Or.inl hk)).symm
  · have g2 := (Yc_ob i hi).2 hk
    exact (hy3 i hi j (by omega) (by omega) (Or.inr hk)).symm
/-- WHAT IS LEFT, over the pure machine: from the head of the law's loop it comes to 1 -/
def pMain : Prop := ∀ (G : pG) (L : Nat), (∀ i, i < 174 → G i = pG1 i) → G 498 0 = (L : Int) → L ≤ 3072 → (∀ j, j < L → -2147483648 ≤ G 499 j ∧ G 499 j ≤ 2147483647) → pEnds pMT 60 268 Yc (fun r _ => r = some (pI 1)) 18 [pR 499, pR 0, pR 109, pI 0] [] G
def psx (b : Nat) (adK : Nat → Nat) (n : Nat) : Option Nat := if n = 499 then some b else if 500 ≤ n ∧ n < 505 then some (adK (n - 500)) else none
theorem psx_s (b : Nat) (adK : Nat → Nat) (i : Nat) (hi : i < 5) : psx b adK (500 + i) = some (adK i) := by
  unfold psx
  rw [if_neg (by omega), if_pos (by omega), show 500 + i - 500 = i by omega]
def pGs (L : Nat) (xs : Nat → Int32) : pG := fun i => if i = 498 then (fun _ => (L : Int)) else if i = 499 then (fun j => (xs j).toInt) else pG1 i
theorem pGs_lo (L : Nat) (xs : Nat → Int32) (i : Nat) (hi : i < 174) : pGs L xs i = pG1 i := by
  unfold pGs
  rw [if_neg (by omega), if_neg (by omega)]
theorem pGs_8 (L : Nat) (xs : Nat → Int32) : pGs L xs 498 0 = (L : Int) := rfl
theorem pGs_9 (L : Nat) (xs : Nat → Int32) (j : Nat) : pGs L xs 499 j = (xs j).toInt := rfl
theorem i32_bd (x : Int32) : -2147483648 ≤ x.toInt ∧ x.toInt ≤ 2147483647 := by
  have q1 := x.le_toInt
  have q2 := x.toInt_lt
  have h9 : (-2 ^ 31 : Int) = -2147483648 := by decide
  have h8 : (2 ^ 31 : Int) = 2147483648 := by decide
  omega
theorem jw_z1 : Cond.laysStatic "java/lang/String" "COMPACT_STRINGS" "Z" ∈ lw_tbl ∧ Cond.initialized "java/lang/String" ∈ lw_tbl := by decide +kernel
theorem jw_z2 : Cond.laysStatic "jdk/internal/util/Preconditions" "SIOOBE_FORMATTER" "Ljava/util/function/BiFunction;" ∈ lw_tbl ∧ Cond.initialized "jdk/internal/util/Preconditions" ∈ lw_tbl := by decide +kernel
set_option maxRecDepth 100000 in
theorem pZs_start {s : State} {b : Nat} {A : Nat → Prop} (hA : ∀ a : Nat, a < s.heap.size → ¬ A a) (hts : ∀ w ∈ lw_tbl, w.before #[Value.ref b] s = true) (hgv : (Jvm.Cond.and given_1 narrow_1).before #[Value.ref b] s = true) : pZs A s := by
  have hs := flat_of_before _ hgv
  have k1 := va_eqi (hs (.eq (.static "java/lang/String" "COMPACT_STRINGS" "Z") (.int 1)) (by decide +kernel))
  obtain ⟨w, k2, k3⟩ := Cond.isRef_spec (hs (.isRef (.static "jdk/internal/util/Preconditions" "SIOOBE_FORMATTER" "Ljava/util/function/BiFunction;")) (by decide +kernel))
  exact ⟨va_Zof (hts _ jw_z1.1) (hts _ jw_z1.2) k1 hA, w, k3, va_Zof (hts _ jw_z2.1) (hts _ jw_z2.2) k2 hA⟩
set_option maxHeartbeats 4000000 in
set_option maxRecDepth 100000 in
theorem pStr_start {s : State} {b : Nat} {A : Nat → Prop} (hA : ∀ a : Nat, a < s.heap.size → ¬ A a) (hts : ∀ w ∈ lw_tbl, w.before #[Value.ref b] s = true) (hgv : (Jvm.Cond.and given_1 narrow_1).before #[Value.ref b] s = true) : ∃ sx : Nat → Option Nat, pStr sx A s ∧ sx 499 = some b := by
  have hs := flat_of_before _ hgv
  obtain ⟨adK, adV, h1, h2⟩ := vk_Sof (args := #[Value.ref b]) (s := s) (N := 5) (tm := pstT) (len := pstL) (byt := pstB) (A := A) (by decide) (lt5 (hs _ (by decide +kernel)) (hs _ (by decide +kernel)) (hs _ (by decide +kernel)) (hs _ (by decide +kernel)) (hs _ (by decide +kernel)))
    (lt5 (hs _ (by decide +kernel)) (hs _ (by decide +kernel)) (hs _ (by decide +kernel)) (hs _ (by decide +kernel)) (hs _ (by decide +kernel)))
    (lt5 (hs _ (by decide +kernel)) (hs _ (by decide +kernel)) (hs _ (by decide +kernel)) (hs _ (by decide +kernel)) (hs _ (by decide +kernel)))
    (lt5 (hs _ (by decide +kernel)) (hs _ (by decide +kernel)) (hs _ (by decide +kernel)) (hs _ (by decide +kernel)) (hs _ (by decide +kernel)))
    (by
      have key : ∀ i, i < 5 → ∀ j, j < pstL.getD i 0 → Cond.eq (.elem (.field (pstT i) "java/lang/String" "value" "[B") (.int (Int32.ofNat j))) (.int ((pstB.getD i []).getD j 0)) ∈ flatC (Jvm.Cond.and given_1 narrow_1) := by decide +kernel
      exact fun i hi j hj => hs _ (key i hi j hj))
    (by
      have key : ∀ i, i < 5 → ∀ j, j < 5 → i ≠ j → (Cond.not (Cond.eq (pstT i) (pstT j)) ∈ flatC (Jvm.Cond.and given_1 narrow_1) ∨ Cond.not (Cond.eq (pstT j) (pstT i)) ∈ flatC (Jvm.Cond.and given_1 narrow_1)) := by decide +kernel
      intro i j hi hj hij
      rcases key i hi j hj hij with k | k
      · exact Or.inl (hs _ k)
      · exact Or.inr (hs _ k)) hA
  have hsx := psx_s b adK
  refine ⟨psx b adK, ⟨?_, fun i hi => ?_, adV, ?_, pZs_start hA hts hgv⟩, if_pos rfl⟩
  · intro q hq
    have hq5 : q = (12, 116, 4) ∨ q = (12, 132, 0) ∨ q = (12, 136, 1) ∨ q = (12, 141, 2) ∨ q = (12, 146, 3) := by simpa [lkS] using hq
    rcases hq5 with rfl | rfl | rfl | rfl | rfl
    · exact ⟨adK 4, hsx 4 (by omega), vk_R.of (hts _ jw_str4) (h2 4 (by omega))⟩
    · exact ⟨adK 0, hsx 0 (by omega), vk_R.of (hts _ jw_str0) (h2 0 (by omega))⟩
    · exact ⟨adK 1, hsx 1 (by omega), vk_R.of (hts _ jw_str1) (h2 1 (by omega))⟩
    · exact ⟨adK 2, hsx 2 (by omega), vk_R.of (hts _ jw_str2) (h2 2 (by omega))⟩
    · exact ⟨adK 3, hsx 3 (by omega), vk_R.of (hts _ jw_str3) (h2 3 (by omega))⟩
  · unfold psx
    rw [if_neg (by omega), if_neg (by omega)]
  · obtain ⟨k1, k2⟩ := h1
    have hget : ∀ i, i < 5 → (psx b adK (500 + i)).getD 0 = adK i := fun i hi => by rw [hsx i hi]; rfl
    refine ⟨fun i hi => ?_, fun i j hi hj hij => ?_⟩
    · have k3 := k1 i hi
      rw [← hget i hi] at k3
      exact k3
    · have hij : (psx b adK (500 + i)).getD 0 = (psx b adK (500 + j)).getD 0 := hij
      rw [hget i hi, hget j hj] at hij
      exact k2 i j hi hj hij
set_option maxHeartbeats 4000000 in
set_option maxRecDepth 100000 in
/-- the law's walk out of what is left -/
theorem whole_of (hR : pRows) (hAO : pAOM) (hmain : pMain) {p : Program} {e : Env} {s : State} {m : MethodId} {below : List Frame} {meth : Method} {c : Code} (l : Launch) {b L : Nat} {xs : Nat → Int32} (hL : L ≤ 3072) (C0 : lw_At p s m meth c b L xs) : W p l e room_1 s m #[Value.ref b] below meth c s.heap [] 0 0 (lw_Z below #[Value.ref b] s) (entryFrame m ([Value.ref b] : List Value).toArray 4) := by
  obtain ⟨hx, hb, hr, hml, hown, hts, hXs, hbl, hlocks, hgv⟩ := C0
  have hts' : ∀ w ∈ lw_use, w.before #[Value.ref b] s = true := fun w hw => hts w (List.mem_filter.mp hw).1
  have hDk : ∃ D : va_G, va_K D pcl [] s := by
    have h0 : ∀ ci : Nat, ∃ z : ClassId × (Nat → Nat), ci < 13 → u_Kn s (pown ci) (pfT ci) (pfN ci) z.1 z.2 := by
      intro ci
      by_cases hci : ci < 13
      · obtain ⟨cC, iS, h⟩ := u_known hts' (pin hci) (hts' _ (lk12_in (lk12_all ci hci)))
        exact ⟨(cC, iS), fun _ => h⟩
      · exact ⟨(0, fun _ => 0), fun h => absurd h hci⟩
    obtain ⟨ad, had⟩ := Classical.axiomOfChoice h0
    refine ⟨(fun c => (ad c).1, fun c => (ad c).2), fun c q hq => ?_, fun k q hk => by cases hk⟩
    have hc : c < 13 := (List.getElem?_eq_some_iff.mp hq).1
    rw [pcl_at c hc] at hq
    cases hq
    exact had c hc
  obtain ⟨D, hK⟩ := hDk
  have hA0 : ∀ a : Nat, a < s.heap.size → ¬ (fun q : Nat => s.heap.size ≤ q) a := fun a ha h => by have h : s.heap.size ≤ a := h; omega
  obtain ⟨sx, hstr, hsx⟩ := pStr_start hA0 hts hgv
  have hX : pCx p room_1 s m #[Value.ref b] c sx (fun q => s.heap.size ≤ q) (pKo 268) 4 60 (pcd 268) := ⟨hx, hb, hml, hown, hts', fun q hq => va_Nw.of rfl (hts _ (lkN_in q hq)), hts _ jw_over, hstr, fun _ h => h, by decide, by decide⟩
  have hM : pMT 268 = some (t268, 4, 3) := rfl
  have hl := lv_entry [Value.ref b] (n := 4) (Nat.le_of_ble_eq_true rfl)
  rw [lg_entry_eq]
  generalize (lg_sl [Value.ref b] ++ List.replicate (4 - (lg_sl [Value.ref b]).length) Slot.unset).toArray = ls at hl ⊢
  have hlR : lR [] sx 4 [pR 499, pU, pU, pU] ls := ⟨hl.1, hl.2.1, by show 4 ≤ 4; omega, fun i v hv => by
    rcases i with _ | _ | _ | _ | i
    · cases hv
      exact Or.inr ⟨.ref b, hl.2.2 (0, .ref b) List.mem_cons_self, ⟨b, rfl, Or.inr ⟨by omega, hsx⟩⟩⟩
    · cases hv; exact Or.inl rfl
    · cases hv; exact Or.inl rfl
    · cases hv; exact Or.inl rfl
    · cases hv⟩
  obtain ⟨hst, hy1, hy2, hy3⟩ := pst0_s
  -- the memory with the script
  obtain ⟨f, r, G', hrun, hr1⟩ := hmain (pGs L xs) L (pGs_lo L xs) (pGs_8 L xs) hL (fun j _ => by rw [pGs_9]; exact i32_bd _)
  subst hr1
  have hscr : pScr sx s (fun q => s.heap.size ≤ q) (pGs L xs) := ⟨b, L, xs, hsx, hXs, hbl, hA0 b hbl, by omega, rfl, fun j hj => rfl⟩
  have hYk : pYk Yc := ⟨by show 174 ≤ 498; omega, Yc_hi⟩
  have hloop : pKK p l e room_1 s m #[Value.ref b] below meth c (lw_Z below #[Value.ref b] s) D (fun q => s.heap.size ≤ q) sx 4 0 0 [] 18 [pR 499, pR 0, pR 109, pI 0] [] Yc (pGs L xs) := by
    refine run_all hR hAO f p l e room_1 s m #[Value.ref b] below meth c _ D _ sx 0 0 [] 60 268 18 _ _ Yc _ _ Yc G' (t268, 4, 3) hrun hM hX (fun _ => hscr) (fun h => by cases h) hYk (by decide) (by decide) ?_
    intro pc1 H locs ws tys ls1 st cells slots hW hA hc1 hc2 hret
    obtain ⟨y, hd, rfl, hy, -⟩ := hret
    have hy1 : y = 1 := Int32.toInt_inj.mp (by rw [hy]; rfl)
    subst hy1
    have e1 : cells = 174 := by have h9 : 174 = 0 + cells := hc1; omega
    have e2 : slots = 13851 := by have h9 : 13851 = 0 + slots := hc2; omega
    subst e1; subst e2
    exact va_forget (fun q hq => hW.2.2.2.2.2.2 q hq) (W.widen (by decide) (by decide) (lw_ret hx hb hr hlocks hd))
  have hswitch : pKK p l e room_1 s m #[Value.ref b] below meth c (lw_Z below #[Value.ref b] s) D (fun q => s.heap.size ≤ q) sx 4 0 0 [] 18 [pR 499, pR 0, pR 109, pI 0] [] pY1 pG1 := by
    intro H locs ws tys ls1 st cells slots hW hA hl1 hst1 hc1 hc2
    refine hloop H locs ws tys ls1 st cells slots ⟨wR_Yc hW.1 (pGs_lo L xs), hW.2⟩ hA hl1 hst1 (by rw [hy1] at hc1; exact hc1) (by rw [hy1] at hc2; exact hc2)
  have hpre := (pref_ok hR hAO (F := 4000) (mi := (t268, 4, 3)) hM hX (fun h => by cases h) (by rw [hy1]; decide) (by rw [hy1]; decide) hswitch 30 0 [pR 499, pU, pU, pU] [] pY0 (fun _ _ => 0) hst ⟨by decide, fun _ _ => rfl⟩).1
  exact hpre s.heap [] [] [] ls [] 0 0 ⟨⟨rfl, (by decide), (fun _ _ => rfl), (fun i q h => by cases h)⟩, (fun k q h => by cases h), ⟨(fun i j q z h => by cases h), (fun k q h => by cases h)⟩, hK, va_S.rf⟩ (aS.rf _) hlR trivial rfl rfl
