/-- new int[n][k] over the machine itself: the rows are laid one by one, and the outer row points at those that are laid -/
def mg_O (cA : ClassId) (N h i : Nat) : Cell := arrV cA N (fun j => va_rf (if j < i then some (h + 1 + j) else none))
def mg_I (cy : ClassId) (M : Nat) : Cell := arrV cy M (fun _ => .int 0)
def mg_S (S : State) (cA cy : ClassId) (N M : Nat) : Nat → State
  | 0 => S.pushCell (mg_O cA N S.heap.size 0)
  | i + 1 => ((mg_S S cA cy N M i).pushCell (mg_I cy M)).setCell S.heap.size (mg_O cA N S.heap.size (i + 1))
theorem mg_Oz (cA : ClassId) (N h i : Nat) : (mg_O cA N h i).slots.size = N := arrV_size _ _ _
theorem mg_Iz (cy : ClassId) (M : Nat) : (mg_I cy M).slots.size = M := arrV_size _ _ _
theorem mg_O0 (cA : ClassId) (N h : Nat) : mg_O cA N h 0 = arrV cA N (fun _ => .null) := by
  unfold mg_O
  exact congrArg (arrV cA N) (funext fun j => by rw [if_neg (Nat.not_lt_zero j)]; rfl)
theorem mg_Os (cA : ClassId) (N h i : Nat) : (mg_O cA N h i).setSlot i (.ref (h + 1 + i)) = mg_O cA N h (i + 1) := by
  unfold mg_O
  rw [arrV_store]
  refine congrArg (arrV cA N) (funext fun j => ?_)
  unfold updV
  by_cases a : j = i
  · rw [if_pos a, if_pos (by omega), a]
    rfl
  · rw [if_neg a]
    show va_rf (if j < i then some (h + 1 + j) else none) = _
    by_cases b : j < i
    · rw [if_pos b, if_pos (by omega)]
    · rw [if_neg b, if_neg (by omega)]
/-- what stands once i rows are laid -/
def mg_F (S U : State) (cA cy : ClassId) (N M i : Nat) : Prop :=
  U.heap.size = S.heap.size + 1 + i ∧ U.vm = S.vm ∧ U.slotsUsed = S.slotsUsed + N + i * M ∧ U.heap[S.heap.size]? = some (mg_O cA N S.heap.size i) ∧ (∀ a, a < S.heap.size → U.heap[a]? = S.heap[a]?) ∧ ∀ j, j < i → U.heap[S.heap.size + 1 + j]? = some (mg_I cy M)
theorem mg_F.next {S U : State} {cA cy : ClassId} {N M i : Nat} (h : mg_F S U cA cy N M i) : mg_F S ((U.pushCell (mg_I cy M)).setCell S.heap.size (mg_O cA N S.heap.size (i + 1))) cA cy N M (i + 1) := by
  obtain ⟨z, v, w, o, u, r⟩ := h
  have up : ∀ a, a < U.heap.size → (U.pushCell (mg_I cy M)).heap[a]? = U.heap[a]? := fun a ha => State.heap_pushCell_of_lt _ _ ha
  refine ⟨?_, v, ?_, State.heap_setCell_self (by rw [up _ (by omega)]; exact o), fun a ha => ?_, fun j hj => ?_⟩
  · rw [State.heap_setCell, State.heap_pushCell, Array.size_setIfInBounds, Array.size_push]; omega
  · rw [State.slotsUsed_setCell, State.slotsUsed_pushCell, mg_Iz, Nat.succ_mul]; omega
  · rw [State.heap_setCell_other (show S.heap.size ≠ a by omega), up a (by omega)]; exact u a ha
  · rw [State.heap_setCell_other (show S.heap.size ≠ S.heap.size + 1 + j by omega)]
    by_cases b : j = i
    · have e : S.heap.size + 1 + j = U.heap.size := by omega
      rw [e]
      exact State.heap_pushCell_size _ _
    · rw [up _ (by omega)]
      exact r j (by omega)
theorem mg_SF (S : State) (cA cy : ClassId) (N M : Nat) : ∀ i, mg_F S (mg_S S cA cy N M i) cA cy N M i
  | 0 => ⟨by show (S.pushCell _).heap.size = _; rw [State.heap_pushCell, Array.size_push], rfl, by show (S.pushCell _).slotsUsed = _; rw [State.slotsUsed_pushCell, mg_Oz]; omega, State.heap_pushCell_size _ _, fun a ha => State.heap_pushCell_of_lt _ _ ha, fun j hj => absurd hj (Nat.not_lt_zero j)⟩
  | i + 1 => (mg_SF S cA cy N M i).next
theorem mg_top (S : State) (g : JFrame) (cA cy : ClassId) (N M : Nat) : ∀ i, mg_S (S.setTop g) cA cy N M i = (mg_S S cA cy N M i).setTop g
  | 0 => rfl
  | i + 1 => by
    show ((mg_S (S.setTop g) cA cy N M i).pushCell _).setCell _ _ = _
    rw [mg_top S g cA cy N M i]
    rfl
/-- each row laid: the walk stands, no old cell is touched -/
theorem mg_stand {p : Program} {l : Launch} {e : Env} {R : Room} {s : State} {m : MethodId} {args : Array Value} {below : List Frame} {meth : Method} {c : Code} {T : State} {locs : List Loc} {cells slots : Nat} (X : Stand p l e R s m args below meth c T locs cells slots) (cA cy : ClassId) (N M : Nat) : ∀ i, Stand p l e R s m args below meth c (mg_S T cA cy N M i) locs (cells + 1 + i) (slots + N + i * M)
  | 0 => by
    have h := X.pushed (mg_O cA N T.heap.size 0)
    rw [mg_Oz] at h
    rw [Nat.zero_mul]
    exact h
  | i + 1 => by
    obtain ⟨z, -, -, o, -, -⟩ := mg_SF T cA cy N M i
    have q : T.heap.size < (mg_S T cA cy N M i).heap.size := by omega
    have h := ((mg_stand X cA cy N M i).pushed (mg_I cy M)).stored (a := T.heap.size) (cell := mg_O cA N T.heap.size i) (by rw [State.heap_pushCell_of_lt _ _ q]; exact o) i (.ref (T.heap.size + 1 + i))
    rw [mg_Os, mg_Iz] at h
    have h' := h.dropFresh (fun x hx => by rw [List.mem_singleton.mp hx]; exact X.heapGrown)
    rw [show slots + N + (i + 1) * M = slots + N + i * M + M by rw [Nat.succ_mul]; omega]
    exact h'
theorem mg_bytes (ty : FieldType) : componentBytes ty ≤ 8 := by
  cases ty <;> simp [componentBytes]
/-- one row more: an array of a class that is there, filled with what its kind begins with -/
theorem mg_new {E : CtlPost} {e : Env} {d : Bool} {acts : List Action} {s : State} {cA cy : ClassId} {k : Class} {ty : FieldType} {n : Nat} {v : Value} (hk : s.vm.classes[cA]? = some k) (hy : k.kind = .array cy ty) (hf : fits ty v = true) (hz : v.isDefault = true) (hn : n ≤ 100000) (q1 : e.platform.arrayLengthLimit = 2147483645) (q2 : e.platform.maxHeapBytes = 536870912) (r1 : s.heap.size < e.platform.maxCells) (r2 : s.slotsUsed + n ≤ e.platform.maxSlots) {Q : Addr → Pre} (hq : Q s.heap.size d acts (s.pushCell (arrV cA n (fun _ => v)))) : wp (Jvm.newArray cA n v) Q E e d acts s := by
  have g1 : ¬ n > e.platform.arrayLengthLimit := by rw [q1]; omega
  have g2 : ¬ n * componentBytes ty > e.platform.maxHeapBytes := by
    have := Nat.mul_le_mul hn (mg_bytes ty)
    rw [q2]; omega
  have g3 : ¬ n > e.platform.maxSlots := by omega
  have fit : ∀ i w, (Array.replicate n v)[i]? = some w → s.fitsSlot cA .none i w = true := fun i w hw => by
    have : w = v := by
      rw [Array.getElem?_replicate] at hw
      by_cases b : i < n
      · rw [if_pos b] at hw; exact (Option.some.inj hw).symm
      · rw [if_neg b] at hw; cases hw
    subst this
    simp [State.fitsSlot, State.slotType?, hk, hy, hf]
  have act : allocActs (Array.replicate n v) s.heap.size acts = acts := by
    unfold allocActs
    refine if_pos ?_
    rw [Array.all_replicate]
    split <;> simp [hz]
  rw [← arrV_new] at hq
  simp only [Jvm.newArray, Jvm.arrayFits, wp_bind', W.ask, W.ite, wp_pure', W.theClass, hk, hy, Option.some.injEq, exists_eq_left', W.alloc, W.stop, Array.size_replicate, act, if_neg g1, if_neg g2, if_neg g3]
  exact ⟨r1, r2, fit, hq⟩
/-- all rows, one behind the other -/
theorem mg_make {E : CtlPost} {e : Env} {d : Bool} {acts : List Action} {S : State} {cA cy ci : ClassId} {kA kC : Class} {n k : Int32} (hkA : S.vm.classes[cA]? = some kA) (hyA : kA.kind = .array cy (.array .int)) (hkC : S.vm.classes[cy]? = some kC) (hyC : kC.kind = .array ci .int) (hn : ¬ n < 0) (hk : ¬ k < 0) (bn : n.toNatClampNeg ≤ 100000) (bk : k.toNatClampNeg ≤ 100000) (q1 : e.platform.arrayLengthLimit = 2147483645) (q2 : e.platform.maxHeapBytes = 536870912) (r1 : S.heap.size + 1 + n.toNatClampNeg ≤ e.platform.maxCells) (r2 : S.slotsUsed + n.toNatClampNeg + n.toNatClampNeg * k.toNatClampNeg ≤ e.platform.maxSlots) {Q : Addr → Pre} (hq : ∀ d acts, Q S.heap.size d acts (mg_S S cA cy n.toNatClampNeg k.toNatClampNeg n.toNatClampNeg)) : wp (multianewarray.make cA [n, k]) Q E e d acts S := by
  have none_bad : ([k].find? (· < 0)) = none := by simp [hk]
  rw [multianewarray.make]
  simp only [wp_bind', W.ite, if_neg hn, wp_pure', W.theClass, hkA, hyA, Option.some.injEq, exists_eq_left']
  generalize hN : n.toNatClampNeg = N at *
  generalize hM : k.toNatClampNeg = M at *
  refine mg_new hkA hyA rfl rfl bn q1 q2 (by omega) (by have := Nat.zero_le (N * M); omega) ?_
  simp only [none_bad]
  rw [ite_self, wp_bind', Std.Legacy.Range.forIn_eq_forIn_range', show ([:N] : Std.Legacy.Range).size = N by simp [Std.Legacy.Range.size]]
  refine wp_forIn_inv (fun todo U => ∃ i, i + todo.length = N ∧ todo = List.range' i todo.length ∧ U = mg_S S cA cy N M i) _ _ ⟨0, by simp, by simp, by rw [← mg_O0 cA N S.heap.size]; rfl⟩ ?_ ?_
  · rintro x todo U d' acts' Q' ⟨i, hi, ht, rfl⟩ go
    rw [List.length_cons, List.range'_succ] at ht
    obtain ⟨rfl, ht⟩ := List.cons.inj ht
    rw [List.length_cons] at hi
    obtain ⟨z, v, w, o, -, -⟩ := mg_SF S cA cy N M x
    have room : x * M + M ≤ N * M := by
      have := Nat.mul_le_mul_right M (show x + 1 ≤ N by omega)
      rwa [Nat.succ_mul] at this
    simp only [wp_bind']
    rw [multianewarray.make]
    simp only [wp_bind', W.ite, if_neg hk, wp_pure', W.theClass, v, hkC, hyC, Option.some.injEq, exists_eq_left', hM]
    refine mg_new (by rw [v]; exact hkC) hyC rfl rfl bk q1 q2 (by omega) (by omega) ?_
    have q : S.heap.size < (mg_S S cA cy N M x).heap.size := by omega
    simp only [wp_bind', W.writeLoc, wp_pure']
    refine ⟨mg_O cA N S.heap.size x, by rw [State.heap_pushCell_of_lt _ _ q]; exact o, fun q => (by cases q), by rw [mg_Oz]; omega, ?_, go _ _ _ ⟨x + 1, by omega, ht, ?_⟩⟩
    · simp [State.fitsSlot, State.slotType?, mg_O, arrV, v, hkA, hyA, fits]
    · rw [z, mg_Os]; rfl
  · rintro U d' acts' ⟨i, hi, -, rfl⟩
    have e : i = N := by simpa using hi
    subst e
    simp only [wp_pure']
    exact hq _ _
/-- the array classes that the words tell of -/
theorem mg_over {A : Array Value} {s : State} (h : (Cond.arrayOver (.array .int)).before A s = true) : ∃ cy cA kA, s.vm.findClass "[I" = some cy ∧ s.vm.classes[cA]? = some kA ∧ kA.kind = .array cy (.array .int) ∧ s.vm.findClass "[[I" = some cA := by
  simp only [Cond.before, Cond.holds, Cond.value, beq_iff_eq, Option.bind_eq_some_iff, Option.map_eq_some_iff] at h
  obtain ⟨cy, h1, cA, h2, kA, h3, h4⟩ := h
  have h5 := (Array.findIdx?_eq_some_iff_getElem.mp h2).2.1
  rw [(Array.getElem?_eq_some_iff.mp h3).2] at h5
  cases hk : kA.kind with
  | array x ty =>
    rw [hk] at h4 h5
    simp at h4 h5
    exact ⟨cy, cA, kA, h1, h3, by rw [hk, h4.1, h5], h4.2⟩
  | _ => rw [hk] at h4; simp at h4
/-- the instruction -/
theorem mg_row {p : Program} {l : Launch} {e : Env} {R : Room} {s : State} {m : MethodId} {args A : Array Value} {below : List Frame} {meth : Method} {c : Code} {T : State} {locs : List Loc} {cells slots : Nat} (X : Stand p l e R s m args below meth c T locs cells slots) (hexec : p.tables.exec = Jvm.exec) {own : String} {index pc : Nat} {ls : Array Slot} {rest : List Value} {n k : Int32} (hown : s.vm.findClass own = some m.cls) (hcl : (Cond.classLink own index "[[I").before args s = true) (hov : (Cond.arrayOver (.array .int)).before A s = true) (har : (Cond.arrayClass .int).before args s = true) (hdg : decode c.code pc = .ok (.multianewarray index 2, 4)) (hn : ¬ n < 0) (hk : ¬ k < 0) (bn : n.toNatClampNeg ≤ 100000) (bk : k.toNatClampNeg ≤ 100000) (hc : cells + (1 + n.toNatClampNeg) ≤ R.cells) (hs : slots + (n.toNatClampNeg + n.toNatClampNeg * k.toNatClampNeg) ≤ R.slots) :
    ∃ (vm₁ : Vm) (cA cy : ClassId), s.vm.findClass "[[I" = some cA ∧ s.vm.findClass "[I" = some cy ∧ ArrOfT s cA (.array .int) ∧ ArrOfT s cy .int ∧ Stand p l e R s m args below meth c (mg_S (T.setVm vm₁) cA cy n.toNatClampNeg k.toNatClampNeg n.toNatClampNeg) locs (cells + 1 + n.toNatClampNeg) (slots + n.toNatClampNeg + n.toNatClampNeg * k.toNatClampNeg) ∧
      ∀ target, Steps p.tables e below ((mg_S (T.setVm vm₁) cA cy n.toNatClampNeg k.toNatClampNeg n.toNatClampNeg).setTop (F0 m (pc + 4) ls (.ref T.heap.size :: rest))) target → Steps p.tables e below (T.setTop (F0 m pc ls (.int k :: .int n :: rest))) target := by
  have hpl : e.platform.magicAccessors = ({} : Platform).magicAccessors := by rw [X.admits.platform]
  obtain ⟨cy, cA, kA, o1, o2, o3, o4⟩ := mg_over hov
  obtain ⟨cy', kC, ci, c1, c2, c3⟩ := Cond.arrayClass_spec har
  obtain rfl : cy' = cy := Option.some.inj (c1.symm.trans o1)
  obtain ⟨c0, l1, l2⟩ := Cond.classLink_spec hown hcl e.platform hpl
  obtain rfl : c0 = cA := Option.some.inj (l1.symm.trans o4)
  obtain ⟨g1, g2, g3⟩ := State.classEntry (e := e) X.warmed l2
  generalize T.vm.noted m.cls index (.cls c0) = vm₁ at g1 g2 g3
  obtain ⟨kA₁, a1, a2⟩ := g2.alike.2.2 _ _ o2
  obtain ⟨kC₁, b1, b2⟩ := g2.alike.2.2 _ _ c2
  have X2 := mg_stand (X.noted g2) c0 cy' n.toNatClampNeg k.toNatClampNeg n.toNatClampNeg
  obtain ⟨r1, r2⟩ := X.roomAbove hc hs
  refine ⟨vm₁, c0, cy', o4, o1, fun N z => ⟨fun k h => (by cases h), kA, o2, cy', o3⟩, fun N z => ⟨fun k h => (by cases h), kC, c2, ci, c3⟩, X2, fun target hrest => ?_⟩
  jvm_step X.here [hexec, hdg]
  simp only [multianewarray.sem, wp_bind', W.resolveClassAt_links (State.method?_setTop (F0 m pc ls (.int k :: .int n :: rest)) X.here.top) g1]
  rw [W.popN, if_neg (by decide)]
  refine ⟨_, State.topJava?_setTop' (s := T.setVm vm₁) (F0 m pc ls (.int k :: .int n :: rest)) X.here.top, [.int n, .int k], rest, rfl, rfl, ?_⟩
  simp only [List.mapM_cons, List.mapM_nil, wp_bind', wp_pure']
  refine mg_make (kA := kA₁) (kC := kC₁) (ci := ci) a1 (by rw [a2]; exact o3) b1 (by rw [b2]; exact c3) hn hk bn bk (Launch.admits_arrayLengthLimit X.admits) (Launch.admits_maxHeapBytes X.admits) (by show T.heap.size + 1 + _ ≤ _; omega) (by show T.slotsUsed + _ + _ ≤ _; omega) (fun d' acts' => ?_)
  have put : ((T.setTop (F0 m pc ls (.int k :: .int n :: rest))).setVm vm₁).setTop (F0 m pc ls rest) = (T.setVm vm₁).setTop (F0 m pc ls rest) := State.setTop_setTop (T.setVm vm₁) _ _
  rw [show ({ method := m, pc := pc, locals := ls, stack := rest, locked := none } : JFrame) = F0 m pc ls rest from rfl, put, mg_top, State.heap_setTop]
  simp only [wp_bind', W.mark, W.pushRef, State.topJava?_setTop' _ X2.here.top, Option.some.injEq, exists_eq_left', State.setTop_setTop]
  intro acts
  simp [jvm, X2.here.top]
  exact hrest
theorem pMNA_ok : pMNA := by
  intro p l e R s m args below meth c H locs cells slots Q cc pc ls rest D A tys ws own index n k hexec hb hown hcl hov har hK hP hD hS hA hn hk hn1 hk1 hc hs hdg kk
  intro T hT X
  subst hT; subst hb
  have e1 : n.toNatClampNeg = n.toInt.toNat := rfl
  have e2 : k.toNatClampNeg = k.toInt.toNat := rfl
  have z1 : ¬ n < 0 := fun q => by have := Int32.lt_iff_toInt_lt.mp q; simp at this; omega
  have z2 : ¬ k < 0 := fun q => by have := Int32.lt_iff_toInt_lt.mp q; simp at this; omega
  obtain ⟨vm₁, cA, comp, hfA, hfC, hAr, hBr, X1, st⟩ := mg_row X hexec (pc := pc) (ls := ls) (rest := rest) (n := n) (k := k) hown hcl hov har hdg z1 z2 (by omega) (by omega) (by omega) (by rw [e1, e2]; omega)
  rw [e1, e2] at X1 st
  generalize n.toInt.toNat = N at *
  generalize k.toInt.toNat = M at *
  obtain ⟨f1, -, -, f2, f3, f4⟩ := mg_SF (T.setVm vm₁) cA comp N M N
  generalize mg_S (T.setVm vm₁) cA comp N M N = T1 at *
  have fo : ∀ a : Addr, a < T.heap.size → T1.heap[a]? = T.heap[a]? := f3
  have f2' : T1.heap[T.heap.size]? = some (arrV cA N (fun j => va_rf (if j < N then some (T.heap.size + 1 + j) else none))) := f2
  have fi' : ∀ j, j < N → T1.heap[T.heap.size + 1 + j]? = some (arrV comp M (fun _ => .int 0)) := f4
  have f1' : T1.heap.size = T.heap.size + 1 + N := f1
  have hold : ∀ (k : Nat) (x : Nat × va_E), ws[k]? = some x → T1.heap[x.1]? = T.heap[x.1]? := fun k x hx => fo x.1 ((hP k x hx).lt)
  generalize hnw : ((T.heap.size, .inl (cA, N, .inr (.inr (.inr (.inr (fun i => if i < N then some (T.heap.size + 1 + i) else none)))))) :: (List.range N).map (fun i => (T.heap.size + 1 + i, .inl (comp, M, .inl (fun _ => 0)))) : va_W) = nw
  have hnk : ∀ (k : Nat) (x : Nat × va_E), nw[k]? = some x → x.1 = T.heap.size + k ∧ va_at D pcl x T1.heap := by
    intro k x hx
    subst hnw
    cases k with
    | zero => simp only [List.getElem?_cons_zero, Option.some.injEq] at hx; subst hx; exact ⟨rfl, f2'⟩
    | succ j =>
      simp only [List.getElem?_cons_succ, List.getElem?_map, Option.map_eq_some_iff] at hx
      obtain ⟨i, hi, rfl⟩ := hx
      obtain ⟨hl, hi⟩ := List.getElem?_eq_some_iff.mp hi
      rw [List.getElem_range] at hi
      subst hi
      exact ⟨by show T.heap.size + 1 + j = T.heap.size + (j + 1); omega, fi' j (by simpa using hl)⟩
  have key : ∀ (k : Nat) (x : Nat × va_E), (ws ++ nw)[k]? = some x → (ws[k]? = some x ∧ x.1 < T.heap.size) ∨ (ws.length ≤ k ∧ x.1 = T.heap.size + (k - ws.length)) := by
    intro k x hx
    by_cases hl : k < ws.length
    · rw [List.getElem?_append_left hl] at hx
      exact Or.inl ⟨hx, (hP k x hx).lt⟩
    · rw [List.getElem?_append_right (by omega)] at hx
      exact Or.inr ⟨by omega, (hnk _ _ hx).1⟩
  have hK1 : va_K D pcl (tys ++ [(cA, .array .int), (comp, .int)]) s := by
    refine ⟨hK.1, fun k x hx => ?_⟩
    by_cases hl : k < tys.length
    · rw [List.getElem?_append_left hl] at hx
      exact hK.2 k x hx
    · rw [List.getElem?_append_right (by omega)] at hx
      generalize k - tys.length = j at hx
      match j, hx with
      | 0, hx => cases hx; exact ⟨hAr, hfA⟩
      | 1, hx => cases hx; exact ⟨hBr, hfC⟩
  obtain ⟨t, a1, b1⟩ := kk T.heap.size (fun i => T.heap.size + 1 + i) cA comp T1.heap hK1 (by rw [hnw]; exact (hP.kept hold).app (fun k x hx => (hnk k x hx).2)) (by
      rw [hnw]
      refine ⟨fun i j x y hi hj hxy => ?_, fun k x hx => ?_⟩
      · rcases key i x hi with ⟨a1, a2⟩ | ⟨a1, a2⟩ <;> rcases key j y hj with ⟨c1, c2⟩ | ⟨c1, c2⟩
        · exact hD.1 i j x y a1 c1 hxy
        · omega
        · omega
        · omega
      · rcases key k x hx with ⟨a1, a2⟩ | ⟨a1, a2⟩
        · exact hD.2 k x a1
        · exact hA _ (by have := hS.1; omega)) ⟨by have := hS.1; omega, fun x h1 h2 => (fo x (Nat.lt_of_lt_of_le h1 hS.1)).trans (hS.2.1 x h1 h2), hS.2.2⟩ T1 rfl X1
  exact ⟨t, st t a1, b1⟩
