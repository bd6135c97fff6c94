/-- a field -/
def fR (ws : va_W) (kd : Int) (o : Option Value) (x : Int) (r : Option Nat) : Prop :=
  if kd = 1 then ∃ y : Int64, o = some (.long y) ∧ y.toInt = x
  else if kd = 2 then ∀ a, r = some a → ∃ (q : Nat) (e : va_E), o = some (.ref q) ∧ ws[a]? = some (q, e)
  else ∃ y : Int32, o = some (.int y) ∧ y.toInt = x
/-- a cell -/
def cR (ws : va_W) (tys : List (ClassId × FieldType)) (kl : Nat × Int) (g : Nat → Int) (rf : Nat → Option Nat) (e : va_E) : Prop := match e with
  | .inr (ci, fs) => ci = kl.1 ∧ ci < 13 ∧ fs.length = pfN ci ∧ ∀ k, k < pfN ci → fR ws (pfk ci k) fs[k]? (g k) (rf k)
  | .inl (cA, n, x) => (n : Int) = kl.2 ∧ n ≤ 100000 ∧ match x with
    | .inl f => ((kl.1 = 100 ∧ ∃ t : Nat, tys[t]? = some (cA, FieldType.int)) ∨ (kl.1 = 102 ∧ ∃ t : Nat, tys[t]? = some (cA, FieldType.byte))) ∧ ∀ j, j < n → (f j).toInt = g j
    | .inr (.inl f) => kl.1 = 101 ∧ (∃ t : Nat, tys[t]? = some (cA, FieldType.long)) ∧ ∀ j, j < n → (f j).toInt = g j
    | .inr (.inr (.inr (.inr f))) => kl.1 = 103 ∧ (∃ t : Nat, tys[t]? = some (cA, FieldType.array FieldType.int)) ∧ ∀ j, j < n → ∀ a, rf j = some a → ∃ (q : Nat) (e : va_E), f j = some q ∧ ws[a]? = some (q, e)
    | _ => False
/-- tables of array classes grow -/
def tS (tys tys' : List (ClassId × FieldType)) : Prop := ∀ (t : Nat) (q : ClassId × FieldType), tys[t]? = some q → tys'[t]? = some q
theorem tS.rf (tys : List (ClassId × FieldType)) : tS tys tys := fun _ _ h => h
theorem tS.app (tys t2 : List (ClassId × FieldType)) : tS tys (tys ++ t2) := fun t q h => by rw [List.getElem?_append_left (List.getElem?_eq_some_iff.mp h).1]; exact h
theorem fR.mv {ws ws' : va_W} {kd x : Int} {o : Option Value} {r : Option Nat} (hs : aS ws ws') (h : fR ws kd o x r) : fR ws' kd o x r := by
  unfold fR at h ⊢
  split
  · rw [if_pos (by assumption)] at h; exact h
  · rw [if_neg (by assumption)] at h
    split
    · rw [if_pos (by assumption)] at h
      intro a ha
      obtain ⟨q, e, h1, h2⟩ := h a ha
      obtain ⟨e', h3⟩ := hs a q e h2
      exact ⟨q, e', h1, h3⟩
    · rw [if_neg (by assumption)] at h; exact h
theorem cR.mv {ws ws' : va_W} {tys tys' : List (ClassId × FieldType)} {kl : Nat × Int} {g : Nat → Int} {rf : Nat → Option Nat} {e : va_E} (hs : aS ws ws') (ht : tS tys tys') (h : cR ws tys kl g rf e) : cR ws' tys' kl g rf e := by
  rcases e with ⟨cA, n, f | f | f | f | f⟩ | ⟨ci, fs⟩
  · obtain ⟨h1, h2, h3, h4⟩ := h
    refine ⟨h1, h2, ?_, h4⟩
    rcases h3 with ⟨a, t, b⟩ | ⟨a, t, b⟩
    · exact Or.inl ⟨a, t, ht t _ b⟩
    · exact Or.inr ⟨a, t, ht t _ b⟩
  · obtain ⟨h1, h2, h3, ⟨t, h4⟩, h5⟩ := h
    exact ⟨h1, h2, h3, ⟨t, ht t _ h4⟩, h5⟩
  · exact h.2.2.elim
  · exact h.2.2.elim
  · obtain ⟨h1, h2, h3, ⟨t, h4⟩, h5⟩ := h
    refine ⟨h1, h2, h3, ⟨t, ht t _ h4⟩, fun j hj a ha => ?_⟩
    obtain ⟨q, e, h6, h7⟩ := h5 j hj a ha
    obtain ⟨e', h8⟩ := hs a q e h7
    exact ⟨q, e', h6, h8⟩
  · obtain ⟨h1, h2, h3, h4⟩ := h
    exact ⟨h1, h2, h3, fun k hk => (h4 k hk).mv hs⟩
/-- a world -/
def wR (tys : List (ClassId × FieldType)) (Y : pY) (G : pG) (ws : va_W) : Prop := ws.length = Y.1.1 ∧ Y.1.1 ≤ 498 ∧ (∀ i, Y.1.1 ≤ i → (Y.2.1 i).1 = 999) ∧ ∀ (i : Nat) (q : Nat × va_E), ws[i]? = some q → cR ws tys (Y.2.1 i) (G i) (Y.2.2 i) q.2
theorem wR.cell {tys : List (ClassId × FieldType)} {Y : pY} {G : pG} {ws : va_W} {sx : Nat → Option Nat} {r q : Nat} (h : wR tys Y G ws) (hv : (∃ e, ws[r]? = some (q, e)) ∨ (499 ≤ r ∧ sx r = some q)) (hk : (Y.2.1 r).1 ≠ 999) : ∃ e, ws[r]? = some (q, e) ∧ cR ws tys (Y.2.1 r) (G r) (Y.2.2 r) e := by
  rcases hv with ⟨e, he⟩ | ⟨h1, -⟩
  · exact ⟨e, he, h.2.2.2 r (q, e) he⟩
  · exact absurd (h.2.2.1 r (by have := h.2.1; omega)) hk
theorem wR.put {tys : List (ClassId × FieldType)} {Y : pY} {G G' : pG} {ws : va_W} {i a : Nat} {e e' : va_E} (h : wR tys Y G ws) (hi : ws[i]? = some (a, e)) (hG : ∀ j, j ≠ i → G' j = G j) (he : cR ws tys (Y.2.1 i) (G' i) (Y.2.2 i) e') : wR tys Y G' (ws.set i (a, e')) := by
  obtain ⟨h1, h2, h3, h4⟩ := h
  have hl := (List.getElem?_eq_some_iff.mp hi).1
  have hs : aS ws (ws.set i (a, e')) := aS.set hi
  refine ⟨by rw [List.length_set]; exact h1, h2, h3, fun j q hq => ?_⟩
  by_cases hj : j = i
  · subst hj
    rw [List.getElem?_set_self hl] at hq
    cases hq
    exact he.mv hs (tS.rf _)
  · rw [List.getElem?_set_ne (Ne.symm hj)] at hq
    rw [hG j hj]
    exact (h4 j q hq).mv hs (tS.rf _)
theorem cR_o {ws : va_W} {tys : List (ClassId × FieldType)} {kl : Nat × Int} {g : Nat → Int} {rf : Nat → Option Nat} {e : va_E} (h : cR ws tys kl g rf e) (hk : kl.1 < 13) : ∃ fs, e = .inr (kl.1, fs) ∧ fs.length = pfN kl.1 ∧ ∀ k, k < pfN kl.1 → fR ws (pfk kl.1 k) fs[k]? (g k) (rf k) := by
  rcases e with ⟨cA, n, f | f | f | f | f⟩ | ⟨ci, fs⟩
  · obtain ⟨-, -, h3, -⟩ := h; rcases h3 with ⟨a, -⟩ | ⟨a, -⟩ <;> omega
  · obtain ⟨-, -, h3, -⟩ := h; omega
  · exact h.2.2.elim
  · exact h.2.2.elim
  · obtain ⟨-, -, h3, -⟩ := h; omega
  · obtain ⟨rfl, h2, h3, h4⟩ := h
    exact ⟨fs, rfl, h3, h4⟩
theorem cR_i {ws : va_W} {tys : List (ClassId × FieldType)} {kl : Nat × Int} {g : Nat → Int} {rf : Nat → Option Nat} {e : va_E} (h : cR ws tys kl g rf e) (hk : kl.1 = 100) : ∃ (cA : ClassId) (n : Nat) (f : _) (t : Nat), e = .inl (cA, n, .inl f) ∧ (n : Int) = kl.2 ∧ n ≤ 100000 ∧ tys[t]? = some (cA, FieldType.int) ∧ ∀ j, j < n → (f j).toInt = g j := by
  rcases e with ⟨cA, n, f | f | f | f | f⟩ | ⟨ci, fs⟩
  · obtain ⟨h1, h2, h3, h4⟩ := h
    rcases h3 with ⟨a, t, ht⟩ | ⟨a, -⟩
    · exact ⟨cA, n, f, t, rfl, h1, h2, ht, h4⟩
    · omega
  · obtain ⟨-, -, h3, -⟩ := h; omega
  · exact h.2.2.elim
  · exact h.2.2.elim
  · obtain ⟨-, -, h3, -⟩ := h; omega
  · obtain ⟨h1, h2, -⟩ := h; omega
theorem cR_b {ws : va_W} {tys : List (ClassId × FieldType)} {kl : Nat × Int} {g : Nat → Int} {rf : Nat → Option Nat} {e : va_E} (h : cR ws tys kl g rf e) (hk : kl.1 = 102) : ∃ (cA : ClassId) (n : Nat) (f : _) (t : Nat), e = .inl (cA, n, .inl f) ∧ (n : Int) = kl.2 ∧ n ≤ 100000 ∧ tys[t]? = some (cA, FieldType.byte) ∧ ∀ j, j < n → (f j).toInt = g j := by
  rcases e with ⟨cA, n, f | f | f | f | f⟩ | ⟨ci, fs⟩
  · obtain ⟨h1, h2, h3, h4⟩ := h
    rcases h3 with ⟨a, -⟩ | ⟨a, t, ht⟩
    · omega
    · exact ⟨cA, n, f, t, rfl, h1, h2, ht, h4⟩
  · obtain ⟨-, -, h3, -⟩ := h; omega
  · exact h.2.2.elim
  · exact h.2.2.elim
  · obtain ⟨-, -, h3, -⟩ := h; omega
  · obtain ⟨h1, h2, -⟩ := h; omega
theorem cR_l {ws : va_W} {tys : List (ClassId × FieldType)} {kl : Nat × Int} {g : Nat → Int} {rf : Nat → Option Nat} {e : va_E} (h : cR ws tys kl g rf e) (hk : kl.1 = 101) : ∃ (cA : ClassId) (n : Nat) (f : _) (t : Nat), e = .inl (cA, n, .inr (.inl f)) ∧ (n : Int) = kl.2 ∧ n ≤ 100000 ∧ tys[t]? = some (cA, FieldType.long) ∧ ∀ j, j < n → (f j).toInt = g j := by
  rcases e with ⟨cA, n, f | f | f | f | f⟩ | ⟨ci, fs⟩
  · obtain ⟨-, -, h3, -⟩ := h; rcases h3 with ⟨a, -⟩ | ⟨a, -⟩ <;> omega
  · obtain ⟨h1, h2, h3, ⟨t, ht⟩, h4⟩ := h
    exact ⟨cA, n, f, t, rfl, h1, h2, ht, h4⟩
  · exact h.2.2.elim
  · exact h.2.2.elim
  · obtain ⟨-, -, h3, -⟩ := h; omega
  · obtain ⟨h1, h2, -⟩ := h; omega
theorem cR_q {ws : va_W} {tys : List (ClassId × FieldType)} {kl : Nat × Int} {g : Nat → Int} {rf : Nat → Option Nat} {e : va_E} (h : cR ws tys kl g rf e) (hk : kl.1 = 103) : ∃ (cA : ClassId) (n : Nat) (f : _) (t : Nat), e = .inl (cA, n, .inr (.inr (.inr (.inr f)))) ∧ (n : Int) = kl.2 ∧ n ≤ 100000 ∧ tys[t]? = some (cA, FieldType.array FieldType.int) ∧ ∀ j, j < n → ∀ a, rf j = some a → ∃ (q : Nat) (e : va_E), f j = some q ∧ ws[a]? = some (q, e) := by
  rcases e with ⟨cA, n, f | f | f | f | f⟩ | ⟨ci, fs⟩
  · obtain ⟨-, -, h3, -⟩ := h; rcases h3 with ⟨a, -⟩ | ⟨a, -⟩ <;> omega
  · obtain ⟨-, -, h3, -⟩ := h; omega
  · exact h.2.2.elim
  · exact h.2.2.elim
  · obtain ⟨h1, h2, h3, ⟨t, ht⟩, h4⟩ := h
    exact ⟨cA, n, f, t, rfl, h1, h2, ht, h4⟩
  · obtain ⟨h1, h2, -⟩ := h; omega
/-- an index within a row -/
theorem i32_in {i : Int32} {n : Nat} (h1 : 0 ≤ i.toInt) (h2 : i.toInt < (n : Int)) : vp_in i n := vp_in_iff.mpr ⟨h1, h2⟩
theorem i32_cl {i : Int32} : i.toNatClampNeg = i.toInt.toNat := rfl
/-- a world at a point of a method's run -/
def pWl (D : va_G) (A : Nat → Prop) (s : State) (tys : List (ClassId × FieldType)) (Y : pY) (G : pG) (ws : va_W) (H : Heap) (locs : List Loc) : Prop := wR tys Y G ws ∧ va_P D pcl ws H ∧ va_D A ws ∧ va_K D pcl tys s ∧ va_S A s.heap H locs
/-- strings -/
def pstx : List String := ["tool", "step", "after", "meet", "idle"]
def pstL : List Nat := [4, 4, 5, 4, 4]
def pstB : List (List Int32) := [[116, 111, 111, 108], [115, 116, 101, 112], [97, 102, 116, 101, 114], [109, 101, 101, 116], [105, 100, 108, 101]]
/-- the two fixed statics that the strings' methods read -/
def pZs (A : Nat → Prop) (U : State) : Prop := va_Z "java/lang/String" "COMPACT_STRINGS" "Z" (.int 1) A U U.heap ∧ ∃ w : Value, w.isRef = true ∧ va_Z "jdk/internal/util/Preconditions" "SIOOBE_FORMATTER" "Ljava/util/function/BiFunction;" w A U U.heap
def pStr (sx : Nat → Option Nat) (A : Nat → Prop) (U : State) : Prop := (∀ q ∈ lkS, ∃ a, sx (500 + q.2.2) = some a ∧ vk_R (pown q.1) q.2.1 (pstx.getD q.2.2 "") a U) ∧ (∀ i, 505 ≤ i → sx i = none) ∧ ∃ adV, vk_S 5 pstL pstB (fun i => (sx (500 + i)).getD 0) adV A U U.heap ∧ pZs A U
/-- what holds all through a method's run: the machine, its code, the words, the room for d calls more -/
def pCx (p : Program) (R : Room) (s : State) (m : MethodId) (args : Array Value) (c : Code) (sx : Nat → Option Nat) (A : Nat → Prop) (K nL d : Nat) (cc : ByteArray) : Prop :=
  p.tables.exec = Jvm.exec ∧ c.code = cc ∧ c.maxLocals = nL ∧ s.vm.findClass (pown K) = some m.cls ∧ (∀ w ∈ lw_use, w.before args s = true) ∧ (∀ q ∈ lkN, va_Nw (.methodLinkNest (pown q.1) q.2.1 (pyn q.2.2) "DiscLathe") s) ∧ (Cond.arrayOver (.array .int)).before #[] s = true ∧ pStr sx A s ∧ (∀ q, s.heap.size ≤ q → A q) ∧ d + 8 ≤ R.frames ∧ 200 * (d + 2) ≤ R.locals
/-- new int[n][k], as a row -/
def pMNA : Prop := ∀ (p : Program) (l : Launch) (e : Env) (R : Room) (s : State) (m : MethodId) (args : Array Value) (below : List Frame) (meth : Method) (c : Code) (H : Heap) (locs : List Loc) (cells slots : Nat) (Q : State → Prop) (cc : ByteArray) (pc : Nat) (ls : Array Slot) (rest : List Value) (D : va_G) (A : Nat → Prop) (tys : List (ClassId × FieldType)) (ws : va_W) (own : String) (index : Nat) (n k : Int32),
  p.tables.exec = Jvm.exec → c.code = cc → s.vm.findClass own = some m.cls → (Cond.classLink own index "[[I").before args s = true → (Cond.arrayOver (.array .int)).before #[] s = true → (Cond.arrayClass .int).before args s = true → va_K D pcl tys s → va_P D pcl ws H → va_D A ws → va_S A s.heap H locs → (∀ q, s.heap.size ≤ q → A q) → 0 ≤ n.toInt → 0 ≤ k.toInt → n.toInt ≤ 100000 → k.toInt ≤ 100000 → cells + 1 + n.toInt.toNat ≤ R.cells → slots + n.toInt.toNat + n.toInt.toNat * k.toInt.toNat ≤ R.slots → decode cc pc = .ok (.multianewarray index 2, 4) →
  (∀ (q : Nat) (r : Nat → Nat) (cA cy : ClassId) (H1 : Heap), va_K D pcl (tys ++ [(cA, .array .int), (cy, .int)]) s → va_P D pcl (ws ++ ((q, .inl (cA, n.toInt.toNat, .inr (.inr (.inr (.inr (fun i => if i < n.toInt.toNat then some (r i) else none)))))) :: (List.range n.toInt.toNat).map (fun i => (r i, .inl (cy, k.toInt.toNat, .inl (fun _ => 0)))))) H1 → va_D A (ws ++ ((q, .inl (cA, n.toInt.toNat, .inr (.inr (.inr (.inr (fun i => if i < n.toInt.toNat then some (r i) else none)))))) :: (List.range n.toInt.toNat).map (fun i => (r i, .inl (cy, k.toInt.toNat, .inl (fun _ => 0)))))) → va_S A s.heap H1 locs → W p l e R s m args below meth c H1 locs (cells + 1 + n.toInt.toNat) (slots + n.toInt.toNat + n.toInt.toNat * k.toInt.toNat) Q (F0 m (pc + 4) ls (.ref q :: rest))) →
  W p l e R s m args below meth c H locs cells slots Q (F0 m pc ls (.int k :: .int n :: rest))
/-- String.length and charAt of a constant, as rows -/
def pSLN : Prop := ∀ (p : Program) (l : Launch) (e : Env) (R : Room) (s : State) (m : MethodId) (args : Array Value) (below : List Frame) (meth : Method) (c : Code) (H : Heap) (locs : List Loc) (cells slots : Nat) (Q : State → Prop) (cc : ByteArray) (pc : Nat) (ls : Array Slot) (rest : List Value) (sx : Nat → Option Nat) (A : Nat → Prop) (K nL d index i a : Nat), pCx p R s m args c sx A K nL d cc → ls.size = nL → va_S A s.heap H locs → Cond.methodLink (pown K) index yJ0_length_8abf5 ∈ lw_use → i < 5 → sx (500 + i) = some a → (rest.map fun v => v.category).sum ≤ 8 → cells ≤ R.cells → slots ≤ R.slots → decode cc pc = .ok (.invokevirtual index, 3) → W p l e R s m args below meth c H locs cells slots Q (F0 m (pc + 3) ls (.int (Int32.ofNat (pstL.getD i 0)) :: rest)) → W p l e R s m args below meth c H locs cells slots Q (F0 m pc ls (.ref a :: rest))
def pSCH : Prop := ∀ (p : Program) (l : Launch) (e : Env) (R : Room) (s : State) (m : MethodId) (args : Array Value) (below : List Frame) (meth : Method) (c : Code) (H : Heap) (locs : List Loc) (cells slots : Nat) (Q : State → Prop) (cc : ByteArray) (pc : Nat) (ls : Array Slot) (rest : List Value) (sx : Nat → Option Nat) (A : Nat → Prop) (K nL d index i a : Nat) (j : Int32), pCx p R s m args c sx A K nL d cc → ls.size = nL → va_S A s.heap H locs → Cond.methodLink (pown K) index yJ0_charAt_5068e ∈ lw_use → i < 5 → sx (500 + i) = some a → 0 ≤ j.toInt → j.toInt.toNat < pstL.getD i 0 → (rest.map fun v => v.category).sum ≤ 8 → cells ≤ R.cells → slots ≤ R.slots → decode cc pc = .ok (.invokevirtual index, 3) → W p l e R s m args below meth c H locs cells slots Q (F0 m (pc + 3) ls (.int ((pstB.getD i []).getD j.toInt.toNat 0) :: rest)) → W p l e R s m args below meth c H locs cells slots Q (F0 m pc ls (.int j :: .ref a :: rest))
def pLDC : Prop := ∀ (p : Program) (l : Launch) (e : Env) (R : Room) (s : State) (m : MethodId) (args : Array Value) (below : List Frame) (meth : Method) (c : Code) (H : Heap) (locs : List Loc) (cells slots : Nat) (Q : State → Prop) (cc : ByteArray) (pc : Nat) (ls : Array Slot) (rest : List Value) (own tx : String) (index a : Nat), p.tables.exec = Jvm.exec → c.code = cc → s.vm.findClass own = some m.cls → vk_R own index tx a s → decode cc pc = .ok (.ldc index, 2) → W p l e R s m args below meth c H locs cells slots Q (F0 m (pc + 2) ls (.ref a :: rest)) → W p l e R s m args below meth c H locs cells slots Q (F0 m pc ls rest)
def pRows : Prop := pMNA ∧ pSLN ∧ pSCH ∧ pLDC

