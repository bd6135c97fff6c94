theorem pn_map {α β : Type} (f : α → β) : ∀ (l : List α) (i : Nat), pn (l.map f) i = (pn l i).map f
  | [], _ => rfl
  | _ :: _, 0 => rfl
  | _ :: l, i + 1 => pn_map f l i
theorem pn2_map {α β : Type} (f : α → β) (t : List (List α)) (i : Nat) : pn2 (t.map (fun r => r.map f)) i = (pn2 t i).map f := by
  unfold pn2
  rw [pn_map]
  cases pn t (i / 16) with
  | none => rfl
  | some l => exact pn_map f l (i % 16)
theorem pyn_at {M : Nat} {w : pMW} (h : pmw M = some w) : (pyn M).cls = pown w.1 ∧ (parseMethodDescriptor (pyn M).desc).map (fun d => d.parameters.length) = some (bif w.2.2.2.2 then w.2.2.2.1 else w.2.2.2.1 - 1) := by
  have h1 := pmw_at h
  have e1 : pn2 (pynT.map (fun r => r.map (fun y => y.cls))) (M - 1) = pn2 (pmwT.map (fun r => r.map (fun w => pown w.1))) (M - 1) := by rw [pyn_cls]
  have e2 : pn2 (pynT.map (fun r => r.map (fun y => (parseMethodDescriptor y.desc).map (fun d => d.parameters.length)))) (M - 1) = pn2 (pmwT.map (fun r => r.map (fun w => some (bif w.2.2.2.2 then w.2.2.2.1 else w.2.2.2.1 - 1)))) (M - 1) := by rw [pdesc]
  rw [pn2_map, pn2_map, h1] at e1 e2
  unfold pyn
  cases hy : pn2 pynT (M - 1) with
  | none => rw [hy] at e1; cases e1
  | some y =>
    rw [hy] at e1 e2
    exact ⟨Option.some.inj e1, Option.some.inj e2⟩
theorem pKo_at {M : Nat} {w : pMW} (h : pmw M = some w) : pKo M = w.1 := by
  unfold pKo; rw [pmw_at h]
theorem pini_nm : ∀ M, pini M = true → (pyn M).name = "<init>" := by
  intro M h
  exact (show ∀ M ∈ [1, 10, 18, 31, 37, 42, 56, 68, 82, 97, 107, 117, 185], (pyn M).name = "<init>" by decide +kernel) M (pmem_mem h)
/-- a method's words -/
def pws (M : Nat) : List Cond := Cond.code (pyn M) (pcd M) (pml M) (pmr M) :: lw_use
theorem code_in {M : Nat} {w : pMW} (h : pmw M = some w) : Cond.code (pyn M) (pcd M) (pml M) (pmr M) ∈ lw_use := w1_in (t := 6) lk6_eq (pmw_bd h).1 (by omega)
theorem pws_good {M : Nat} {w : pMW} (h : pmw M = some w) : GoodIn lw_use (pws M) := fun x hx => by
  rcases List.mem_cons.mp hx with e | hx
  · subst e; exact ⟨code_in h, good_of_word rfl⟩
  · exact ⟨hx, good_of_word (List.mem_filter.mp hx).2⟩
/-- the room for d calls, mc cells, ms slots -/
def prm (d mc ms : Nat) : Room := { frames := d + 8, cells := mc, slots := ms, locals := 200 * (d + 2) }
/-- at a return -/
def pRet (M rt : Nat) (res : Option pV) (pc1 : Nat) (st : List Value) : Prop := match res with
  | none => decode (pcd M) pc1 = .ok (.return_, 1) ∧ st = [] ∧ rt = 0
  | some (.inl x) => ∃ y : Int32, decode (pcd M) pc1 = .ok (.ireturn, 1) ∧ st = [.int y] ∧ y.toInt = x ∧ (rt = 1 ∨ (rt = 3 ∧ (x = 0 ∨ x = 1)))
  | some (.inr (.inl x)) => ∃ y : Int64, decode (pcd M) pc1 = .ok (.lreturn, 1) ∧ st = [.long y] ∧ y.toInt = x ∧ rt = 2
  | _ => False
/-- f steps of the pure machine are steps of the kit's -/
def pRunP (f : Nat) : Prop := ∀ (p : Program) (l : Launch) (e : Env) (R : Room) (s : State) (m : MethodId) (args : Array Value) (below : List Frame) (meth : Method) (c : Code) (Q : State → Prop) (D : va_G) (A : Nat → Prop) (sx : Nat → Option Nat) (n0 s0 : Nat) (ws0 : va_W) (d M pc : Nat) (loc stk : List pV) (Y : pY) (G : pG) (res : Option pV) (Y' : pY) (G' : pG) (mi : pM), pexec pMT f d M pc loc stk Y G = some (res, Y', G') → pMT M = some mi → pCx p R s m args c sx A (pKo M) mi.2.1 d (pcd M) → (Nat.beq (pKo M) 13 = true → pScr sx s A G) → (pini M = true → meth.name = "<init>") → pYk Y → Y'.1.1 ≤ n0 + R.cells → Y'.1.2 ≤ s0 + R.slots →
  (∀ (pc1 : Nat) (H : Heap) (locs : List Loc) (ws : va_W) (tys : List (ClassId × FieldType)) (ls : Array Slot) (st : List Value) (cells slots : Nat), pWl D A s tys Y' G' ws H locs → aS ws0 ws → Y'.1.1 = n0 + cells → Y'.1.2 = s0 + slots → pRet M mi.2.2 res pc1 st → W p l e R s m args below meth c H locs cells slots Q (F0 m pc1 ls st)) →
  pKK p l e R s m args below meth c Q D A sx mi.2.1 n0 s0 ws0 pc loc stk Y G
/-- the world with which a method begins, and that behind it -/
def pPre (D : va_G) (sx : Nat → Option Nat) (tys : List (ClassId × FieldType)) (ws : va_W) (sz : Nat) (U : State) : Prop := U.heap.size = sz ∧ va_P D pcl ws U.heap ∧ va_K D pcl tys U ∧ va_D (fun _ => True) ws ∧ (∀ q ∈ lkN, va_Nw (.methodLinkNest (pown q.1) q.2.1 (pyn q.2.2) "DiscLathe") U) ∧ (Cond.arrayOver (.array .int)).before #[] U = true ∧ pStr sx (va_A ws sz) U
abbrev pSt : Type := va_W × List (ClassId × FieldType)
def pB (D : va_G) (ws : va_W) (sz : Nat) (Y' : pY) (G' : pG) (u : pSt) (t : State) : Prop := va_P D pcl u.1 t.heap ∧ va_K D pcl u.2 t ∧ va_D (va_A ws sz) u.1 ∧ wR u.2 Y' G' u.1 ∧ aS ws u.1
def pQ (D : va_G) (ws : va_W) (sz : Nat) (r : Option pV) (Y' : pY) (G' : pG) : Array Value → State → Outcome → State → Prop := match r with
  | none => va_Qv (fun _ : pSt => True) (pB D ws sz Y' G') (va_A ws sz)
  | some (.inl x) => va_Qi (fun (y : Int32) (_ : pSt) => y.toInt = x) (pB D ws sz Y' G') (va_A ws sz)
  | some (.inr (.inl x)) => va_Ql (fun (y : Int64) (_ : pSt) => y.toInt = x) (pB D ws sz Y' G') (va_A ws sz)
  | _ => fun _ _ _ _ => False
theorem slots_len : ∀ av : List Value, (lg_sl av).length = (av.map fun v => v.category).sum
  | [] => rfl
  | v :: av => by
    have ih := slots_len av
    unfold lg_sl at ih ⊢
    rw [List.flatMap_cons, List.length_append, ih, List.map_cons, List.sum_cons]
    rcases lv_cat v with h | h
    · rw [if_neg (by omega), h]; rfl
    · rw [if_pos h, h]; rfl
theorem pent_len : ∀ (as : List pV) (n : Nat), pcat as ≤ n → (pent as n).length ≤ n
  | [], n, _ => by unfold pent; rw [List.length_replicate]; omega
  | .inl x :: t, n, h => by
    have h : 1 + pcat t ≤ n := h
    have ih := pent_len t (n - 1) (by omega)
    show (pI x :: pent t (n - 1)).length ≤ n
    rw [List.length_cons]; omega
  | .inr (.inl x) :: t, n, h => by
    have h : 2 + pcat t ≤ n := h
    have ih := pent_len t (n - 2) (by omega)
    show (pL x :: pU :: pent t (n - 2)).length ≤ n
    rw [List.length_cons, List.length_cons]; omega
  | .inr (.inr x) :: t, n, h => by
    have h : 1 + pcat t ≤ n := h
    have ih := pent_len t (n - 1) (by omega)
    show ((.inr (.inr x) : pV) :: pent t (n - 1)).length ≤ n
    rw [List.length_cons]; omega
theorem pn_rep {α : Type} {a v : α} : ∀ {n i : Nat}, pn (List.replicate n a) i = some v → v = a
  | 0, _, h => by cases h
  | n + 1, 0, h => by cases h; rfl
  | n + 1, i + 1, h => pn_rep (n := n) (i := i) h
theorem pent_at {ws : va_W} {sx : Nat → Option Nat} : ∀ {as : List pV} {av : List Value} (n k i : Nat) (v : pV), sR ws sx as av → pn (pent as n) i = some v → v = pU ∨ ∃ w, (k + i, w) ∈ lv_args k av ∧ vR ws sx v w
  | [], [], n, k, i, v, _, h => by unfold pent at h; exact Or.inl (pn_rep h)
  | .inl x :: t, w :: av, n, k, i, v, hs, h => by
    have hc : ¬ w.category = 2 := by have := hs.1.cat1 (fun _ e => by cases e); omega
    have h : pn (pI x :: pent t (n - 1)) i = some v := h
    cases i with
    | zero => cases h; exact Or.inr ⟨w, List.mem_cons_self, hs.1⟩
    | succ i =>
      rcases pent_at (n - 1) (k + 1) i v hs.2 h with e | ⟨w2, h1, h2⟩
      · exact Or.inl e
      · refine Or.inr ⟨w2, ?_, h2⟩
        show _ ∈ (k, w) :: lv_args (if w.category = 2 then k + 2 else k + 1) av
        rw [if_neg hc, show k + (i + 1) = k + 1 + i by omega]
        exact List.mem_cons_of_mem _ h1
  | .inr (.inl x) :: t, w :: av, n, k, i, v, hs, h => by
    have hc : w.category = 2 := by obtain ⟨y, rfl, -⟩ := hs.1; rfl
    have h : pn (pL x :: pU :: pent t (n - 2)) i = some v := h
    cases i with
    | zero => cases h; exact Or.inr ⟨w, List.mem_cons_self, hs.1⟩
    | succ i =>
      cases i with
      | zero => cases h; exact Or.inl rfl
      | succ i =>
        rcases pent_at (n - 2) (k + 2) i v hs.2 h with e | ⟨w2, h1, h2⟩
        · exact Or.inl e
        · refine Or.inr ⟨w2, ?_, h2⟩
          show _ ∈ (k, w) :: lv_args (if w.category = 2 then k + 2 else k + 1) av
          rw [if_pos hc, show k + (i + 1 + 1) = k + 2 + i by omega]
          exact List.mem_cons_of_mem _ h1
  | .inr (.inr x) :: t, w :: av, n, k, i, v, hs, h => by
    have hc : ¬ w.category = 2 := by have := hs.1.cat1 (fun _ e => by cases e); omega
    have h : pn ((.inr (.inr x) : pV) :: pent t (n - 1)) i = some v := h
    cases i with
    | zero => cases h; exact Or.inr ⟨w, List.mem_cons_self, hs.1⟩
    | succ i =>
      rcases pent_at (n - 1) (k + 1) i v hs.2 h with e | ⟨w2, h1, h2⟩
      · exact Or.inl e
      · refine Or.inr ⟨w2, ?_, h2⟩
        show _ ∈ (k, w) :: lv_args (if w.category = 2 then k + 2 else k + 1) av
        rw [if_neg hc, show k + (i + 1) = k + 1 + i by omega]
        exact List.mem_cons_of_mem _ h1
/-- a method's contract out of a run of the pure machine -/
theorem met_of {f : Nat} (IH : pRunP f) {l : Launch} {d M : Nat} {as : List pV} {Y : pY} {G : pG} {r : Option pV} {Y' : pY} {G' : pG} {mi : pM} {w : pMW} (hw : pmw M = some w) (hM : pMT M = some mi) (hk : pcat as ≤ mi.2.1) (hx0 : pexec pMT f d M 0 (pent as mi.2.1) [] Y G = some (r, Y', G')) (hYk : pYk Y) (D : va_G) (sx : Nat → Option Nat) (tys : List (ClassId × FieldType)) (ws : va_W) (av : List Value) (sz : Nat) (hwR : wR tys Y G ws) (hav : sR ws sx as av) : Met l (pyn M) (pws M) (prm d (Y'.1.1 - Y.1.1) (Y'.1.2 - Y.1.2)) (va_Pc av (pPre D sx tys ws sz)) (pQ D ws sz r Y' G') (Y'.1.1 - Y.1.1) (Y'.1.2 - Y.1.2) (va_A ws sz) := by
  obtain ⟨hok1, hok2, hok3, hok4⟩ := pMT_ok hM
  have hKo := pKo_at hw
  have hbd := pmw_bd hw
  have hmr := pmw_mr hw
  have hcls := (pyn_at hw).1
  have hhi := pexec_hi _ _ _ _ _ _ _ _ _ _ _ hx0
  refine Met.ofW (cc := pcd M) (maxL := pml M) (ret := pmr M) (ws' := lw_use) (by rw [hcls]; exact (pplain w.1 hbd.2.1).1) rfl ?_
  intro p e s m args below meth c s₁ B hml hv
  obtain ⟨rfl, hsz, hP, hK, hD0, hN, hAO, hSt⟩ := hv
  have hx := B.exec
  have hb := B.bytes
  have hr := B.returns
  have hts := atoms_spec (ws := pws M) B.pre
  have hown : s.vm.findClass (pyn M).cls = some m.cls := findClass_of_methodNamed B.named
  rw [hcls] at hown
  have hlocks := B.notSynchronized
  have hnm : pini M = true → meth.name = "<init>" := fun h => by rw [← pini_nm M h]; exact (name_of_methodNamed B.named B.method).1
  subst hsz
  have hD := hD0.self (sz := s.heap.size)
  have hsl : (lg_sl av).length ≤ pml M := by rw [slots_len, hav.cat, ← hok2]; exact hk
  have hl := lv_entry av (n := pml M) hsl
  rw [lg_entry_eq]
  generalize (lg_sl av ++ List.replicate (pml M - (lg_sl av).length) Slot.unset).toArray = ls at hl ⊢
  have hlR : lR ws sx mi.2.1 (pent as mi.2.1) ls := ⟨by rw [hok2]; exact hl.1, hl.2.1, pent_len _ _ hk, fun i v hv => by
    rcases pent_at mi.2.1 0 i v hav hv with e | ⟨w2, h1, h2⟩
    · exact Or.inl e
    · rw [Nat.zero_add] at h1
      exact Or.inr ⟨w2, hl.2.2 _ h1, h2⟩⟩
  have hX : pCx p (headSpec (pws M) (prm d (Y'.1.1 - Y.1.1) (Y'.1.2 - Y.1.2))).room s m av.toArray c sx (va_A ws s.heap.size) (pKo M) mi.2.1 d (pcd M) := ⟨hx, hb, by rw [hok2]; exact hml, by rw [hKo]; exact hown, fun x hx9 => hts x (List.mem_cons_of_mem _ hx9), hN, hAO, hSt, fun q h => Or.inr h, Nat.le_refl _, Nat.le_refl _⟩
  refine IH p l e _ s m av.toArray below meth c _ D (va_A ws s.heap.size) sx Y.1.1 Y.1.2 ws d M 0 _ _ Y G r Y' G' mi hx0 hM hX (fun h => ?_) hnm hYk ?_ ?_ ?_ s.heap [] ws tys ls [] 0 0 ⟨hwR, hP, hD, hK, va_S.rf⟩ (aS.rf _) hlR trivial rfl rfl
  · exact absurd (beq_e h) (by rw [hKo]; exact hbd.2.2.1)
  · show Y'.1.1 ≤ Y.1.1 + (Y'.1.1 - Y.1.1); have := hhi.1; omega
  · show Y'.1.2 ≤ Y.1.2 + (Y'.1.2 - Y.1.2); have := hhi.2.1; omega
  · intro pc1 H locs ws1 tys1 ls1 st cells slots hW hA hc1 hc2 hret
    have e1 : cells = Y'.1.1 - Y.1.1 := by omega
    have e2 : slots = Y'.1.2 - Y.1.2 := by omega
    subst e1; subst e2
    obtain ⟨hwR1, hP1, hD1, hK1, hS1⟩ := hW
    rcases r with _ | x | x | x
    · obtain ⟨hd, rfl, hrt⟩ := hret
      have hrn : meth.sig.returnType = none := by
        rw [hr, hmr]
        rw [hok3, hmr] at hrt
        rcases hbd.2.2.2.2.1 with h | h | h | h <;> rw [h] at hrt ⊢ <;> first | rfl | cases hrt
      exact W.vret hx hb hrn (fun t ht hWm => ⟨⟨(ws1, tys1), rfl, trivial, by rw [ht]; exact hP1, va_K.moved hWm.alike hK1, hD1, hwR1, hA⟩, hS1.F ht⟩) hS1.2.2 hd
    · obtain ⟨y, hd, rfl, hy, hrt⟩ := hret
      rw [hok3, hmr] at hrt
      rcases hrt with hrt | ⟨hrt, h01⟩
      · have hrn : meth.sig.returnType = some .int := by
          rw [hr, hmr]
          rcases hbd.2.2.2.2.1 with h | h | h | h <;> rw [h] at hrt ⊢ <;> first | rfl | cases hrt
        exact W.iret (v := y) hx hb hrn (fun t ht hWm => ⟨⟨y, (ws1, tys1), rfl, hy, by rw [ht]; exact hP1, va_K.moved hWm.alike hK1, hD1, hwR1, hA⟩, hS1.F ht⟩) hS1.2.2 hd
      · have hrn : meth.sig.returnType = some .boolean := by
          rw [hr, hmr]
          rcases hbd.2.2.2.2.1 with h | h | h | h <;> rw [h] at hrt ⊢ <;> first | rfl | cases hrt
        exact W.zret (v := y) hx hb hrn (booln (by rw [hy]; exact h01)).1 (fun t ht hWm => ⟨⟨y, (ws1, tys1), rfl, hy, by rw [ht]; exact hP1, va_K.moved hWm.alike hK1, hD1, hwR1, hA⟩, hS1.F ht⟩) hS1.2.2 hd
    · obtain ⟨y, hd, rfl, hy, hrt⟩ := hret
      rw [hok3, hmr] at hrt
      have hrn : meth.sig.returnType = some .long := by
        rw [hr, hmr]
        rcases hbd.2.2.2.2.1 with h | h | h | h <;> rw [h] at hrt ⊢ <;> first | rfl | cases hrt
      exact W.lret (v := y) hx hb hrn (fun t ht hWm => ⟨⟨y, (ws1, tys1), rfl, hy, by rw [ht]; exact hP1, va_K.moved hWm.alike hK1, hD1, hwR1, hA⟩, hS1.F ht⟩) hS1.2.2 hd
    · exact hret.elim
