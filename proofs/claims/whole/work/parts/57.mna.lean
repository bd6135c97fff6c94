theorem mna_form (cA : ClassId) (N h0 : Nat) : ∀ i, Jvm.Free.Multi.outerC cA N h0 i = { cls := cA, slots := (Jvm.Free.Multi.outerC cA N h0 i).slots, vm := .none }
  | 0 => rfl
  | i + 1 => by
    show (Jvm.Free.Multi.outerC cA N h0 i).setSlot i _ = _
    conv => lhs; rw [mna_form cA N h0 i]
    rfl
theorem mna_outer (cA : ClassId) (N h0 : Nat) : Jvm.Free.Multi.outerC cA N h0 N = arrV cA N (fun j => va_rf (if j < N then some (h0 + 1 + j) else none)) := by
  have f3 := (Jvm.Free.Multi.outerC_facts cA N h0 N).2.2
  have g := Jvm.Free.Multi.outerC_slot cA N h0 N
  have hs : (Jvm.Free.Multi.outerC cA N h0 N).slots = (arrV cA N (fun j => va_rf (if j < N then some (h0 + 1 + j) else none))).slots := by
    apply Array.ext_getElem?
    intro j
    by_cases hj : j < N
    · rw [g j hj, arrV_read _ _ hj, if_pos hj]
      simp only [if_pos hj]
      rfl
    · rw [Array.getElem?_eq_none (by omega), Array.getElem?_eq_none (by rw [arrV_size]; omega)]
  rw [mna_form, hs]
  rfl
theorem pMNA_ok : pMNA := by
  intro p l e R s m args below meth c H locs cells slots Q cc pc ls rest D A tys ws own index n k hexec hb hown hcl hov har hK hP hD hS hA hn hk hn1 hk1 hc hs hdg kk
  intro T hT X
  subst hT; subst hb
  have e1 : n.toNatClampNeg = n.toInt.toNat := rfl
  have e2 : k.toNatClampNeg = k.toInt.toNat := rfl
  have z1 : ¬ n < 0 := fun q => by have := Int32.lt_iff_toInt_lt.mp q; simp at this; omega
  have z2 : ¬ k < 0 := fun q => by have := Int32.lt_iff_toInt_lt.mp q; simp at this; omega
  have b1 : n.toInt.toNat ≤ 100000 := by omega
  have b2 : k.toInt.toNat ≤ 100000 := by omega
  have b3 : componentBytes .int ≤ 8 := by simp [componentBytes]
  have b4 : k.toNatClampNeg * componentBytes .int ≤ 536870912 := Nat.le_trans (Nat.mul_le_mul b2 b3) (by decide)
  obtain ⟨vm₁, cA, comp, hW, hfA, hfC, hO, hI, X1, st⟩ := X.multianewarray2F (ty := .int) hexec hown hcl hov har (g := F0 m pc ls (.int k :: .int n :: rest)) rfl hdg rfl z1 z2 (by omega) b4 (by omega) rfl rfl (by omega) (by rw [e1, e2]; omega)
  rw [e1, e2] at X1 st
  generalize n.toInt.toNat = N at *
  generalize k.toInt.toNat = M at *
  obtain ⟨f1, f2, f3, f4⟩ := Jvm.Free.Multi.fill_facts (T.setVm vm₁) cA comp N M (defaultValue .int) N
  have fo := fun (a : Addr) (ha : a < T.heap.size) => Jvm.Free.Multi.fill_old (T.setVm vm₁) cA comp N M (defaultValue .int) (a := a) ha N
  have fi := fun (j : Nat) (hj : j < N) => Jvm.Free.Multi.fill_inner (T.setVm vm₁) cA comp N M (defaultValue .int) N j hj
  generalize Jvm.Free.Multi.fill (T.setVm vm₁) cA comp N M (defaultValue .int) N = T1 at *
  have f1' : T1.heap.size = T.heap.size + 1 + N := f1
  have f2' : T1.heap[T.heap.size]? = some (arrV cA N (fun j => va_rf (if j < N then some (T.heap.size + 1 + j) else none))) := by rw [← mna_outer]; exact f2
  have fi' : ∀ j, j < N → T1.heap[T.heap.size + 1 + j]? = some (arrV comp M (fun _ => .int 0)) := fun j hj => by rw [← arrV_new]; exact fi j hj
  have hO1 := (hO 0 0 0).1
  have hI1 := (hI 0 .null).1
  obtain ⟨-, kA, hkA, cc1, hkk⟩ := hO1
  obtain ⟨-, kB, hkB, cc2, hkb⟩ := hI1
  have hAr : ArrOfT s cA (.array .int) := fun N z => ⟨(fun k h => by cases h), kA, hkA, cc1, hkk⟩
  have hBr : ArrOfT s comp .int := fun N z => ⟨(fun k h => by cases h), kB, hkB, cc2, hkb⟩
  have hold : ∀ (k : Nat) (x : Nat × va_E), ws[k]? = some x → T1.heap[x.1]? = T.heap[x.1]? := fun k x hx => fo x.1 ((hP k x hx).lt)
  generalize hnw : ((T.heap.size, .inl (cA, N, .inr (.inr (.inr (.inr (fun i => if i < N then some (T.heap.size + 1 + i) else none)))))) :: (List.range N).map (fun i => (T.heap.size + 1 + i, .inl (comp, M, .inl (fun _ => 0)))) : va_W) = nw
  have hnk : ∀ (k : Nat) (x : Nat × va_E), nw[k]? = some x → x.1 = T.heap.size + k ∧ va_at D pcl x T1.heap := by
    intro k x hx
    subst hnw
    cases k with
    | zero => simp only [List.getElem?_cons_zero, Option.some.injEq] at hx; subst hx; exact ⟨rfl, f2'⟩
    | succ j =>
      simp only [List.getElem?_cons_succ, List.getElem?_map, Option.map_eq_some_iff] at hx
      obtain ⟨i, hi, rfl⟩ := hx
      obtain ⟨hl, hi⟩ := List.getElem?_eq_some_iff.mp hi
      rw [List.getElem_range] at hi
      subst hi
      exact ⟨by show T.heap.size + 1 + j = T.heap.size + (j + 1); omega, fi' j (by simpa using hl)⟩
  have key : ∀ (k : Nat) (x : Nat × va_E), (ws ++ nw)[k]? = some x → (ws[k]? = some x ∧ x.1 < T.heap.size) ∨ (ws.length ≤ k ∧ x.1 = T.heap.size + (k - ws.length)) := by
    intro k x hx
    by_cases hl : k < ws.length
    · rw [List.getElem?_append_left hl] at hx
      exact Or.inl ⟨hx, (hP k x hx).lt⟩
    · rw [List.getElem?_append_right (by omega)] at hx
      exact Or.inr ⟨by omega, (hnk _ _ hx).1⟩
  have hK1 : va_K D pcl (tys ++ [(cA, .array .int), (comp, .int)]) s := by
    refine ⟨hK.1, fun k x hx => ?_⟩
    by_cases hl : k < tys.length
    · rw [List.getElem?_append_left hl] at hx
      exact hK.2 k x hx
    · rw [List.getElem?_append_right (by omega)] at hx
      generalize k - tys.length = j at hx
      match j, hx with
      | 0, hx => cases hx; exact ⟨hAr, hfA⟩
      | 1, hx => cases hx; exact ⟨hBr, hfC⟩
  obtain ⟨t, a1, b1⟩ := kk T.heap.size (fun i => T.heap.size + 1 + i) cA comp T1.heap hK1 (by rw [hnw]; exact (hP.kept hold).app (fun k x hx => (hnk k x hx).2)) (by
      rw [hnw]
      refine ⟨fun i j x y hi hj hxy => ?_, fun k x hx => ?_⟩
      · rcases key i x hi with ⟨a1, a2⟩ | ⟨a1, a2⟩ <;> rcases key j y hj with ⟨c1, c2⟩ | ⟨c1, c2⟩
        · exact hD.1 i j x y a1 c1 hxy
        · omega
        · omega
        · omega
      · rcases key k x hx with ⟨a1, a2⟩ | ⟨a1, a2⟩
        · exact hD.2 k x a1
        · exact hA _ (by have := hS.1; omega)) ⟨by have := hS.1; omega, fun x h1 h2 => (fo x (Nat.lt_of_lt_of_le h1 hS.1)).trans (hS.2.1 x h1 h2), hS.2.2⟩ T1 rfl X1
  exact ⟨t, st t a1, b1⟩
