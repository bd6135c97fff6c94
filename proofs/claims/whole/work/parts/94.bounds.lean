/-! the class' plan: what bounds it -/
theorem amax {X : Nat → Bool} {b : Nat → Int} : ∀ n : Nat, (∃ k, k < n ∧ X k = true) → ∃ k, k < n ∧ X k = true ∧ ∀ j, j < n → X j = true → b j ≤ b k
  | 0, h => by obtain ⟨k, h, -⟩ := h; omega
  | n + 1, h => by
    by_cases q : ∃ k, k < n ∧ X k = true
    · obtain ⟨k, k1, k2, k3⟩ := amax (b := b) n q
      by_cases w : X n = true ∧ b k < b n
      · refine ⟨n, by omega, w.1, fun j hj hx => ?_⟩
        by_cases e : j = n
        · subst e; omega
        · have := k3 j (by omega) hx; omega
      · refine ⟨k, by omega, k2, fun j hj hx => ?_⟩
        by_cases e : j = n
        · subst e
          by_cases v : b k < b j
          · exact absurd ⟨hx, v⟩ w
          · omega
        · exact k3 j (by omega) hx
    · obtain ⟨k, k1, k2⟩ := h
      have e : k = n := by
        by_cases e : k = n
        · exact e
        · exact absurd ⟨k, by omega, k2⟩ q
      subst e
      refine ⟨k, by omega, k2, fun j hj hx => ?_⟩
      by_cases e : j = k
      · subst e; omega
      · exact absurd ⟨j, by omega, hx⟩ q
/-- the first one by begin and number -/
theorem amin {X : Nat → Bool} {b : Nat → Int} : ∀ n : Nat, (∃ k, k < n ∧ X k = true) → ∃ k, k < n ∧ X k = true ∧ ∀ j, j < n → X j = true → b k < b j ∨ (b k = b j ∧ k ≤ j)
  | 0, h => by obtain ⟨k, h, -⟩ := h; omega
  | n + 1, h => by
    by_cases q : ∃ k, k < n ∧ X k = true
    · obtain ⟨k, k1, k2, k3⟩ := amin (b := b) n q
      by_cases w : X n = true ∧ b n < b k
      · refine ⟨n, by omega, w.1, fun j hj hx => ?_⟩
        by_cases e : j = n
        · subst e; omega
        · have := k3 j (by omega) hx; omega
      · refine ⟨k, by omega, k2, fun j hj hx => ?_⟩
        by_cases e : j = n
        · subst e
          by_cases v : b j < b k
          · exact absurd ⟨hx, v⟩ w
          · omega
        · exact k3 j (by omega) hx
    · obtain ⟨k, k1, k2⟩ := h
      have e : k = n := by
        by_cases e : k = n
        · exact e
        · exact absurd ⟨k, by omega, k2⟩ q
      subst e
      refine ⟨k, by omega, k2, fun j hj hx => ?_⟩
      by_cases e : j = k
      · subst e; omega
      · exact absurd ⟨j, by omega, hx⟩ q
theorem rem_s {X : Nat → Bool} {t : Nat → Int} {S k : Nat} (hk : k < S) (hx : X k = true) : vSm (fun j => if X j = true then t j else 0) S = vSm (fun j => if (X j && decide (j ≠ k)) = true then t j else 0) S + t k := by
  have h1 := vSm_add (fun j => if (X j && decide (j ≠ k)) = true then t j else 0) (fun j => if j = k then t k else 0) S
  have h2 : vSm (fun j => if j = k then t k else 0) S = t k := by
    rw [vSm_one (c := k) S hk (fun j _ hj => if_neg hj), if_pos rfl]
  rw [h2] at h1
  rw [h1]
  refine vSm_c S (fun j hj => ?_)
  by_cases e : j = k
  · subst e
    simp [hx]
  · simp [e]
/-- one behind the other needs its room -/
theorem pack {S : Nat} {t b : Nat → Int} (ht : ∀ k, k < S → 1 ≤ t k) {f : Int} : ∀ (n : Nat) (X : Nat → Bool) (u : Int), vSm (fun j => if X j = true then 1 else 0) S ≤ (n : Int) → (∀ i j, i < S → j < S → i ≠ j → X i = true → X j = true → b i + t i ≤ b j ∨ b j + t j ≤ b i) → (∀ k, k < S → X k = true → f ≤ b k) → f ≤ u → (∀ k, k < S → X k = true → b k + t k ≤ u) → f + vSm (fun j => if X j = true then t j else 0) S ≤ u := by
  intro n
  induction n with
  | zero =>
    intro X u hn hd hf hu he
    have none : ∀ k, k < S → X k = false := fun k hk => by
      cases c : X k with
      | false => rfl
      | true =>
        have := (vSm_ge1 (f := fun j => if X j = true then (1 : Int) else 0) (fun i => by split <;> omega) S).2 k hk
        rw [if_pos c] at this
        omega
    rw [vSm_c (g := fun _ => 0) S (fun k hk => by rw [if_neg (by rw [none k hk]; decide)]), vSm_z]
    omega
  | succ n ih =>
    intro X u hn hd hf hu he
    by_cases q : ∃ k, k < S ∧ X k = true
    · obtain ⟨k, k1, k2, k3⟩ := amax (b := b) S q
      have r1 := rem_s (t := t) k1 k2
      have r2 := rem_s (t := fun _ => 1) k1 k2
      have tk := ht k k1
      have sub : ∀ j, (X j && decide (j ≠ k)) = true → X j = true ∧ j ≠ k := fun j hj => by
        rw [Bool.and_eq_true, decide_eq_true_iff] at hj
        exact hj
      have := ih (fun j => X j && decide (j ≠ k)) (b k) (by omega) (fun i j hi hj hne h1 h2 => hd i j hi hj hne (sub i h1).1 (sub j h2).1) (fun j hj h => hf j hj (sub j h).1) (hf k k1 k2) (fun j hj h => by
        obtain ⟨s1, s2⟩ := sub j h
        rcases hd j k hj k1 s2 s1 k2 with h | h
        · exact h
        · have := k3 j hj s1
          omega)
      have := he k k1 k2
      omega
    · have none : ∀ k, k < S → X k = false := fun k hk => by
        cases c : X k with
        | false => rfl
        | true => exact absurd ⟨k, hk, c⟩ q
      rw [vSm_c (g := fun _ => 0) S (fun k hk => by rw [if_neg (by rw [none k hk]; decide)]), vSm_z]
      omega
/-- what is still behind a step -/
def tlOk (S : Nat) (t : Nat → Int) (W : Nat → Nat → Bool) (T : Nat → Int) : Prop := ∀ k, k < S → T k = t k ∨ ∃ j, k < j ∧ j < S ∧ W j k = true ∧ T k = t k + T j
theorem tail_le {S : Nat} {t : Nat → Int} {W F : Nat → Nat → Bool} {T b : Nat → Int} (hT : tlOk S t W T) (hb : plF S t W F b) : ∀ (n k : Nat), k + n = S → k < S → b k + T k ≤ plL S t b := by
  intro n
  induction n using Nat.strongRecOn with
  | _ n ih =>
    intro k hk hkS
    have l := (plL_ge S t b).2 k hkS
    rcases hT k hkS with h | ⟨j, j1, j2, j3, j4⟩
    · omega
    · have := ih (S - j) (by omega) j (by omega) j2
      have := hb.2.1 k j hkS j2 j3
      omega
/-- a plan that begins so -/
def pfx (S : Nat) (X : Nat → Bool) (tr b : Nat → Int) : Prop := (∀ j, j < S → X j = true → tr j = b j) ∧ ∀ j k, j < S → k < S → X j = true → X k = false → b j < b k ∨ (b j = b k ∧ j < k)
/-- when the others may begin -/
def rdy (S : Nat) (t : Nat → Int) (W F : Nat → Nat → Bool) (X : Nat → Bool) (tr r : Nat → Int) : Prop := ∀ k, k < S → 0 ≤ r k ∧ (∀ j, j < S → X j = true → (F j k = true ∨ W k j = true) → tr j + t j ≤ r k) ∧ (r k = 0 ∨ ∃ j, j < S ∧ X j = true ∧ (F j k = true ∨ W k j = true) ∧ r k = tr j + t j)
theorem rdy_le {S : Nat} {t : Nat → Int} {W F : Nat → Nat → Bool} {X : Nat → Bool} {tr r b : Nat → Int} (ht : ∀ k, k < S → 1 ≤ t k) (hir : ∀ k, k < S → F k k = false) (hr : rdy S t W F X tr r) (hp : pfx S X tr b) (hb : plF S t W F b) {k : Nat} (hk : k < S) (hx : X k = false) : r k ≤ b k := by
  obtain ⟨r1, r2, r3⟩ := hr k hk
  rcases r3 with r3 | ⟨j, j1, j2, j3, j4⟩
  · rw [r3]; exact hb.1 k hk
  · have o := hp.2 j k j1 hk j2 hx
    have e := hp.1 j j1 j2
    have tj := ht j j1
    have tk := ht k hk
    rw [j4, e]
    rcases j3 with j3 | j3
    · have ne : j ≠ k := fun q => by rw [q, hx] at j2; exact absurd j2 (by decide)
      rcases hb.2.2 j k j1 hk ne j3 with h | h
      · exact h
      · omega
    · exact hb.2.1 j k j1 hk j3
/-- the best plan begins each step as soon as those ahead let it -/
theorem act {S : Nat} {t : Nat → Int} {W F : Nat → Nat → Bool} {X : Nat → Bool} {tr r b : Nat → Int} {l : Int} (ht : ∀ k, k < S → 1 ≤ t k) (hir : ∀ k, k < S → F k k = false) (hsy : ∀ j k, j < S → k < S → F j k = F k j) (hr : rdy S t W F X tr r) (hp : pfx S X tr b) (hb : bst S t W F l b) {k : Nat} (hk : k < S) (hx : X k = false) (hm : ∀ j, j < S → X j = false → b k < b j ∨ (b k = b j ∧ k ≤ j)) : r k = b k ∧ (∀ j, j < S → W k j = true → X j = true) := by
  obtain ⟨hf, hl, hmin⟩ := hb
  have le := rdy_le ht hir hr hp hf hk hx
  have wt : ∀ j, j < S → W k j = true → X j = true := by
    intro j hj hw
    cases c : X j with
    | true => rfl
    | false =>
      have := hf.2.1 j k hj hk hw
      have := ht j hj
      have := hm j hj c
      omega
  refine ⟨?_, wt⟩
  by_cases q : r k = b k
  · exact q
  · exfalso
    obtain ⟨r1, r2, -⟩ := hr k hk
    have lt : r k < b k := by omega
    have vk : vUpd b k (r k) k = r k := if_pos rfl
    have vo : ∀ j, j ≠ k → vUpd b k (r k) j = b j := fun j hj => if_neg hj
    have fe : plF S t W F (vUpd b k (r k)) := by
      refine ⟨fun j hj => ?_, fun i j hi hj hw => ?_, fun i j hi hj hne hw => ?_⟩
      · by_cases e : j = k
        · rw [e, vk]; exact r1
        · rw [vo j e]; exact hf.1 j hj
      · have h := hf.2.1 i j hi hj hw
        by_cases e : j = k
        · subst e
          have hxi := wt i hi hw
          have ei := hp.1 i hi hxi
          have := r2 i hi hxi (Or.inr hw)
          have ne : i ≠ j := fun z => by rw [z, hx] at hxi; exact absurd hxi (by decide)
          rw [vk, vo i ne]
          omega
        · rw [vo j e]
          by_cases e2 : i = k
          · rw [e2, vk]; rw [e2] at h; omega
          · rw [vo i e2]; exact h
      · have h := hf.2.2 i j hi hj hne hw
        -- for one of the two being k
        have key : ∀ m, m < S → m ≠ k → F m k = true → (b m + t m ≤ b k ∨ b k + t k ≤ b m) → (b m + t m ≤ r k ∨ r k + t k ≤ b m) := by
          intro m hm' hmk hF hor
          cases c : X m with
          | true =>
            have := r2 m hm' c (Or.inl hF)
            have := hp.1 m hm' c
            omega
          | false =>
            have := hm m hm' c
            have := ht m hm'
            have := ht k hk
            rcases hor with h | h
            · omega
            · omega
        by_cases e : j = k
        · subst e
          rw [vk, vo i hne]
          exact key i hi hne hw h
        · rw [vo j e]
          by_cases e2 : i = k
          · subst e2
            rw [vk]
            have := key j hj e (by rw [hsy j i hj hk]; exact hw) (by omega)
            omega
          · rw [vo i e2]; exact h
    have m1 := hmin _ fe
    have cw : ∀ j, j < S → vUpd b k (r k) j ≤ b j := fun j hj => by
      by_cases e : j = k
      · rw [e, vk]; omega
      · rw [vo j e]; omega
    have m2 := plLe_cw (t := t) cw
    rw [← hl] at m2
    have := (plLe_as m1 m2).2 k hk
    rw [vk] at this
    omega
