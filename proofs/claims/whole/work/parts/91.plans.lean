/-! plans -/
def lxL (S : Nat) (a b : Nat → Int) : Prop := ∃ k : Nat, k < S ∧ (∀ j : Nat, j < k → a j = b j) ∧ a k < b k
def eqS (S : Nat) (a b : Nat → Int) : Prop := ∀ k : Nat, k < S → a k = b k
theorem lx_cw {S : Nat} {a b : Nat → Int} (h : ∀ k, k < S → a k ≤ b k) : lxL S a b ∨ eqS S a b := by
  induction S with
  | zero => exact Or.inr (fun k hk => by omega)
  | succ S ih =>
    rcases ih (fun k hk => h k (by omega)) with ⟨k, k1, k2, k3⟩ | q
    · exact Or.inl ⟨k, by omega, k2, k3⟩
    · by_cases e : a S = b S
      · refine Or.inr (fun k hk => ?_)
        by_cases z : k = S
        · subst z; exact e
        · exact q k (by omega)
      · have := h S (by omega)
        exact Or.inl ⟨S, by omega, fun j hj => q j hj, by omega⟩
theorem lx_tri (S : Nat) (a b : Nat → Int) : lxL S a b ∨ eqS S a b ∨ lxL S b a := by
  induction S with
  | zero => exact Or.inr (Or.inl (fun k hk => by omega))
  | succ S ih =>
    rcases ih with ⟨k, k1, k2, k3⟩ | q | ⟨k, k1, k2, k3⟩
    · exact Or.inl ⟨k, by omega, k2, k3⟩
    · by_cases e : a S = b S
      · refine Or.inr (Or.inl (fun k hk => ?_))
        by_cases z : k = S
        · subst z; exact e
        · exact q k (by omega)
      · by_cases z : a S < b S
        · exact Or.inl ⟨S, by omega, fun j hj => q j hj, z⟩
        · exact Or.inr (Or.inr ⟨S, by omega, fun j hj => (q j hj).symm, by omega⟩)
    · exact Or.inr (Or.inr ⟨k, by omega, k2, k3⟩)
theorem lx_tr {S : Nat} {a b c : Nat → Int} (h1 : lxL S a b ∨ eqS S a b) (h2 : lxL S b c ∨ eqS S b c) : lxL S a c ∨ eqS S a c := by
  rcases h1 with ⟨k, k1, k2, k3⟩ | q1
  · rcases h2 with ⟨l, l1, l2, l3⟩ | q2
    · by_cases e : k < l
      · exact Or.inl ⟨k, k1, fun j hj => by rw [k2 j hj, l2 j (by omega)], by rw [← l2 k e]; exact k3⟩
      · by_cases e2 : k = l
        · subst e2
          exact Or.inl ⟨k, k1, fun j hj => by rw [k2 j hj, l2 j hj], by omega⟩
        · exact Or.inl ⟨l, l1, fun j hj => by rw [k2 j (by omega), l2 j hj], by rw [k2 l (by omega)]; exact l3⟩
    · exact Or.inl ⟨k, k1, fun j hj => by rw [k2 j hj, q2 j (by omega)], by rw [← q2 k k1]; exact k3⟩
  · rcases h2 with ⟨l, l1, l2, l3⟩ | q2
    · exact Or.inl ⟨l, l1, fun j hj => by rw [q1 j (by omega), l2 j hj], by rw [q1 l l1]; exact l3⟩
    · exact Or.inr (fun k hk => by rw [q1 k hk, q2 k hk])
theorem lx_as {S : Nat} {a b : Nat → Int} (h1 : lxL S a b ∨ eqS S a b) (h2 : lxL S b a ∨ eqS S b a) : eqS S a b := by
  rcases h1 with ⟨k, k1, k2, k3⟩ | q1
  · exfalso
    rcases h2 with ⟨l, l1, l2, l3⟩ | q2
    · by_cases e : k < l
      · have := l2 k e; omega
      · by_cases e2 : k = l
        · subst e2; omega
        · have := k2 l (by omega); omega
    · have := q2 k k1; omega
  · exact q1
/-- shorter, or alike and by lesser begins -/
def plLe (S : Nat) (l : Int) (a : Nat → Int) (m : Int) (b : Nat → Int) : Prop := l < m ∨ (l = m ∧ (lxL S a b ∨ eqS S a b))
theorem plLe_tr {S : Nat} {l m n : Int} {a b c : Nat → Int} (h1 : plLe S l a m b) (h2 : plLe S m b n c) : plLe S l a n c := by
  rcases h1 with h1 | ⟨h1, q1⟩
  · rcases h2 with h2 | ⟨h2, q2⟩
    · exact Or.inl (by omega)
    · exact Or.inl (by omega)
  · rcases h2 with h2 | ⟨h2, q2⟩
    · exact Or.inl (by omega)
    · exact Or.inr ⟨by omega, lx_tr q1 q2⟩
theorem plLe_as {S : Nat} {l m : Int} {a b : Nat → Int} (h1 : plLe S l a m b) (h2 : plLe S m b l a) : l = m ∧ eqS S a b := by
  rcases h1 with h1 | ⟨h1, q1⟩
  · rcases h2 with h2 | ⟨h2, q2⟩
    · omega
    · omega
  · rcases h2 with h2 | ⟨h2, q2⟩
    · omega
    · exact ⟨h1, lx_as q1 q2⟩
theorem plLe_rf (S : Nat) (l : Int) (a : Nat → Int) : plLe S l a l a := Or.inr ⟨rfl, Or.inr (fun _ _ => rfl)⟩
/-- what a plan keeps to -/
def plF (S : Nat) (t : Nat → Int) (W F : Nat → Nat → Bool) (b : Nat → Int) : Prop := (∀ k, k < S → 0 ≤ b k) ∧ (∀ k l, k < S → l < S → W l k = true → b k + t k ≤ b l) ∧ (∀ k l, k < S → l < S → k ≠ l → F k l = true → b k + t k ≤ b l ∨ b l + t l ≤ b k)
def plL (S : Nat) (t b : Nat → Int) : Int := mxN (fun k => b k + t k) S
theorem plL_ge (S : Nat) (t b : Nat → Int) : 0 ≤ plL S t b ∧ ∀ k, k < S → b k + t k ≤ plL S t b := by
  have := mxN_pr (fun k => b k + t k) S
  exact ⟨this.1, this.2.1⟩
theorem plL_le {S : Nat} {t b : Nat → Int} {x : Int} (h0 : 0 ≤ x) (h : ∀ k, k < S → b k + t k ≤ x) : plL S t b ≤ x := by
  obtain ⟨h1, h2, h3⟩ := mxN_pr (fun k => b k + t k) S
  unfold plL
  rcases h3 with h3 | ⟨v, v1, v2⟩
  · omega
  · have := h v v1; omega
theorem plL_c {S : Nat} {t b b' : Nat → Int} (h : eqS S b b') : plL S t b = plL S t b' := mxN_c S (fun v hv => by rw [h v hv])
theorem plF_c {S : Nat} {t : Nat → Int} {W F : Nat → Nat → Bool} {b b' : Nat → Int} (h : eqS S b b') (hf : plF S t W F b) : plF S t W F b' := by
  obtain ⟨h1, h2, h3⟩ := hf
  refine ⟨fun k hk => by rw [← h k hk]; exact h1 k hk, fun k l hk hl hw => by rw [← h k hk, ← h l hl]; exact h2 k l hk hl hw, fun k l hk hl hn hw => by rw [← h k hk, ← h l hl]; exact h3 k l hk hl hn hw⟩
theorem plLe_cw {S : Nat} {t a b : Nat → Int} (h : ∀ k, k < S → a k ≤ b k) : plLe S (plL S t a) a (plL S t b) b := by
  have l : plL S t a ≤ plL S t b := plL_le (plL_ge S t b).1 (fun k hk => by have := (plL_ge S t b).2 k hk; have := h k hk; omega)
  by_cases e : plL S t a = plL S t b
  · exact Or.inr ⟨e, lx_cw h⟩
  · exact Or.inl (by omega)
/-- who must be ahead -/
def solA (S : Nat) (t : Nat → Int) (A : Nat → Nat → Bool) (b : Nat → Int) : Prop := (∀ k, k < S → 0 ≤ b k) ∧ ∀ k l, k < S → l < S → A k l = true → b l + t l ≤ b k
def tght (S : Nat) (t : Nat → Int) (A : Nat → Nat → Bool) (e : Nat → Int) (k : Nat) : Prop := ∀ l, l < S → A k l = true → e l + t l ≤ e k
/-- how many begin ahead of x -/
def rkN (b : Nat → Int) (x : Int) : Nat → Nat
  | 0 => 0
  | n + 1 => rkN b x n + (if b n < x then 1 else 0)
theorem rkN_mono {b : Nat → Int} {x y : Int} (h : x ≤ y) : ∀ n : Nat, rkN b x n ≤ rkN b y n
  | 0 => Nat.le_refl _
  | n + 1 => by
    have := rkN_mono (b := b) h n
    show rkN b x n + (if b n < x then 1 else 0) ≤ rkN b y n + (if b n < y then 1 else 0)
    by_cases q : b n < x
    · rw [if_pos q, if_pos (by omega)]; omega
    · rw [if_neg q]; omega
theorem rkN_lt {b : Nat → Int} {y : Int} {l : Nat} (h : b l < y) : ∀ n : Nat, l < n → rkN b (b l) n < rkN b y n
  | 0, hl => by omega
  | n + 1, hl => by
    show rkN b (b l) n + (if b n < b l then 1 else 0) < rkN b y n + (if b n < y then 1 else 0)
    by_cases e : l = n
    · subst e
      have := rkN_mono (b := b) (show b l ≤ y by omega) l
      rw [if_neg (by omega), if_pos h]; omega
    · have := rkN_lt h n (by omega)
      by_cases q : b n < b l
      · rw [if_pos q, if_pos (by omega)]; omega
      · rw [if_neg q]; omega
theorem rkN_bd {b : Nat → Int} {k : Nat} : ∀ n : Nat, k < n → rkN b (b k) n < n
  | 0, hk => by omega
  | n + 1, hk => by
    show rkN b (b k) n + (if b n < b k then 1 else 0) < n + 1
    by_cases e : k = n
    · subst e
      rw [if_neg (by omega)]
      have : ∀ (x : Int) (m : Nat), rkN b x m ≤ m := fun x m => by
        induction m with
        | zero => exact Nat.le_refl _
        | succ m ih =>
          show rkN b x m + (if b m < x then 1 else 0) ≤ m + 1
          split <;> omega
      have := this (b k) k
      omega
    · have := rkN_bd (b := b) (k := k) n (by omega)
      split <;> omega
def rkB (S : Nat) (b : Nat → Int) (k : Nat) : Nat := rkN b (b k) S
theorem rk_lt {S : Nat} {t : Nat → Int} {A : Nat → Nat → Bool} {b : Nat → Int} (ht : ∀ k, k < S → 1 ≤ t k) (h : solA S t A b) {k l : Nat} (hk : k < S) (hl : l < S) (ha : A k l = true) : rkB S b l < rkB S b k := by
  have := h.2 k l hk hl ha
  have := ht l hl
  exact rkN_lt (by omega) S hl
/-- begins at the earliest: in the middle of a round -/
def eI (S : Nat) (t : Nat → Int) (A : Nat → Nat → Bool) (e0 : Nat → Int) (r k l : Nat) (e : Nat → Int) (more : Int) : Prop :=
  (∀ j, j < S → 0 ≤ e j ∧ e j ≤ 20099 * (((49 * r + 7 * k + l : Nat)) : Int)) ∧ (more = 0 ∨ more = 1) ∧ (more = 0 → (∀ j, j < k → j < S → tght S t A e j) ∧ ∀ l', l' < l → A k l' = true → e l' + t l' ≤ e k) ∧
  (∀ b, solA S t A b → (∀ j, j < S → e j ≤ b j) ∧ (∀ j, j < S → rkB S b j < r → e j = e0 j) ∧ (∀ j, j < S → j < k → rkB S b j ≤ r → tght S t A e j) ∧ (k < S → rkB S b k ≤ r → ∀ l', l' < l → A k l' = true → e l' + t l' ≤ e k) ∧ (more = 1 → r < S))
theorem eI_n {S : Nat} {t : Nat → Int} {A : Nat → Nat → Bool} {e0 e : Nat → Int} {r k l : Nat} {more : Int} (hl : l < S) (h : eI S t A e0 r k l e more) (hn : A k l = true → e l + t l ≤ e k) : eI S t A e0 r k (l + 1) e more := by
  obtain ⟨h1, h2, h3, h4⟩ := h
  refine ⟨fun j hj => by have := h1 j hj; omega, h2, fun z => ⟨(h3 z).1, fun l' hl' ha => ?_⟩, fun b hb => ?_⟩
  · by_cases q : l' = l
    · subst q; exact hn ha
    · exact (h3 z).2 l' (by omega) ha
  · obtain ⟨b1, b2, b3, b4, b5⟩ := h4 b hb
    refine ⟨b1, b2, b3, fun hk hr l' hl' ha => ?_, b5⟩
    by_cases q : l' = l
    · subst q; exact hn ha
    · exact b4 hk hr l' (by omega) ha
theorem eI_y {S : Nat} {t : Nat → Int} {A : Nat → Nat → Bool} {e0 e : Nat → Int} {r k l : Nat} {more : Int} (ht : ∀ k, k < S → 1 ≤ t k ∧ t k ≤ 20099) (h0 : ∀ b, solA S t A b → ∀ j, j < S → rkB S b j < r → tght S t A e0 j) (hk : k < S) (hl : l < S) (h : eI S t A e0 r k l e more) (ha : A k l = true) (hy : e k < e l + t l) : eI S t A e0 r k (l + 1) (vUpd e k (e l + t l)) 1 := by
  obtain ⟨h1, h2, h3, h4⟩ := h
  have hl1 := h1 l hl
  have tl := ht l hl
  refine ⟨fun j hj => ?_, Or.inr rfl, fun z => by omega, fun b hb => ?_⟩
  · unfold vUpd
    have := h1 j hj
    split <;> omega
  · obtain ⟨b1, b2, b3, b4, b5⟩ := h4 b hb
    have lt := rk_lt (fun k hk => (ht k hk).1) hb hk hl ha
    have rk : r ≤ rkB S b k := by
      by_cases q : r ≤ rkB S b k
      · exact q
      · exfalso
        have e1 := b2 k hk (by omega)
        have e2 := b2 l hl (by omega)
        have e3 := h0 b hb k hk (by omega) l hl ha
        omega
    have kne : ∀ m, m < S → rkB S b m < r → m ≠ k := fun m _ hm e => by subst e; omega
    refine ⟨fun j hj => ?_, fun j hj hr => ?_, fun j hj hjk hr m hm hma => ?_, fun _ hr l' hl' hla => ?_, fun _ => ?_⟩
    · unfold vUpd
      by_cases q : j = k
      · rw [if_pos q, q]
        have := hb.2 k l hk hl ha
        have := b1 l hl
        omega
      · rw [if_neg q]
        exact b1 j hj
    · unfold vUpd
      rw [if_neg (kne j hj hr)]
      exact b2 j hj hr
    · have lm := rk_lt (fun k hk => (ht k hk).1) hb hj hm hma
      unfold vUpd
      rw [if_neg (kne m hm (by omega)), if_neg (by omega)]
      exact b3 j hj hjk hr m hm hma
    · have hl'S : l' < S := by omega
      have lm := rk_lt (fun k hk => (ht k hk).1) hb hk hl'S hla
      unfold vUpd
      rw [if_neg (kne l' hl'S (by omega)), if_pos rfl]
      by_cases q : l' = l
      · subst q; omega
      · have := b4 hk hr l' (by omega) hla
        omega
    · have := rkN_bd (b := b) (k := k) S hk
      unfold rkB at rk
      omega
theorem eI_k {S : Nat} {t : Nat → Int} {A : Nat → Nat → Bool} {e0 e : Nat → Int} {r k : Nat} {more : Int} (hS : S ≤ 7) (hk : k < S) (h : eI S t A e0 r k S e more) : eI S t A e0 r (k + 1) 0 e more := by
  obtain ⟨h1, h2, h3, h4⟩ := h
  refine ⟨fun j hj => by have := h1 j hj; omega, h2, fun z => ⟨fun j hj hjS => ?_, fun l' hl' => by omega⟩, fun b hb => ?_⟩
  · by_cases q : j = k
    · subst q
      exact fun l hl ha => (h3 z).2 l hl ha
    · exact (h3 z).1 j (by omega) hjS
  · obtain ⟨b1, b2, b3, b4, b5⟩ := h4 b hb
    refine ⟨b1, b2, fun j hj hjk hr => ?_, fun _ _ l' hl' => by omega, b5⟩
    by_cases q : j = k
    · subst q
      exact fun l hl ha => b4 hj hr l hl ha
    · exact b3 j hj (by omega) hr
/-- ahead of a round -/
def eR (S : Nat) (t : Nat → Int) (A : Nat → Nat → Bool) (r : Nat) (e : Nat → Int) (more : Int) : Prop := (∀ j, j < S → 0 ≤ e j ∧ e j ≤ 20099 * (((49 * r : Nat)) : Int)) ∧ (more = 0 ∨ more = 1) ∧ (more = 0 → ∀ j, j < S → tght S t A e j) ∧ (∀ b, solA S t A b → (∀ j, j < S → e j ≤ b j) ∧ (∀ j, j < S → rkB S b j < r → tght S t A e j) ∧ (more = 1 → r ≤ S))
theorem eR_I {S : Nat} {t : Nat → Int} {A : Nat → Nat → Bool} {e : Nat → Int} {r : Nat} {more : Int} (h : eR S t A r e more) : eI S t A e r 0 0 e 0 := by
  obtain ⟨h1, h2, h3, h4⟩ := h
  refine ⟨fun j hj => by have := h1 j hj; omega, Or.inl rfl, fun _ => ⟨fun j hj => by omega, fun l' hl' => by omega⟩, fun b hb => ?_⟩
  obtain ⟨b1, b2, b3⟩ := h4 b hb
  exact ⟨b1, fun _ _ _ => rfl, fun j _ hj => by omega, fun _ _ l' hl' => by omega, fun z => by omega⟩
theorem eI_R {S : Nat} {t : Nat → Int} {A : Nat → Nat → Bool} {e0 e : Nat → Int} {r : Nat} {more : Int} (hS : S ≤ 7) (h : eI S t A e0 r S 0 e more) : eR S t A (r + 1) e more := by
  obtain ⟨h1, h2, h3, h4⟩ := h
  refine ⟨fun j hj => by have := h1 j hj; omega, h2, fun z j hj => (h3 z).1 j hj hj, fun b hb => ?_⟩
  obtain ⟨b1, b2, b3, b4, b5⟩ := h4 b hb
  exact ⟨b1, fun j hj hr => b3 j hj hj (by omega), fun z => by have := b5 z; omega⟩
theorem eR_0 (S : Nat) (t : Nat → Int) (A : Nat → Nat → Bool) {e : Nat → Int} (h : ∀ j, j < S → e j = 0) : eR S t A 0 e 1 := by
  refine ⟨fun j hj => by rw [h j hj]; omega, Or.inr rfl, fun z => by omega, fun b hb => ⟨fun j hj => by rw [h j hj]; exact hb.1 j hj, fun j _ hj => by omega, fun _ => by omega⟩⟩
