/-! the class' plan: putting in -/
def ndI (S : Nat) (t : Nat → Int) (W F : Nat → Nat → Bool) (Q : Int) (dp : Nat) (la lat : Int) (tr r : Nat → Int) : Prop :=
  (0 ≤ Q ∧ Q < 128) ∧ (∀ j, bt Q j = true → j < S) ∧ vSm (fun j => if bt Q j = true then 1 else 0) S = (dp : Int) ∧ (0 ≤ lat ∧ lat ≤ 20099 * (dp : Int)) ∧ (∀ j, j < S → bt Q j = true → 0 ≤ tr j ∧ tr j + t j ≤ lat) ∧ (lat = 0 ∨ ∃ j, j < S ∧ bt Q j = true ∧ lat = tr j + t j) ∧ (∀ j k, j < S → k < S → bt Q j = true → bt Q k = true → W k j = true → tr j + t j ≤ tr k) ∧ (∀ j k, j < S → k < S → bt Q j = true → bt Q k = true → j ≠ k → F j k = true → tr j + t j ≤ tr k ∨ tr k + t k ≤ tr j) ∧ rdy S t W F (bt Q) tr r ∧ ((la = -1 ∧ ∀ j, j < S → bt Q j = false) ∨ ∃ l : Nat, l < S ∧ la = (l : Int) ∧ bt Q l = true ∧ ∀ j, j < S → bt Q j = true → tr j < tr l ∨ (tr j = tr l ∧ j ≤ l))
theorem rdy_lat {S : Nat} {t : Nat → Int} {W F : Nat → Nat → Bool} {Q : Int} {dp : Nat} {la lat : Int} {tr r : Nat → Int} (h : ndI S t W F Q dp la lat tr r) {k : Nat} (hk : k < S) : 0 ≤ r k ∧ r k ≤ lat := by
  obtain ⟨-, -, -, h4, h5, -, -, -, h9, -⟩ := h
  obtain ⟨r1, -, r3⟩ := h9 k hk
  refine ⟨r1, ?_⟩
  rcases r3 with r3 | ⟨j, j1, j2, -, j4⟩
  · omega
  · have := h5 j j1 j2
    omega
theorem ndI_step {S : Nat} {t : Nat → Int} {W F : Nat → Nat → Bool} {Q : Int} {dp : Nat} {la lat : Int} {tr r r' : Nat → Int} (hS : S ≤ 7) (ht : ∀ k, k < S → 1 ≤ t k ∧ t k ≤ 20099) (hWl : ∀ k j, k < S → W k j = true → j < k) (hir : ∀ k, k < S → F k k = false) (hsy : ∀ j k, j < S → k < S → F j k = F k j) (h : ndI S t W F Q dp la lat tr r) {k : Nat} (hk : k < S) (hx : bt Q k = false) (hw : ∀ j, j < S → W k j = true → bt Q j = true) (hla : ∀ l : Nat, la = (l : Int) → tr l < r k ∨ (tr l = r k ∧ l ≤ k)) (hcl : ∀ i j, i < S → bt Q i = true → W i j = true → bt Q j = true) (hr : ∀ j, j < S → r' j = if F k j = true ∨ W j k = true then max (r j) (r k + t k) else r j) : ndI S t W F (por Q (pshl 1 (k : Int))) (dp + 1) (k : Int) (max lat (r k + t k)) (vUpd tr k (r k)) r' ∧ (∀ i j, i < S → bt (por Q (pshl 1 (k : Int))) i = true → W i j = true → bt (por Q (pshl 1 (k : Int))) j = true) := by
  have rl := rdy_lat h hk
  obtain ⟨⟨h1, h1'⟩, h2, h3, h4, h5, h6, h7, h8, h9, h10⟩ := h
  obtain ⟨p1, p2, p3, p4⟩ := por_set (a := Q) (k := k) h1 (by omega) (by omega)
  have p5 := p4 7 (by omega) (by omega) (by omega)
  have tk := ht k hk
  have vk : vUpd tr k (r k) k = r k := if_pos rfl
  have vo : ∀ j, j ≠ k → vUpd tr k (r k) j = tr j := fun j hj => if_neg hj
  have bk : ∀ j, bt (por Q (pshl 1 (k : Int))) j = true ↔ bt Q j = true ∨ j = k := fun j => by rw [p3, Bool.or_eq_true, decide_eq_true_iff]
  have ne : ∀ j, bt Q j = true → j ≠ k := fun j hj e => by rw [e, hx] at hj; exact absurd hj (by decide)
  obtain ⟨rk1, rk2, -⟩ := h9 k hk
  refine ⟨⟨⟨p1, by omega⟩, fun j hj => ?_, ?_, by omega, fun j hj hq => ?_, ?_, fun i j hi hj hqi hqj hw' => ?_, fun i j hi hj hqi hqj hne hf => ?_, fun m hm => ?_, Or.inr ⟨k, hk, rfl, (bk k).mpr (Or.inr rfl), fun j hj hq => ?_⟩⟩, fun i j hi hq hw' => ?_⟩
  · rcases (bk j).mp hj with q | q
    · exact h2 j q
    · omega
  · have e1 := rem_s (X := fun j => bt (por Q (pshl 1 (k : Int))) j) (t := fun _ => 1) hk ((bk k).mpr (Or.inr rfl))
    have e2 : vSm (fun j => if (bt (por Q (pshl 1 (k : Int))) j && decide (j ≠ k)) = true then (1 : Int) else 0) S = vSm (fun j => if bt Q j = true then 1 else 0) S := by
      refine vSm_c S (fun j hj => ?_)
      rw [p3]
      by_cases e : j = k
      · subst e; simp [hx]
      · simp [e]
    rw [e2, h3] at e1
    rw [e1]
    omega
  · rcases (bk j).mp hq with q | q
    · rw [vo j (ne j q)]
      have := h5 j hj q
      omega
    · rw [q, vk]; omega
  · by_cases q : lat ≤ r k + t k
    · exact Or.inr ⟨k, hk, (bk k).mpr (Or.inr rfl), by rw [vk]; omega⟩
    · rcases h6 with h6 | ⟨j, j1, j2, j3⟩
      · omega
      · exact Or.inr ⟨j, j1, (bk j).mpr (Or.inl j2), by rw [vo j (ne j j2)]; omega⟩
  · rcases (bk i).mp hqi with qi | qi
    · rcases (bk j).mp hqj with qj | qj
      · rw [vo i (ne i qi), vo j (ne j qj)]
        exact h7 i j hi hj qi qj hw'
      · subst qj
        rw [vo i (ne i qi), vk]
        exact rk2 i hi qi (Or.inr hw')
    · subst qi
      rcases (bk j).mp hqj with qj | qj
      · have := hcl j i hj qj hw'
        rw [hx] at this
        exact absurd this (by decide)
      · subst qj
        have := hWl j j hj hw'
        omega
  · rcases (bk i).mp hqi with qi | qi
    · rcases (bk j).mp hqj with qj | qj
      · rw [vo i (ne i qi), vo j (ne j qj)]
        exact h8 i j hi hj qi qj hne hf
      · subst qj
        rw [vo i (ne i qi), vk]
        exact Or.inl (rk2 i hi qi (Or.inl hf))
    · subst qi
      rcases (bk j).mp hqj with qj | qj
      · rw [vk, vo j (ne j qj)]
        exact Or.inr (rk2 j hj qj (Or.inl (by rw [hsy j i hj hi]; exact hf)))
      · omega
  · obtain ⟨m1, m2, m3⟩ := h9 m hm
    rw [hr m hm]
    have up : r m ≤ (if F k m = true ∨ W m k = true then max (r m) (r k + t k) else r m) := by split <;> omega
    refine ⟨by omega, fun j hj hq hor => ?_, ?_⟩
    · rcases (bk j).mp hq with q | q
      · rw [vo j (ne j q)]
        have := m2 j hj q hor
        omega
      · subst q
        rw [vk, if_pos hor]
        omega
    · by_cases c : F k m = true ∨ W m k = true
      · rw [if_pos c]
        by_cases q : r m ≤ r k + t k
        · exact Or.inr ⟨k, hk, (bk k).mpr (Or.inr rfl), c, by rw [vk]; omega⟩
        · rcases m3 with m3 | ⟨j, j1, j2, j3, j4⟩
          · omega
          · exact Or.inr ⟨j, j1, (bk j).mpr (Or.inl j2), j3, by rw [vo j (ne j j2)]; omega⟩
      · rw [if_neg c]
        rcases m3 with m3 | ⟨j, j1, j2, j3, j4⟩
        · exact Or.inl m3
        · exact Or.inr ⟨j, j1, (bk j).mpr (Or.inl j2), j3, by rw [vo j (ne j j2)]; exact j4⟩
  · rcases (bk j).mp hq with q | q
    · rw [vo j (ne j q), vk]
      rcases h10 with ⟨-, no⟩ | ⟨l, l1, l2, l3, l4⟩
      · rw [no j hj] at q; exact absurd q (by decide)
      · have a := l4 j hj q
        have b := hla l l2
        have c := ne l l3
        omega
    · rw [q]; exact Or.inr ⟨rfl, Nat.le_refl _⟩
  · rcases (bk i).mp hq with q | q
    · exact (bk j).mpr (Or.inl (hcl i j hi q hw'))
    · subst q
      exact (bk j).mpr (Or.inl (hw j (by have := hWl i j hi hw'; omega) hw'))
theorem pfx_step {S : Nat} {Q : Int} {tr b : Nat → Int} {k : Nat} (hQ : 0 ≤ Q) (hQ2 : Q < 128) (hk7 : k < 7) (h : pfx S (bt Q) tr b) (hx : bt Q k = false) (hm : ∀ j, j < S → bt Q j = false → b k < b j ∨ (b k = b j ∧ k ≤ j)) {v : Int} (hv : v = b k) : pfx S (bt (por Q (pshl 1 (k : Int)))) (vUpd tr k v) b := by
  obtain ⟨p1, p2, p3, p4⟩ := por_set (a := Q) (k := k) hQ (by omega) (by omega)
  refine ⟨fun j hj hq => ?_, fun i j hi hj hqi hqj => ?_⟩
  · rw [p3, Bool.or_eq_true, decide_eq_true_iff] at hq
    unfold vUpd
    by_cases e : j = k
    · rw [if_pos e, e]; exact hv
    · rw [if_neg e]
      rcases hq with q | q
      · exact h.1 j hj q
      · exact absurd q e
  · rw [p3, Bool.or_eq_true, decide_eq_true_iff] at hqi
    rw [p3, Bool.or_eq_false_iff, decide_eq_false_iff_not] at hqj
    rcases hqi with q | q
    · exact h.2 i j hi hj q hqj.1
    · rw [q]
      have := hm j hj hqj.1
      omega
theorem cnt_all {X : Nat → Bool} : ∀ S : Nat, vSm (fun j => if X j = true then 1 else 0) S = (S : Int) → ∀ j, j < S → X j = true
  | 0, _, j, hj => by omega
  | S + 1, h, j, hj => by
    have b : vSm (fun j => if X j = true then (1 : Int) else 0) S ≤ (S : Int) * 1 := (vSm_bd (by omega) S (fun i _ => by split <;> omega)).2
    have h : vSm (fun j => if X j = true then (1 : Int) else 0) S + (if X S = true then 1 else 0) = ((S + 1 : Nat) : Int) := h
    by_cases q : X S = true
    · rw [if_pos q] at h
      by_cases e : j = S
      · rw [e]; exact q
      · exact cnt_all (X := X) S (by omega) j (by omega)
    · rw [if_neg q] at h
      omega
theorem cnt_some {X : Nat → Bool} : ∀ S : Nat, vSm (fun j => if X j = true then 1 else 0) S < (S : Int) → ∃ j, j < S ∧ X j = false
  | 0, h => by exact absurd h (by show ¬ ((0 : Int) < 0); omega)
  | S + 1, h => by
    have h : vSm (fun j => if X j = true then (1 : Int) else 0) S + (if X S = true then 1 else 0) < ((S + 1 : Nat) : Int) := h
    by_cases q : X S = true
    · rw [if_pos q] at h
      obtain ⟨j, j1, j2⟩ := cnt_some (X := X) S (by omega)
      exact ⟨j, by omega, j2⟩
    · exact ⟨S, by omega, Bool.eq_false_iff.mpr q⟩
def sW8 : List Nat := [22, 23, 28, 29, 31, 32, 33, 34, 35, 36, 37, 38]
def zok (S : Nat) (t : Nat → Int) (W F : Nat → Nat → Bool) (G : pG) : Prop := G 22 3 = 0 ∨ (G 22 3 = 1 ∧ plF S t W F (G 23) ∧ G 22 2 = plL S t (G 23))
def zPost (S : Nat) (t : Nat → Int) (W F : Nat → Nat → Bool) (G : pG) (dp : Nat) (Q : Int) (G' : pG) : Prop := fr sW8 [] G G' ∧ (∀ e, e ≤ dp → G' (31 + e) = G (31 + e)) ∧ (∀ j, bt Q j = true → G' 28 j = G 28 j) ∧ zok S t W F G' ∧ (G 22 3 ≠ 0 → G' 22 3 = 1 ∧ plLe S (G' 22 2) (G' 23) (G 22 2) (G 23)) ∧ (∀ b l, bst S t W F l b → pfx S (bt Q) (G 28) b → G' 22 3 = 1 ∧ plLe S (G' 22 2) (G' 23) l b)
theorem sW8_m {e : Nat} (h : e < 8) : 31 + e ∈ sW8 := by
  have : ∀ e : Nat, e < 8 → 31 + e ∈ sW8 := by decide
  exact this e h
