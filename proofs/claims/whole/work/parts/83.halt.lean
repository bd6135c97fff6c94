/-! when to stop -/
theorem dlO_b {q s i : Int} (h1 : 0 ≤ q) (h2 : q ≤ 29) (h3 : 0 ≤ i) (h4 : i ≤ 39) : 0 ≤ dlO q s i ∧ dlO q s i ≤ 31 := by
  unfold dlO dBy
  split
  · by_cases q0 : q = 0
    · rw [if_pos q0]; omega
    · rw [if_neg q0]
      have := dl_e (q := q) (i := i) (by omega) (by omega) h3 h4
      omega
  · omega
def bkHi (G : pG) (b : vBk) (i : Int) (s : Nat) : Int := (b.1 * i).tdiv 5 + dlO b.2.1 (s : Int) i + (if G 115 s = b.2.2.1 ∧ b.2.2.2.1 ≤ i then b.2.2.2.2.2.2 else 0)
def bkLo (G : pG) (b : vBk) (i : Int) (s : Nat) : Int := (b.1 * i).tdiv 5 + dlO b.2.1 (s : Int) i + (if G 115 s = b.2.2.1 ∧ b.2.2.2.2.1 ≤ i then b.2.2.2.2.2.1 else 0)
def bey (G : pG) (b : vBk) (i L : Int) (s : Nat) : Bool := decide (L < bkHi G b i s ∨ bkLo G b i s < -L)
theorem s30 {d : Nat} {G : pG} {b : vBk} {j : Nat} {i L : Int} (hP : rPart G) (hj : j < 1015) (c1 : G 93 j = b.1) (c2 : G 94 j = b.2.1) (c3 : G 95 j = b.2.2.1) (c4 : G 96 j = b.2.2.2.1) (c5 : G 97 j = b.2.2.2.2.1) (c6 : G 98 j = b.2.2.2.2.2.1) (c7 : G 99 j = b.2.2.2.2.2.2) (ok : okB G b) (h3 : 0 ≤ i) (h4 : i ≤ 39) (hL : 0 ≤ L) (hL2 : L ≤ 99) (hd : 2 ≤ d) : pRuns pMT d 30 [pR 92, pI (j : Int), pI i, pI L] Yc G (some (pI (b2i (oB (bey G b i L) (G 109 11).toNat = true)))) G := by
  have n1 := hP.n1
  have n0 := hP.n0
  have w4 := (cDw_bd hP).2
  obtain ⟨o1, o2, o3, o4, o5⟩ := ok
  have hb := heat_e o1 o2 h3 h4
  refine pRuns.of rfl rfl (v30_0 ⟨by omega, by omega, ?_⟩)
  rw [Int.toNat_natCast, c1]
  refine pC1.of (by omega) (s2 o1 o2 h3 h4) ?_
  suffices H : ∀ (m s : Nat), s + m = (G 109 11).toNat → oB (bey G b i L) s = false → pEnds pMT d 30 Yc (fun r' g => r' = some (pI (b2i (oB (bey G b i L) (G 109 11).toNat = true))) ∧ g = G) 15 [pR 92, pI (j : Int), pI i, pI L, pI ((b.1 * i).tdiv 5), pI (s : Int), pU, pU] [] G by
    rintro _ rfl _ rfl
    exact H (G 109 11).toNat 0 (by omega) rfl
  intro m
  induction m with
  | zero =>
    intro s hs ho
    obtain rfl : s = (G 109 11).toNat := by omega
    refine v30_15 ⟨fun _ => ⟨Or.inl rfl, by rw [ho]; rfl, rfl⟩, fun z => by rw [hP.steps] at z; omega⟩
  | succ m ih =>
    intro s hs ho
    have hs2 : (s : Int) < G 109 11 := by omega
    have st := hP.step s hs2
    have db := dlO_b (q := b.2.1) (s := (s : Int)) (i := i) o3 (by omega) h3 h4
    refine v30_15 ⟨fun z => by rw [hP.steps] at z; omega, fun _ => ⟨by omega, by omega, ?_⟩⟩
    rw [Int.toNat_natCast, Int.toNat_natCast, c2]
    refine pC1.of (by omega) (s3 o3 (by omega) h3 h4 (by omega)) ?_
    have one : bey G b i L s = true → b2i (oB (bey G b i L) (G 109 11).toNat = true) = 1 := fun z => b2i_t ((oB_iff _ _).mpr ⟨s, by omega, z⟩)
    have fin : ∀ x7 x6 : Int, x7 = bkHi G b i s → x6 = bkLo G b i s → ((L < x7 → (((1 : Int) = 0 ∨ (1 : Int) = 1) ∧ ((some (pI 1) : Option pV) = some (pI (b2i (oB (bey G b i L) (G 109 11).toNat = true))) ∧ G = G))) ∧ (x7 ≤ L → ((w32 (-L) ≤ x6 → ∀ x5_2 : Int, x5_2 = w32 ((s : Int) + 1) → pEnds pMT d 30 Yc (fun r' g => r' = some (pI (b2i (oB (bey G b i L) (G 109 11).toNat = true))) ∧ g = G) 15 [pR 92, pI (j : Int), pI i, pI L, pI ((b.1 * i).tdiv 5), pI x5_2, pU, pU] [] G) ∧ (x6 < w32 (-L) → (((1 : Int) = 0 ∨ (1 : Int) = 1) ∧ ((some (pI 1) : Option pV) = some (pI (b2i (oB (bey G b i L) (G 109 11).toNat = true))) ∧ G = G)))))) := by
      intro x7 x6 e7 e6
      rw [w32_id (x := -L) (by omega) (by omega), w32_id (x := (s : Int) + 1) (by omega) (by omega)]
      refine ⟨fun z => ⟨Or.inr rfl, by rw [one (decide_eq_true (Or.inl (by omega)))], rfl⟩, fun z => ⟨fun y => ?_, fun y => ⟨Or.inr rfl, by rw [one (decide_eq_true (Or.inr (by omega)))], rfl⟩⟩⟩
      rintro _ rfl
      refine ih (s + 1) (by omega) ?_
      show (oB (bey G b i L) s || bey G b i L s) = false
      rw [ho, Bool.false_or]
      exact decide_eq_false (by omega)
    have eHi : (b.1 * i).tdiv 5 + dlO b.2.1 (s : Int) i + (if G 115 s = b.2.2.1 ∧ b.2.2.2.1 ≤ i then b.2.2.2.2.2.2 else 0) = bkHi G b i s := rfl
    have eLo : (b.1 * i).tdiv 5 + dlO b.2.1 (s : Int) i + (if G 115 s = b.2.2.1 ∧ b.2.2.2.2.1 ≤ i then b.2.2.2.2.2.1 else 0) = bkLo G b i s := rfl
    rw [w32_id (x := (b.1 * i).tdiv 5 + dlO b.2.1 (s : Int) i) (by omega) (by omega)]
    intro x6 hx6 x7 hx7
    rw [c3, c4, c5, c6, c7, st.1]
    refine ⟨by omega, by omega, by omega, by omega, fun z => ?_, fun z => ?_⟩
    · rw [if_neg (fun w => z w.1)] at eHi eLo
      exact fin x7 x6 (by omega) (by omega)
    · refine ⟨by omega, by omega, fun z2 => ?_, fun z2 => ⟨by omega, by omega, ?_⟩⟩
      · rw [if_neg (fun w => by omega)] at eHi
        rw [w32_id (by omega) (by omega)]
        intro x7_2 hx72
        refine ⟨by omega, by omega, fun z3 => ?_, fun z3 => ⟨by omega, by omega, ?_⟩⟩
        · rw [if_neg (fun w => by omega)] at eLo
          rw [w32_id (by omega) (by omega)]
          intro x6_2 hx62
          exact fin _ _ (by omega) (by omega)
        · rw [if_pos ⟨z, z3⟩] at eLo
          rw [w32_id (by omega) (by omega)]
          intro x6_2 hx62
          exact fin _ _ (by omega) (by omega)
      · rw [if_pos ⟨z, z2⟩] at eHi
        rw [w32_id (by omega) (by omega)]
        intro x7_2 hx72
        refine ⟨by omega, by omega, fun z3 => ?_, fun z3 => ⟨by omega, by omega, ?_⟩⟩
        · rw [if_neg (fun w => by omega)] at eLo
          rw [w32_id (by omega) (by omega)]
          intro x6_2 hx62
          exact fin _ _ (by omega) (by omega)
        · rw [if_pos ⟨z, z3⟩] at eLo
          rw [w32_id (by omega) (by omega)]
          intro x6_2 hx62
          exact fin _ _ (by omega) (by omega)
/-- what can't be beyond at the last part is never -/
theorem s29 {d : Nat} {G : pG} {b : vBk} {j : Nat} {L : Int} (hP : rPart G) (hj : j < 1015) (c1 : G 93 j = b.1) (c2 : G 94 j = b.2.1) (c7 : G 99 j = b.2.2.2.2.2.2) (ok : okB G b) (hL : 0 ≤ L) (hL2 : L ≤ 99) (hd : 2 ≤ d) : ∃ r : Int, pRuns pMT d 29 [pR 92, pI (j : Int), pI L] Yc G (some (pI r)) G ∧ (r = 0 → ∀ i : Int, 0 ≤ i → i ≤ 39 → ∀ s : Nat, bey G b i L s = false) := by
  have w4 := (cDw_bd hP).2
  obtain ⟨o1, o2, o3, o4, o5⟩ := ok
  have hb := heat_e (i := 39) o1 o2 (by omega) (by omega)
  have b1 : 0 ≤ b.2.2.2.2.2.2 ∧ b.2.2.2.2.2.2 ≤ 5 ∧ 0 ≤ b.2.2.2.2.2.1 := by omega
  have never : ∀ D : Int, (∀ i : Int, 0 ≤ i → i ≤ 39 → ∀ s : Int, dlO b.2.1 s i ≤ D) → max 0 ((b.1 * 39).tdiv 5) + D + b.2.2.2.2.2.2 ≤ L → -((b.1 * 39).tdiv 5) ≤ L → ∀ i : Int, 0 ≤ i → i ≤ 39 → ∀ s : Nat, bey G b i L s = false := by
    intro D hD h1 h2 i i0 i1 s
    have d1 := hD i i0 i1 (s : Int)
    have d2 := dlO_b (q := b.2.1) (s := (s : Int)) (i := i) o3 (by omega) i0 i1
    have m : (b.1 * i).tdiv 5 ≤ max 0 ((b.1 * 39).tdiv 5) ∧ min 0 ((b.1 * 39).tdiv 5) ≤ (b.1 * i).tdiv 5 := by
      have t1 := td5 (b.1 * i)
      have t2 := td5 (b.1 * 39)
      have hh : b.1 = -2 ∨ b.1 = -1 ∨ b.1 = 0 ∨ b.1 = 1 ∨ b.1 = 2 := by omega
      rcases hh with h | h | h | h | h <;> rw [h] at t1 t2 ⊢ <;> omega
    refine decide_eq_false ?_
    unfold bkHi bkLo
    split <;> split <;> omega
  suffices H : pEnds pMT d 29 Yc (fun r' g => ∃ v : Int, r' = some (pI v) ∧ (g = G ∧ (v = 0 → ∀ i : Int, 0 ≤ i → i ≤ 39 → ∀ s : Nat, bey G b i L s = false))) 0 [pR 92, pI (j : Int), pI L, pU, pU] [] G by
    obtain ⟨v, G', r1, r2, r3⟩ : ∃ v G', pRuns pMT d 29 [pR 92, pI (j : Int), pI L] Yc G (some (pI v)) G' ∧ (G' = G ∧ (v = 0 → ∀ i : Int, 0 ≤ i → i ≤ 39 → ∀ s : Nat, bey G b i L s = false)) := pX1 rfl rfl H
    rw [r2] at r1
    exact ⟨v, r1, r3⟩
  refine v29_0 ⟨by omega, by omega, ?_⟩
  rw [Int.toNat_natCast, c1]
  refine pC1.of (by omega) (s2 o1 o2 (by omega) (by omega)) ?_
  rw [c2, c7]
  intro x3 hx3
  rw [pmx_eq, w32_id (x := -x3) (by omega) (by omega)]
  have fin : ∀ x4 : Int, 0 ≤ x4 → x4 ≤ 31 → (∀ i : Int, 0 ≤ i → i ≤ 39 → ∀ s : Int, dlO b.2.1 s i ≤ x4) → ((L < w32 (w32 (max 0 x3 + x4) + b.2.2.2.2.2.2) → (((1 : Int) = 0 ∨ (1 : Int) = 1) ∧ ∃ v : Int, (some (pI 1) : Option pV) = some (pI v) ∧ (G = G ∧ (v = 0 → ∀ i : Int, 0 ≤ i → i ≤ 39 → ∀ s : Nat, bey G b i L s = false)))) ∧ (w32 (w32 (max 0 x3 + x4) + b.2.2.2.2.2.2) ≤ L → ((-x3 ≤ L → (((0 : Int) = 0 ∨ (0 : Int) = 1) ∧ ∃ v : Int, (some (pI 0) : Option pV) = some (pI v) ∧ (G = G ∧ (v = 0 → ∀ i : Int, 0 ≤ i → i ≤ 39 → ∀ s : Nat, bey G b i L s = false)))) ∧ (L < -x3 → (((1 : Int) = 0 ∨ (1 : Int) = 1) ∧ ∃ v : Int, (some (pI 1) : Option pV) = some (pI v) ∧ (G = G ∧ (v = 0 → ∀ i : Int, 0 ≤ i → i ≤ 39 → ∀ s : Nat, bey G b i L s = false))))))) := by
    intro x4 x40 x41 hD
    rw [w32_id (x := max 0 x3 + x4) (by omega) (by omega), w32_id (by omega) (by omega)]
    exact ⟨fun _ => ⟨Or.inr rfl, 1, rfl, rfl, fun z => by omega⟩, fun z => ⟨fun y => ⟨Or.inl rfl, 0, rfl, rfl, fun _ => never x4 hD (by rw [← hx3]; exact z) (by rw [← hx3]; exact y)⟩, fun _ => ⟨Or.inr rfl, 1, rfl, rfl, fun z => by omega⟩⟩⟩
  refine ⟨by omega, by omega, fun z => ⟨by omega, by omega, by omega, by omega, ?_⟩, fun z => ?_⟩
  · rw [(r1_e (m := 4) (q := b.2.1) (by omega) (by omega) (by omega) (by omega)).2, w32_id (x := (b.2.1 - 1) % 4 + 1) (by omega) (by omega), (dl_e (q := b.2.1) (i := 39) (by omega) (by omega) (by omega) (by omega)).1]
    intro x4 hx4
    refine ⟨by omega, by omega, fin x4 (by omega) (by omega) (fun i i0 i1 s => ?_)⟩
    unfold dlO dBy
    split
    · rw [hx4]
      have hh : (b.2.1 - 1) % 4 + 1 = 1 ∨ (b.2.1 - 1) % 4 + 1 = 2 ∨ (b.2.1 - 1) % 4 + 1 = 3 ∨ (b.2.1 - 1) % 4 + 1 = 4 := by omega
      rcases hh with h | h | h | h <;> rw [h] <;> omega
    · omega
  · intro x4 hx4
    refine ⟨by omega, by omega, fin x4 (by omega) (by omega) (fun i i0 i1 s => ?_)⟩
    unfold dlO dBy
    rw [if_pos z, Int.zero_mul]
    split <;> omega
/-- some block goes beyond -/
def anyB (G : pG) (L : Int) (l : List vBk) (i : Nat) : Bool := l.any (fun b => oB (bey G b (i : Int) L) (G 109 11).toNat)
theorem anyB_s {G : pG} {L : Int} {l : List vBk} {j : Nat} {b : vBk} (h : l[j]? = some b) (i : Nat) : anyB G L (l.take (j + 1)) i = (anyB G L (l.take j) i || oB (bey G b (i : Int) L) (G 109 11).toNat) := by
  unfold anyB
  rw [take_s h, List.any_append]
  simp
theorem lf_un {f : Nat → Bool} {N x : Nat} (hx : x ≤ N) (h1 : ∀ i, i < x → f i = false) (h2 : x < N → f x = true) : lf f N = if x < N then (x : Int) else -1 := by
  rcases lf_pr f N with ⟨e, h⟩ | ⟨n, n1, n2, n3, n4⟩
  · rw [e]
    by_cases q : x < N
    · have := h x q; rw [h2 q] at this; exact absurd this (by decide)
    · rw [if_neg q]
  · rw [n2]
    have : ¬ n < x := fun q => by have := h1 n q; rw [n3] at this; exact absurd this (by decide)
    have q : x < N := by omega
    rw [if_pos q]
    have : ¬ x < n := fun w => by have := n4 x w; rw [h2 q] at this; exact absurd this (by decide)
    omega
theorem s28 {d : Nat} {G : pG} {l : List vBk} {L : Int} (hP : rPart G) (h : bkM G l) (hl : l.length ≤ 1015) (hL : 0 ≤ L) (hL2 : L ≤ 99) (hd : 3 ≤ d) : pRuns pMT d 28 [pR 92, pI L] Yc G (some (pI (lf (anyB G L l) 40))) G := by
  refine pRuns.of rfl rfl (v28_0 ?_)
  suffices H : ∀ (m j x : Nat), j + m = l.length → x ≤ 40 → (∀ i, i < x → anyB G L (l.take j) i = false) → (x < 40 → anyB G L (l.take j) x = true) → pEnds pMT d 28 Yc (fun r' g => r' = some (pI (lf (anyB G L l) 40)) ∧ g = G) 5 [pR 92, pI L, pI (x : Int), pI (j : Int), pU] [] G by
    rintro _ rfl _ rfl
    exact H l.length 0 40 (by omega) (by omega) (fun i _ => rfl) (fun z => by omega)
  intro m
  induction m with
  | zero =>
    intro j x hj hx h1 h2
    rw [List.take_of_length_le (by omega)] at h1 h2
    have e := lf_un hx h1 h2
    refine v28_5 ⟨fun _ => ⟨fun z => rI (by rw [e, if_neg (by omega)]) rfl, fun z => rI (by rw [e, if_pos (by omega)]) rfl⟩, fun z => by rw [h.1] at z; omega⟩
  | succ m ih =>
    intro j x hj hx h1 h2
    obtain ⟨b, b1, b2, b3, c1, c2, c3, c4, c5, c6, c7⟩ := bkM_at h (i := j) (by omega)
    refine v28_5 ⟨fun z => by rw [h.1] at z; omega, fun _ => ?_⟩
    obtain ⟨r, r1, r2⟩ := s29 (d := d - 1) (j := j) (L := L) hP (by omega) c1 c2 c7 b3 hL hL2 (by omega)
    refine pC1.of (by omega) r1 ⟨fun z => ?_, fun z => ?_⟩
    · suffices IN : ∀ (n k y : Nat), k + n = 41 → y ≤ 40 → (k ≤ y ∨ k = y + 1) → (∀ i, i < y → anyB G L (l.take j) i = false) → (∀ i, i < y → i < k → oB (bey G b (i : Int) L) (G 109 11).toNat = false) → (y < 40 → anyB G L (l.take j) y = true ∨ oB (bey G b (y : Int) L) (G 109 11).toNat = true) → pEnds pMT d 28 Yc (fun r' g => r' = some (pI (lf (anyB G L l) 40)) ∧ g = G) 28 [pR 92, pI L, pI (y : Int), pI (j : Int), pI (k : Int)] [] G by
        rintro _ rfl
        exact IN 41 0 x (by omega) hx (by omega) h1 (fun i _ z => by omega) (fun q => Or.inl (h2 q))
      intro n
      have out : ∀ (k y : Nat), y ≤ k → y ≤ 40 → (∀ i, i < y → anyB G L (l.take j) i = false) → (∀ i, i < y → i < k → oB (bey G b (i : Int) L) (G 109 11).toNat = false) → (y < 40 → anyB G L (l.take j) y = true ∨ oB (bey G b (y : Int) L) (G 109 11).toNat = true) → pEnds pMT d 28 Yc (fun r' g => r' = some (pI (lf (anyB G L l) 40)) ∧ g = G) 28 [pR 92, pI L, pI (y : Int), pI (j : Int), pI (k : Int)] [] G := by
        intro k y hk hy k1 k2 k3
        refine v28_28 ⟨fun _ => ?_, fun q => by omega⟩
        rw [w32_id (by omega) (by omega)]
        rintro _ rfl
        refine ih (j + 1) y (by omega) hy (fun i hi => ?_) (fun q => ?_)
        · rw [anyB_s b2, k1 i hi, k2 i hi (by omega)]; rfl
        · rw [anyB_s b2, Bool.or_eq_true]; exact k3 q
      induction n with
      | zero =>
        intro k y hk hy hky k1 k2 k3
        exact out k y (by omega) hy k1 k2 k3
      | succ n ihn =>
        intro k y hk hy hky k1 k2 k3
        by_cases q : y ≤ k
        · exact out k y q hy k1 k2 k3
        · refine v28_28 ⟨fun w => by omega, fun _ => pC1.of (by omega) (s30 (i := (k : Int)) hP (by omega) c1 c2 c3 c4 c5 c6 c7 b3 (by omega) (by omega) hL hL2 (by omega)) ?_⟩
          rw [w32_id (x := (k : Int) + 1) (by omega) (by omega)]
          refine ⟨fun w => ?_, fun w => ?_⟩
          · have w := b2i_0.mp w
            rintro _ rfl
            refine ihn (k + 1) y (by omega) hy (by omega) k1 (fun i hi hik => ?_) k3
            by_cases e : i = k
            · subst e; exact Bool.eq_false_iff.mpr w
            · exact k2 i hi (by omega)
          · have w := b2i_n0.mp w
            rintro _ rfl _ rfl
            exact ihn (k + 1) k (by omega) (by omega) (by omega) (fun i hi => k1 i (by omega)) (fun i hi _ => k2 i (by omega) (by omega)) (fun _ => Or.inr w)
    · have never := r2 z
      rw [w32_id (by omega) (by omega)]
      rintro _ rfl
      have no : ∀ i : Nat, i < 40 → oB (bey G b (i : Int) L) (G 109 11).toNat = false := fun i hi => Bool.eq_false_iff.mpr (fun w => by
        obtain ⟨s, s1, s2⟩ := (oB_iff _ _).mp w
        rw [never (i : Int) (by omega) (by omega) s] at s2
        exact absurd s2 (by decide))
      refine ih (j + 1) x (by omega) hx (fun i hi => ?_) (fun q => ?_)
      · rw [anyB_s b2, h1 i hi, no i (by omega)]; rfl
      · rw [anyB_s b2, h2 q]; rfl
/-- the reference's way -/
def absB (G : pG) (n : Nat) (L : Int) (i s : Nat) : Bool := decide (L < vTel G (n : Int) (i : Int) s ∨ vTel G (n : Int) (i : Int) s < -L)
def hltB (G : pG) (f : Nat → Bool) (L : Int) (i : Nat) : Bool := oB (fun n => f n && oB (absB G n L i) (G 109 11).toNat) (vCau G).toNat
theorem vTel_b {G : pG} (hP : rPart G) {n i : Int} {s : Nat} (h0 : 0 ≤ n) (h1 : n ≤ vCau G - 1) (h3 : 0 ≤ i) (h4 : i ≤ 39) : -15 ≤ vTel G n i s ∧ vTel G n i s ≤ 60 := by
  obtain ⟨k1, k2, k3, k4, k5, k6⟩ := cau_bd hP h0 h1
  have w4 := (cDw_bd hP).2
  have hb := heat_e k1 k2 h3 h4
  have db := dlO_b (q := vD G n) (s := (s : Int)) (i := i) k5 (by omega) h3 h4
  unfold dlO at db
  unfold vTel vTell
  have wb : 0 ≤ wBy (vW G n) ∧ wBy (vW G n) ≤ 5 := by unfold wBy; split <;> omega
  by_cases q : wTool (vW G n) = G 115 s ∧ wFrom (vW G n) ≤ i
  · rw [if_pos q]; omega
  · rw [if_neg q]; omega
theorem l264 {d : Nat} {G : pG} {f : Nat → Bool} {L : Int} (hP : rPart G) (hM : ftM G f (vCau G).toNat) (hL : 0 ≤ L) (hL2 : L ≤ 99) (hd : 3 ≤ d) : pEnds pMT d 264 Yc (fun r' g => r' = some (pI (lf (hltB G f L) 40)) ∧ g = G) 24 [pR 109, pI L, pU, pI 0, pU, pU] [] G := by
  obtain ⟨c1, c2, c3⟩ := vCau_e hP
  have n1 := hP.n1
  have n0 := hP.n0
  suffices H : ∀ (m i : Nat), i + m = 40 → (∀ k, k < i → hltB G f L k = false) → pEnds pMT d 264 Yc (fun r' g => r' = some (pI (lf (hltB G f L) 40)) ∧ g = G) 24 [pR 109, pI L, pU, pI (i : Int), pU, pU] [] G from H 40 0 rfl (fun k hk => by omega)
  intro m
  induction m with
  | zero =>
    intro i hi h1
    obtain rfl : i = 40 := by omega
    have e := lf_un (Nat.le_refl 40) h1 (fun q => by omega)
    exact v264_24 ⟨fun _ => rI (by rw [e, if_neg (by omega)]) rfl, fun z => by omega⟩
  | succ m ih =>
    intro i hi h1
    refine v264_24 ⟨fun z => by omega, fun _ => ?_⟩
    suffices H2 : ∀ (r n : Nat), n + r = (vCau G).toNat → oB (fun n => f n && oB (absB G n L i) (G 109 11).toNat) n = false → pEnds pMT d 264 Yc (fun r' g => r' = some (pI (lf (hltB G f L) 40)) ∧ g = G) 33 [pR 109, pI L, pU, pI (i : Int), pI (n : Int), pU] [] G by
      rintro _ rfl
      exact H2 (vCau G).toNat 0 (by omega) rfl
    intro r
    induction r with
    | zero =>
      intro n hn ho
      obtain rfl : n = (vCau G).toNat := by omega
      refine v264_33 (pC1.of (by omega) (s246 hP (by omega)) ⟨fun _ => ?_, fun z => by omega⟩)
      rw [w32_id (by omega) (by omega)]
      rintro _ rfl
      refine ih (i + 1) (by omega) (fun k hk => ?_)
      by_cases e : k = i
      · subst e; exact ho
      · exact h1 k (by omega)
    | succ r ihr =>
      intro n hn ho
      have nx : (f n && oB (absB G n L i) (G 109 11).toNat) = false → pEnds pMT d 264 Yc (fun r' g => r' = some (pI (lf (hltB G f L) 40)) ∧ g = G) 33 [pR 109, pI L, pU, pI (i : Int), pI (w32 ((n : Int) + 1)), pU] [] G := by
        intro q
        rw [w32_id (by omega) (by omega)]
        refine ihr (n + 1) (by omega) ?_
        show (oB (fun n => f n && oB (absB G n L i) (G 109 11).toNat) n || (f n && oB (absB G n L i) (G 109 11).toNat)) = false
        rw [ho, q]; rfl
      refine v264_33 (pC1.of (by omega) (s246 hP (by omega)) ⟨fun z => by omega, fun _ => pC1.of (by omega) (s254 hM (by omega) (by omega)) ⟨fun z => ?_, fun z => ?_⟩⟩)
      · have hf := b2i_n0.mp z
        suffices H3 : ∀ (t s : Nat), s + t = (G 109 11).toNat → oB (absB G n L i) s = false → pEnds pMT d 264 Yc (fun r' g => r' = some (pI (lf (hltB G f L) 40)) ∧ g = G) 57 [pR 109, pI L, pU, pI (i : Int), pI (n : Int), pI (s : Int)] [] G by
          rintro _ rfl
          exact H3 (G 109 11).toNat 0 (by omega) rfl
        intro t
        induction t with
        | zero =>
          intro s hs hso
          obtain rfl : s = (G 109 11).toNat := by omega
          refine v264_57 ⟨fun _ => ?_, fun z => by omega⟩
          rintro _ rfl
          exact nx (by rw [hso, Bool.and_false])
        | succ t iht =>
          intro s hs hso
          have vb := vTel_b hP (n := (n : Int)) (i := (i : Int)) (s := s) (by omega) (by omega) (by omega) (by omega)
          refine v264_57 ⟨fun z => by omega, fun _ => pC1.of (by omega) (s250 hP (by omega) (by omega) (by omega) (by omega) (by omega) (by omega)) ?_⟩
          rw [w32_id (x := - vTel G (n : Int) (i : Int) s) (by omega) (by omega)]
          refine ⟨fun q => ?_, fun q => rI ?_ rfl⟩
          · rw [w32_id (by omega) (by omega)]
            rintro _ rfl
            refine iht (s + 1) (by omega) ?_
            show (oB (absB G n L i) s || absB G n L i s) = false
            rw [hso, Bool.false_or]
            refine decide_eq_false ?_
            split at q <;> omega
          · have tr : hltB G f L i = true := (oB_iff _ _).mpr ⟨n, by omega, by
              show (f n && oB (absB G n L i) (G 109 11).toNat) = true
              rw [hf, Bool.true_and]
              refine (oB_iff _ _).mpr ⟨s, by omega, decide_eq_true ?_⟩
              split at q <;> omega⟩
            rw [lf_un (show i ≤ 40 by omega) h1 (fun _ => tr), if_pos (by omega)]
      · have hf := b2i_0.mp z
        rintro _ rfl
        exact nx (by rw [Bool.eq_false_iff.mpr hf]; rfl)
/-- beyond in a block: some cause of it is beyond -/
theorem tell_b {G : pG} {n i : Int} {s : Nat} : vTel G n i s = (vH G n * i).tdiv 5 + (if wTool (vW G n) = G 115 s ∧ wFrom (vW G n) ≤ i then wBy (vW G n) else 0) + dlO (vD G n) (s : Int) i := rfl
theorem any_hlt {G : pG} (hP : rPart G) (hG : rGau G) (K : Int) (hok : ∀ b ∈ vAllG G K, okB G b) (L : Int) : anyB G L (vAllG G K) = hltB G (fN G K) L := by
  funext i
  refine Bool.eq_iff_iff.mpr ?_
  unfold anyB hltB
  rw [List.any_eq_true, oB_iff]
  have n0 := hP.n0
  constructor
  · rintro ⟨b, hb, h⟩
    obtain ⟨s, s1, s2⟩ := (oB_iff _ _).mp h
    obtain ⟨-, -, -, -, ok⟩ := hok b hb
    have s2 := of_decide_eq_true s2
    have st := hP.step s (by omega)
    have fin : ∀ w : Int, ((b.2.2.1 = -1 ∧ w = 0) ∨ (b.2.2.1 ≠ -1 ∧ ∃ f c : Nat, f < 12 ∧ c < 5 ∧ (b.2.2.2.1 ≤ (f : Int) ∧ (f : Int) ≤ b.2.2.2.2.1 ∧ b.2.2.2.2.2.1 ≤ (c : Int) + 1 ∧ (c : Int) + 1 ≤ b.2.2.2.2.2.2) ∧ w = wN b.2.2.1 (f : Int) ((c : Int) + 1))) → (L < (b.1 * (i : Int)).tdiv 5 + (if wTool w = G 115 s ∧ wFrom w ≤ (i : Int) then wBy w else 0) + dlO b.2.1 (s : Int) (i : Int) ∨ (b.1 * (i : Int)).tdiv 5 + (if wTool w = G 115 s ∧ wFrom w ≤ (i : Int) then wBy w else 0) + dlO b.2.1 (s : Int) (i : Int) < -L) → ∃ n : Nat, n < (vCau G).toNat ∧ (fN G K n && oB (absB G n L i) (G 109 11).toNat) = true := by
      intro w hw hq
      obtain ⟨n, n1, n2, n3, n4, n5⟩ := mem2 hP hG K hb hw
      refine ⟨n, n1, ?_⟩
      rw [n2, Bool.true_and, oB_iff]
      refine ⟨s, s1, decide_eq_true ?_⟩
      rw [tell_b, n3, n4, n5]
      exact hq
    rcases ok with ⟨e1, e2, e3, e4, e5⟩ | ⟨e1, e2, e3, e4, e5, e6, e7, e8⟩
    · refine fin 0 (Or.inl ⟨e1, rfl⟩) ?_
      unfold bkHi bkLo at s2
      rw [e4, e5] at s2
      rw [if_neg (by unfold wTool; rw [if_pos rfl]; omega)]
      rw [if_neg (by omega), if_neg (by omega)] at s2
      omega
    · rcases s2 with s2 | s2
      · refine fin (wN b.2.2.1 b.2.2.2.1 b.2.2.2.2.2.2) (Or.inr ⟨by omega, b.2.2.2.1.toNat, (b.2.2.2.2.2.2 - 1).toNat, by omega, by omega, by omega, by rw [Int.toNat_of_nonneg (by omega), Int.toNat_of_nonneg (by omega), show b.2.2.2.2.2.2 - 1 + 1 = b.2.2.2.2.2.2 by omega]⟩) (Or.inl ?_)
        obtain ⟨-, q2, q3, q4⟩ := wN_e (t := b.2.2.1) (f := b.2.2.2.1) (b := b.2.2.2.2.2.2) e1 e3 (by omega) (by omega) e8
        rw [q2, q3, q4]
        unfold bkHi at s2
        by_cases z : G 115 s = b.2.2.1 ∧ b.2.2.2.1 ≤ (i : Int)
        · rw [if_pos z] at s2; rw [if_pos ⟨z.1.symm, z.2⟩]; omega
        · rw [if_neg z] at s2; rw [if_neg (fun y => z ⟨y.1.symm, y.2⟩)]; omega
      · refine fin (wN b.2.2.1 b.2.2.2.2.1 b.2.2.2.2.2.1) (Or.inr ⟨by omega, b.2.2.2.2.1.toNat, (b.2.2.2.2.2.1 - 1).toNat, by omega, by omega, by omega, by rw [Int.toNat_of_nonneg (by omega), Int.toNat_of_nonneg (by omega), show b.2.2.2.2.2.1 - 1 + 1 = b.2.2.2.2.2.1 by omega]⟩) (Or.inr ?_)
        obtain ⟨-, q2, q3, q4⟩ := wN_e (t := b.2.2.1) (f := b.2.2.2.2.1) (b := b.2.2.2.2.2.1) e1 (by omega) (by omega) (by omega) (by omega)
        rw [q2, q3, q4]
        unfold bkLo at s2
        by_cases z : G 115 s = b.2.2.1 ∧ b.2.2.2.2.1 ≤ (i : Int)
        · rw [if_pos z] at s2; rw [if_pos ⟨z.1.symm, z.2⟩]; omega
        · rw [if_neg z] at s2; rw [if_neg (fun y => z ⟨y.1.symm, y.2⟩)]; omega
  · rintro ⟨n, n1, n2⟩
    rw [Bool.and_eq_true, oB_iff] at n2
    obtain ⟨hf, s, s1, s2⟩ := n2
    have s2 := of_decide_eq_true s2
    have st := hP.step s (by omega)
    obtain ⟨b, hb, e1, e2, e3⟩ := mem1 hP hG K n1 hf
    obtain ⟨-, -, -, -, ok⟩ := hok b hb
    refine ⟨b, hb, (oB_iff _ _).mpr ⟨s, s1, decide_eq_true ?_⟩⟩
    rw [tell_b, ← e1, ← e2] at s2
    unfold bkHi bkLo
    rcases e3 with ⟨q1, q2⟩ | ⟨q1, f, c, f1, c1, z, q2⟩
    · rw [q2, if_neg (by unfold wTool; rw [if_pos rfl]; omega)] at s2
      rw [if_neg (by omega), if_neg (by omega)]
      omega
    · have ok : 0 ≤ b.2.2.1 := by omega
      obtain ⟨-, q3, q4, q5⟩ := wN_e (t := b.2.2.1) (f := (f : Int)) (b := (c : Int) + 1) ok (by omega) (by omega) (by omega) (by omega)
      rw [q2, q3, q4, q5] at s2
      by_cases u : b.2.2.1 = G 115 s
      · by_cases v1 : b.2.2.2.1 ≤ (i : Int)
        · rw [if_pos (c := G 115 s = b.2.2.1 ∧ b.2.2.2.1 ≤ (i : Int)) ⟨u.symm, v1⟩]
          by_cases v2 : b.2.2.2.2.1 ≤ (i : Int)
          · rw [if_pos (c := G 115 s = b.2.2.1 ∧ b.2.2.2.2.1 ≤ (i : Int)) ⟨u.symm, v2⟩]
            split at s2 <;> omega
          · rw [if_neg (c := G 115 s = b.2.2.1 ∧ b.2.2.2.2.1 ≤ (i : Int)) (fun y => v2 y.2)]
            split at s2 <;> omega
        · rw [if_neg (c := G 115 s = b.2.2.1 ∧ b.2.2.2.1 ≤ (i : Int)) (fun y => v1 y.2), if_neg (c := G 115 s = b.2.2.1 ∧ b.2.2.2.2.1 ≤ (i : Int)) (fun y => by omega)]
          rw [if_neg (by omega)] at s2
          omega
      · rw [if_neg (fun y => u y.1)] at s2
        rw [if_neg (fun y => u y.1.symm), if_neg (fun y => u y.1.symm)]
        omega
theorem hltB_c {G G' : pG} (h1 : G' 109 10 = G 109 10) (h2 : G' 109 11 = G 109 11) (h3 : G' 115 = G 115) (f : Nat → Bool) (L : Int) : hltB G' f L = hltB G f L := by
  funext i
  have e : ∀ n : Nat, absB G' n L i = absB G n L i := fun n => by funext s; unfold absB; rw [vTel_c h1 h2 h3]
  unfold hltB vCau
  simp only [e]
  rw [h1, h2]
theorem pr_halt (L K : Int) : pPx fW20 [71, 72] (fun G => rPart G ∧ rGau G ∧ rFit G) (fun _ G' => fitPost G') 163 264 [pI L, pI K] := by
  rintro G ⟨hP, hG, hF⟩
  by_cases hok : (0 ≤ L ∧ L ≤ 99) ∧ (0 ≤ K ∧ K ≤ 999)
  · obtain ⟨A, a1, a2, hPA, hGA, hFA, a5, hok2, a6, a7, eC, eN, eV⟩ := views (d := 58) hP hG hF hok.2.1 hok.2.2 (by omega)
    obtain ⟨D, d1, d2, d3, d4, d5⟩ := s255 (d := 58) (K := K) hPA hGA (by omega)
    rw [eC] at d3
    have hPD : rPart D := d2.mv rPart_dep (by decide) (by decide) hPA
    have eCD : vCau D = vCau G := by rw [← eC]; unfold vCau; rw [d2.f 10 (by decide), d2.f 11 (by decide)]
    rw [← eV] at a5
    refine ⟨lf (hltB A (fN A K) L) 40, A, D, pRuns.of rfl rfl (v163_0 ?_), pRuns.of rfl rfl (v264_0 ?_), a2.mono (by decide) (by decide), (a2.mono (by decide) (by decide)).trans (d2.mono (by decide) (by decide)), fitPost_mv d2 hGA hFA⟩
    · refine pC1.of (by omega) (s127 (by omega)) ⟨fun z => absurd hok.1 (b2i_0.mp z), fun _ => pC1.of (by omega) (s124 (by omega)) ⟨fun _ => pC0.of (by omega) a1 (pC1.of (by omega) (s28 hPA a5 (bk_len hPA K) hok.1.1 hok.1.2 (by omega)) (rI ?_ rfl)), fun z => absurd hok.2 (b2i_0.mp z)⟩⟩
      rw [any_hlt hPA hGA K a5.2.2.2.2 L]
    · refine pC1.of (by omega) (s263 (by omega)) ⟨fun z => absurd hok.1 (b2i_0.mp z), fun _ => pC1.of (by omega) (s256 (by omega)) ⟨fun _ => pC0.of (by omega) d1 ?_, fun z => absurd hok.2 (b2i_0.mp z)⟩⟩
      rintro _ rfl
      rw [← hltB_c (d2.f 10 (by decide)) (d2.f 11 (by decide)) (d2.c 115 (by decide))]
      exact l264 hPD (by rw [eCD]; exact d3) hok.1.1 hok.1.2 (by omega)
  · refine ⟨-2, G, G, pRuns.of rfl rfl (v163_0 ?_), pRuns.of rfl rfl (v264_0 ?_), fr.refl _ _ _, fr.refl _ _ _, hG, hF⟩
    · exact pC1.of (by omega) (s127 (by omega)) ⟨fun z => rI rfl rfl, fun z => pC1.of (by omega) (s124 (by omega)) ⟨fun y => absurd ⟨b2i_n0.mp z, b2i_n0.mp y⟩ hok, fun _ => rI rfl rfl⟩⟩
    · exact pC1.of (by omega) (s263 (by omega)) ⟨fun z => rI rfl rfl, fun z => pC1.of (by omega) (s256 (by omega)) ⟨fun y => absurd ⟨b2i_n0.mp z, b2i_n0.mp y⟩ hok, fun _ => rI rfl rfl⟩⟩
