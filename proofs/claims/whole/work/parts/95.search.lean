/-! the class' plan: the search -/
theorem pandn {a b : Int} (ha : 0 ≤ a) (ha2 : a < 128) (hb : 0 ≤ b) (hb2 : b < 128) : 0 ≤ pand a (pxor b (-1)) ∧ pand a (pxor b (-1)) < 128 ∧ ∀ j : Nat, bt (pand a (pxor b (-1))) j = (bt a j && !bt b j) := by
  obtain ⟨m, rfl⟩ : ∃ m : Nat, a = (m : Int) := ⟨a.toNat, by omega⟩
  obtain ⟨n, rfl⟩ : ∃ n : Nat, b = (n : Int) := ⟨b.toNat, by omega⟩
  have key : ∀ m : Nat, m < 128 → ∀ n : Nat, n < 128 → pand (m : Int) (pxor (n : Int) (-1)) = ((m &&& (127 - n) : Nat) : Int) := by decide +kernel
  rw [key m (by omega) n (by omega)]
  have hm : m < 2 ^ 7 := by omega
  have l : m &&& (127 - n) < 2 ^ 7 := Nat.and_lt_two_pow _ (by omega)
  refine ⟨by omega, by omega, fun j => ?_⟩
  unfold bt
  simp only [Int.toNat_natCast]
  rw [Nat.testBit_and]
  by_cases hj : j < 7
  · have k2 : ∀ n : Nat, n < 128 → ∀ j : Nat, j < 7 → (127 - n).testBit j = !n.testBit j := by decide +kernel
    rw [k2 n (by omega) j hj]
  · have : m.testBit j = false := Nat.testBit_lt_two_pow (Nat.lt_of_lt_of_le hm (Nat.pow_le_pow_right (by omega) (by omega)))
    rw [this]
    rfl
def nev (W F : Nat → Nat → Bool) (i j : Nat) : Prop := F i j = true ∨ W i j = true ∨ W j i = true
def cx (G : pG) (S : Nat) (t : Nat → Int) (W F : Nat → Nat → Bool) (T : Nat → Int) : Prop := (G 3 2 = (S : Int) ∧ S ≤ 7) ∧ (∀ k, k < S → G 24 k = t k ∧ 1 ≤ t k ∧ t k ≤ 20099) ∧ (∀ k, k < S → 0 ≤ G 11 k ∧ G 11 k < 128 ∧ (∀ j, bt (G 11 k) j = W k j) ∧ ∀ j, W k j = true → j < k) ∧ (∀ k, k < S → 0 ≤ G 26 k ∧ G 26 k < 128 ∧ ∀ j, j < S → bt (G 26 k) j = F k j) ∧ (∀ k, k < S → G 25 k = T k ∧ 0 ≤ T k ∧ T k ≤ 140693) ∧ tlOk S t W T ∧ (∀ k, k < S → 0 ≤ G 27 k ∧ G 27 k < 128 ∧ ∀ i j, i < S → j < S → bt (G 27 k) i = true → bt (G 27 k) j = true → i ≠ j → nev W F i j) ∧ (∀ k, k < S → F k k = false) ∧ ∀ j k, j < S → k < S → F j k = F k j
theorem cx_c {G G' : pG} {S : Nat} {t : Nat → Int} {W F : Nat → Nat → Bool} {T : Nat → Int} (h : ∀ c ∈ [3, 11, 24, 25, 26, 27], G' c = G c) (hc : cx G S t W F T) : cx G' S t W F T := by
  unfold cx at *
  rw [h 3 (by decide), h 11 (by decide), h 24 (by decide), h 25 (by decide), h 26 (by decide), h 27 (by decide)]
  exact hc
theorem z88 {d : Nat} {G : pG} {k l : Nat} {st la : Int} (hl : la = -1 ∨ (la = (l : Int) ∧ l < 7)) : ∃ r : Int, pRuns pMT d 88 [pR 22, pI (k : Int), pI st, pI la] Yc G (some (pI r)) G ∧ ((r = 0 ∧ (la ≠ -1 → G 28 l < st ∨ (G 28 l = st ∧ l ≤ k))) ∨ (r = 1 ∧ la ≠ -1 ∧ (st < G 28 l ∨ (st = G 28 l ∧ k < l)))) := by
  have key : ∃ r G', pRuns pMT d 88 [pR 22, pI (k : Int), pI st, pI la] Yc G (some (pI r)) G' ∧ (G' = G ∧ ((r = 0 ∧ (la ≠ -1 → G 28 l < st ∨ (G 28 l = st ∧ l ≤ k))) ∨ (r = 1 ∧ la ≠ -1 ∧ (st < G 28 l ∨ (st = G 28 l ∧ k < l))))) := by
    refine pX1 rfl rfl (v88_0 ⟨fun z => ⟨Or.inl rfl, 0, rfl, rfl, Or.inl ⟨rfl, fun y => absurd z y⟩⟩, fun z => ?_⟩)
    obtain ⟨e, h7⟩ : la = (l : Int) ∧ l < 7 := by
      rcases hl with h | h
      · exact absurd h z
      · exact h
    rw [e, Int.toNat_natCast]
    refine ⟨by omega, by omega, fun y => ⟨Or.inr rfl, 1, rfl, rfl, Or.inr ⟨rfl, by omega, Or.inl y⟩⟩, fun y => ⟨by omega, by omega, fun w => ⟨Or.inl rfl, 0, rfl, rfl, Or.inl ⟨rfl, fun _ => Or.inl (by omega)⟩⟩, fun w => ⟨fun v => ⟨Or.inl rfl, 0, rfl, rfl, Or.inl ⟨rfl, fun _ => Or.inr ⟨w.symm, by omega⟩⟩⟩, fun v => ⟨Or.inr rfl, 1, rfl, rfl, Or.inr ⟨rfl, by omega, Or.inr ⟨w, by omega⟩⟩⟩⟩⟩⟩
  obtain ⟨r, G', r1, r2, r3⟩ := key
  rw [r2] at r1
  exact ⟨r, r1, r3⟩
theorem z89 {d : Nat} {G : pG} {S : Nat} {t : Nat → Int} {W F : Nat → Nat → Bool} {T : Nat → Int} {dp k : Nat} {en : Int} (hx : cx G S t W F T) (hdp : dp < 7) (hk : k < S) (hd : 1 ≤ d) : ∃ G', pRuns pMT d 89 [pR 22, pI (dp : Int), pI (k : Int), pI en] Yc G none G' ∧ (fr [31 + (dp + 1)] [] G G' ∧ ∀ j, j < S → G' (31 + (dp + 1)) j = if F k j = true ∨ W j k = true then max (G (31 + dp) j) en else G (31 + dp) j) := by
  have S7 := hx.1.2
  obtain ⟨rw1, rw2, rw3⟩ := row30 dp (by omega)
  obtain ⟨rx1, rx2, rx3⟩ := row30 (dp + 1) (by omega)
  have eD : w32 ((dp : Int) + 1) = ((dp + 1 : Nat) : Int) := by rw [w32_id (by omega) (by omega)]; omega
  have inv : ∀ g, fr [31 + (dp + 1)] [] G g → cx g S t W F T ∧ g (31 + dp) = G (31 + dp) := fun g f => ⟨cx_c (fun c hc => f.1 c (by
      have : ∀ c ∈ [3, 11, 24, 25, 26, 27], c < 31 := by decide
      have := this c hc
      simp; omega) (by
      have : ∀ c ∈ [3, 11, 24, 25, 26, 27], c < 31 := by decide
      have := this c hc
      omega)) hx, f.1 _ (by simp) (by omega)⟩
  refine pX0 rfl rfl (v89_0 ?_)
  have H : ∀ (m j : Nat) (g : pG), j + m = S → fr [31 + (dp + 1)] [] G g → (∀ i, i < j → g (31 + (dp + 1)) i = if F k i = true ∨ W i k = true then max (G (31 + dp) i) en else G (31 + dp) i) → pEnds pMT d 89 Yc (fun r g => r = none ∧ (fr [31 + (dp + 1)] [] G g ∧ ∀ j, j < S → g (31 + (dp + 1)) j = if F k j = true ∨ W j k = true then max (G (31 + dp) j) en else G (31 + dp) j)) 3 [pR 22, pI (dp : Int), pI (k : Int), pI en, pI (j : Int), pU] [] g := by
    intro m
    induction m with
    | zero =>
      intro j g hj f h
      obtain ⟨cg, -⟩ := inv g f
      exact v89_3 ⟨fun _ => ⟨rfl, f, fun i hi => h i (by omega)⟩, fun z => by rw [cg.1.1] at z; omega⟩
    | succ m ih =>
      intro j g hj f h
      obtain ⟨cg, er⟩ := inv g f
      obtain ⟨a1, a2, a3⟩ := cg.2.2.2.1 k hk
      obtain ⟨w1, w2, w3, -⟩ := cg.2.2.1 j (by omega)
      have step : ∀ v : Int, v = (if F k j = true ∨ W j k = true then max (G (31 + dp) j) en else G (31 + dp) j) → ∀ x : Int, x = w32 ((j : Int) + 1) → pEnds pMT d 89 Yc (fun r g => r = none ∧ (fr [31 + (dp + 1)] [] G g ∧ ∀ j, j < S → g (31 + (dp + 1)) j = if F k j = true ∨ W j k = true then max (G (31 + dp) j) en else G (31 + dp) j)) 3 [pR 22, pI (dp : Int), pI (k : Int), pI en, pI x, pU] [] (pset g (31 + (dp + 1)) j v) := by
        intro v hv
        rw [w32_id (by omega) (by omega)]
        rintro _ rfl
        refine ih (j + 1) _ (by omega) (f.trans (fr.set (by simp) (by omega) _ _ _)) (fun i hi => ?_)
        rw [pset_at, if_pos rfl]
        by_cases e : i = j
        · subst e; rw [if_pos rfl]; exact hv
        · rw [if_neg e]; exact h i (by omega)
      have held : (F k j = true ∨ W j k = true) → pEnds pMT d 89 Yc (fun r g => r = none ∧ (fr [31 + (dp + 1)] [] G g ∧ ∀ j, j < S → g (31 + (dp + 1)) j = if F k j = true ∨ W j k = true then max (G (31 + dp) j) en else G (31 + dp) j)) 46 [pR 22, pI (dp : Int), pI (k : Int), pI en, pI (j : Int), pU] [] g := by
        intro hh
        refine v89_46 ?_
        rintro _ rfl
        rw [eD]
        refine ⟨by omega, by omega, 31 + (dp + 1), by rw [Int.toNat_natCast]; exact rx1, fun q => absurd q (by decide), fun _ => ⟨by omega, by omega, 31 + dp, by rw [Int.toNat_natCast]; exact rw1, ?_⟩⟩
        rw [rx2, rx3, rw2, rw3]
        simp only [Int.toNat_natCast, cond_true]
        refine ⟨by omega, by omega, by omega, by omega, ?_⟩
        rw [pmx_eq, er]
        exact step _ (by rw [if_pos hh])
      refine v89_3 ⟨fun z => by rw [cg.1.1] at z; omega, fun _ => ⟨by omega, by omega, ?_⟩⟩
      rw [Int.toNat_natCast]
      refine pC1.of hd (s119i a1 (by omega) (by omega)) ⟨fun z => held (Or.inl (by rw [← a3 j (by omega)]; exact b2i_n0.mp z)), fun z => ⟨by omega, by omega, ?_⟩⟩
      rw [Int.toNat_natCast]
      refine pC1.of hd (s119i w1 (by omega) (by omega)) ⟨fun y => ?_, fun y => held (Or.inr (by rw [← w3 k]; exact b2i_n0.mp y))⟩
      rintro _ rfl
      rw [eD]
      refine ⟨by omega, by omega, 31 + (dp + 1), by rw [Int.toNat_natCast]; exact rx1, fun _ => ⟨by omega, by omega, 31 + dp, by rw [Int.toNat_natCast]; exact rw1, ?_⟩, fun q => absurd rfl q⟩
      rw [rx2, rx3, rw2, rw3]
      simp only [Int.toNat_natCast, cond_true]
      refine ⟨by omega, by omega, by omega, by omega, ?_⟩
      rw [er]
      refine step _ ?_
      rw [if_neg]
      rintro (q | q)
      · exact b2i_0.mp z (by rw [a3 j (by omega)]; exact q)
      · exact b2i_0.mp y (by rw [w3 k]; exact q)
  rintro _ rfl
  exact H S 0 G (by omega) (fr.refl _ _ _) (fun i hi => by omega)
def soF (base : Int) (cond : Nat → Bool) (val : Nat → Int) : Nat → Int
  | 0 => base
  | n + 1 => if cond n = true then max (soF base cond val n) (val n) else soF base cond val n
theorem soF_le {base x : Int} {cond : Nat → Bool} {val : Nat → Int} (h0 : base ≤ x) : ∀ n : Nat, (∀ j, j < n → cond j = true → val j ≤ x) → soF base cond val n ≤ x
  | 0, _ => h0
  | n + 1, h => by
    have := soF_le h0 n (fun j hj => h j (by omega))
    show (if cond n = true then max (soF base cond val n) (val n) else soF base cond val n) ≤ x
    by_cases q : cond n = true
    · rw [if_pos q]
      have := h n (by omega) q
      omega
    · rw [if_neg q]; exact this
theorem soF_ge {base : Int} {cond : Nat → Bool} {val : Nat → Int} : ∀ n : Nat, base ≤ soF base cond val n
  | 0 => Int.le_refl _
  | n + 1 => by
    have := soF_ge (base := base) (cond := cond) (val := val) n
    show base ≤ (if cond n = true then max (soF base cond val n) (val n) else soF base cond val n)
    split <;> omega
theorem z91 {d : Nat} {G : pG} {S : Nat} {t : Nat → Int} {W F : Nat → Nat → Bool} {T : Nat → Int} {dp k l : Nat} {Q la : Int} (hx : cx G S t W F T) (hdp : dp < 8) (hk : k < S) (hQ : 0 ≤ Q) (hQ2 : Q < 128) (hl : la = -1 ∨ (la = (l : Int) ∧ l < 7)) (hb : ∀ j, j < k → 0 ≤ G 29 j ∧ G 29 j ≤ 1000000) (hd : 1 ≤ d) : pRuns pMT d 91 [pR 22, pI (k : Int), pI (dp : Int), pI Q, pI la] Yc G (some (pI (soF (if la = -1 then G (31 + dp) k else max (G (31 + dp) k) (G 28 l)) (fun j => W k j && !bt Q j) (fun j => G 29 j + t j) k))) G := by
  have S7 := hx.1.2
  obtain ⟨rw1, rw2, rw3⟩ := row30 dp hdp
  obtain ⟨base, hbase⟩ : ∃ base, base = (if la = -1 then G (31 + dp) k else max (G (31 + dp) k) (G 28 l)) := ⟨_, rfl⟩
  rw [← hbase]
  have H : ∀ (m j : Nat), j + m = k → pEnds pMT d 91 Yc (fun r' g => r' = some (pI (soF base (fun j => W k j && !bt Q j) (fun j => G 29 j + t j) k)) ∧ g = G) 40 [pR 22, pI (k : Int), pU, pI Q, pU, pI (soF base (fun j => W k j && !bt Q j) (fun j => G 29 j + t j) j), pI (j : Int)] [] G := by
    intro m
    induction m with
    | zero =>
      intro j hj
      obtain rfl : j = k := by omega
      exact v91_40 ⟨fun _ => rI rfl rfl, fun z => by omega⟩
    | succ m ih =>
      intro j hj
      have nx := ih (j + 1) (by omega)
      obtain ⟨w1, w2, w3, -⟩ := hx.2.2.1 k hk
      obtain ⟨t0, t1, t2⟩ := hx.2.1 j (by omega)
      have b := hb j (by omega)
      have e : soF base (fun j => W k j && !bt Q j) (fun j => G 29 j + t j) (j + 1) = if (W k j && !bt Q j) = true then max (soF base (fun j => W k j && !bt Q j) (fun j => G 29 j + t j) j) (G 29 j + t j) else soF base (fun j => W k j && !bt Q j) (fun j => G 29 j + t j) j := rfl
      rw [e] at nx
      refine v91_40 ⟨fun z => by omega, fun _ => ⟨by omega, by omega, ?_⟩⟩
      rw [Int.toNat_natCast, w32_id (x := (j : Int) + 1) (by omega) (by omega)]
      refine pC1.of hd (s119i w1 (by omega) (by omega)) ⟨fun z => ?_, fun z => pC1.of hd (s119i hQ (by omega) (by omega)) ⟨fun y => ?_, fun y => ⟨by omega, by omega, by omega, by omega, ?_⟩⟩⟩
      · rw [w3 j] at z
        rw [if_neg (by rw [Bool.eq_false_iff.mpr (b2i_0.mp z)]; simp)] at nx
        rintro _ rfl
        exact nx
      · rw [if_neg (by rw [b2i_n0.mp y]; simp)] at nx
        rintro _ rfl
        exact nx
      · rw [w3 j] at z
        rw [if_pos (by rw [b2i_n0.mp z, Bool.eq_false_iff.mpr (b2i_0.mp y)]; rfl)] at nx
        rw [Int.toNat_natCast, t0, pmx_eq, w32_id (by omega) (by omega)]
        rintro _ rfl _ rfl
        exact nx
  refine pRuns.of rfl rfl (v91_0 ⟨fun z => ?_, fun z => ?_⟩)
  · obtain ⟨e, h7⟩ : la = (l : Int) ∧ l < 7 := by
      rcases hl with h | h
      · exact absurd h z
      · exact h
    refine ⟨by omega, by omega, 31 + dp, by rw [Int.toNat_natCast]; exact rw1, ?_⟩
    rw [rw2, rw3]
    simp only [Int.toNat_natCast, cond_true]
    refine ⟨by omega, by omega, by omega, by omega, ?_⟩
    rw [if_neg z] at hbase
    rw [pmx_eq, e, Int.toNat_natCast, ← hbase]
    rintro _ rfl _ rfl
    exact H k 0 (by omega)
  · refine ⟨by omega, by omega, 31 + dp, by rw [Int.toNat_natCast]; exact rw1, ?_⟩
    rw [rw2, rw3]
    simp only [Int.toNat_natCast, cond_true]
    refine ⟨by omega, by omega, ?_⟩
    rw [if_pos z] at hbase
    rw [← hbase]
    rintro _ rfl _ rfl
    exact H k 0 (by omega)
theorem z92 {d : Nat} {G : pG} {S : Nat} {t : Nat → Int} {W F : Nat → Nat → Bool} {T : Nat → Int} {Q : Int} (hx : cx G S t W F T) (hQ : 0 ≤ Q) (hQ2 : Q < 128) (hb : ∀ j, j < S → 0 ≤ G 29 j ∧ G 29 j ≤ 1000000) (hd : 1 ≤ d) : ∃ r : Int, pRuns pMT d 92 [pR 22, pI Q] Yc G (some (pI r)) G ∧ ((r = 0 ∧ ∀ j, j < S → bt Q j = false) ∨ ∃ f : Int, (∃ j, j < S ∧ bt Q j = true) ∧ (∀ j, j < S → bt Q j = true → f ≤ G 29 j) ∧ 0 ≤ f ∧ r = f + vSm (fun j => if bt Q j = true then t j else 0) S) := by
  have S7 := hx.1.2
  have key : ∃ r G', pRuns pMT d 92 [pR 22, pI Q] Yc G (some (pI r)) G' ∧ (G' = G ∧ ((r = 0 ∧ ∀ j, j < S → bt Q j = false) ∨ ∃ f : Int, (∃ j, j < S ∧ bt Q j = true) ∧ (∀ j, j < S → bt Q j = true → f ≤ G 29 j) ∧ 0 ≤ f ∧ r = f + vSm (fun j => if bt Q j = true then t j else 0) S)) := by
    refine pX1 rfl rfl (v92_0 ?_)
    have wb : ∀ n, n ≤ S → 0 ≤ vSm (fun j => if bt Q j = true then t j else 0) n ∧ vSm (fun j => if bt Q j = true then t j else 0) n ≤ 20099 * (n : Int) := by
      intro n
      induction n with
      | zero => intro _; exact ⟨Int.le_refl _, Int.le_refl _⟩
      | succ n ih =>
        intro hn
        have := ih (by omega)
        have := hx.2.1 n (by omega)
        show 0 ≤ vSm (fun j => if bt Q j = true then t j else 0) n + (if bt Q n = true then t n else 0) ∧ vSm (fun j => if bt Q j = true then t j else 0) n + (if bt Q n = true then t n else 0) ≤ _
        split <;> omega
    have H : ∀ (m n : Nat) (f : Int), n + m = S → ((f = -1 ∧ (∀ j, j < n → bt Q j = false)) ∨ (0 ≤ f ∧ f ≤ 1000000 ∧ (∃ j, j < n ∧ bt Q j = true) ∧ (∀ j, j < n → bt Q j = true → f ≤ G 29 j) ∧ 1 ≤ vSm (fun j => if bt Q j = true then t j else 0) n)) → pEnds pMT d 92 Yc (fun r g => ∃ v : Int, r = some (pI v) ∧ (g = G ∧ ((v = 0 ∧ ∀ j, j < S → bt Q j = false) ∨ ∃ f : Int, (∃ j, j < S ∧ bt Q j = true) ∧ (∀ j, j < S → bt Q j = true → f ≤ G 29 j) ∧ 0 ≤ f ∧ v = f + vSm (fun j => if bt Q j = true then t j else 0) S))) 7 [pR 22, pI Q, pI f, pI (vSm (fun j => if bt Q j = true then t j else 0) n), pI (n : Int)] [] G := by
      intro m
      induction m with
      | zero =>
        intro n f hn h
        obtain rfl : n = S := by omega
        have w := wb n (Nat.le_refl _)
        refine v92_7 ⟨fun _ => ⟨fun z => ?_, fun z => ?_⟩, fun z => by rw [hx.1.1] at z; omega⟩
        · rcases h with ⟨-, h2⟩ | ⟨h1, h2, h3, h4, h5⟩
          · exfalso
            apply z
            rw [vSm_c (g := fun _ => 0) n (fun j hj => by rw [if_neg (by rw [h2 j hj]; decide)]), vSm_z]
          · rw [w32_id (by omega) (by omega)]
            exact ⟨_, rfl, rfl, Or.inr ⟨f, h3, h4, h1, rfl⟩⟩
        · rcases h with ⟨-, h2⟩ | ⟨h1, h2, h3, h4, h5⟩
          · exact ⟨0, rfl, rfl, Or.inl ⟨rfl, h2⟩⟩
          · omega
      | succ m ih =>
        intro n f hn h
        have w := wb n (by omega)
        obtain ⟨t0, t1, t2⟩ := hx.2.1 n (by omega)
        have b := hb n (by omega)
        have sn : vSm (fun j => if bt Q j = true then t j else 0) (n + 1) = vSm (fun j => if bt Q j = true then t j else 0) n + (if bt Q n = true then t n else 0) := rfl
        refine v92_7 ⟨fun z => by rw [hx.1.1] at z; omega, fun _ => pC1.of hd (s119i hQ (by omega) (by omega)) ?_⟩
        rw [Int.toNat_natCast, t0, w32_id (x := (n : Int) + 1) (by omega) (by omega), w32_id (x := vSm (fun j => if bt Q j = true then t j else 0) n + t n) (by omega) (by omega), pmn_eq]
        refine ⟨fun z => ?_, fun z => ?_⟩
        · have z := Bool.eq_false_iff.mpr (b2i_0.mp z)
          rintro _ rfl
          have nx := ih (n + 1) f (by omega) (by
            rw [sn, if_neg (by rw [z]; decide), Int.add_zero]
            rcases h with ⟨h1, h2⟩ | ⟨h1, h2, ⟨j0, j1, j2⟩, h4, h5⟩
            · refine Or.inl ⟨h1, fun j hj => ?_⟩
              by_cases e : j = n
              · rw [e]; exact z
              · exact h2 j (by omega)
            · refine Or.inr ⟨h1, h2, ⟨j0, by omega, j2⟩, fun j hj hq => ?_, h5⟩
              by_cases e : j = n
              · rw [e, z] at hq; exact absurd hq (by decide)
              · exact h4 j (by omega) hq)
          rw [sn, if_neg (by rw [z]; decide), Int.add_zero] at nx
          exact nx
        · have z := b2i_n0.mp z
          have go : ∀ f' : Int, 0 ≤ f' → f' ≤ G 29 n → (∀ j, j < n → bt Q j = true → f' ≤ G 29 j) → pEnds pMT d 92 Yc (fun r g => ∃ v : Int, r = some (pI v) ∧ (g = G ∧ ((v = 0 ∧ ∀ j, j < S → bt Q j = false) ∨ ∃ f : Int, (∃ j, j < S ∧ bt Q j = true) ∧ (∀ j, j < S → bt Q j = true → f ≤ G 29 j) ∧ 0 ≤ f ∧ v = f + vSm (fun j => if bt Q j = true then t j else 0) S))) 7 [pR 22, pI Q, pI f', pI (vSm (fun j => if bt Q j = true then t j else 0) n + t n), pI ((n + 1 : Nat) : Int)] [] G := by
            intro f' a1 a2 a3
            have nx := ih (n + 1) f' (by omega) (by
              rw [sn, if_pos z]
              refine Or.inr ⟨a1, by omega, ⟨n, by omega, z⟩, fun j hj hq => ?_, by omega⟩
              by_cases e : j = n
              · rw [e]; exact a2
              · exact a3 j (by omega) hq)
            rw [sn, if_pos z] at nx
            exact nx
          refine ⟨fun y => ⟨by omega, by omega, ?_⟩, fun y => ⟨by omega, by omega, ?_⟩⟩
          · rintro _ rfl
            refine ⟨by omega, by omega, ?_⟩
            rintro _ rfl _ rfl
            rcases h with ⟨h1, h2⟩ | ⟨h1, h2, h3, h4, h5⟩
            · exact absurd h1 y
            · exact go _ (by omega) (by omega) (fun j hj hq => by have := h4 j hj hq; omega)
          · rintro _ rfl
            refine ⟨by omega, by omega, ?_⟩
            rintro _ rfl _ rfl
            rcases h with ⟨h1, h2⟩ | ⟨h1, h2, h3, h4, h5⟩
            · exact go _ (by omega) (by omega) (fun j hj hq => by rw [h2 j hj] at hq; exact absurd hq (by decide))
            · omega
    rintro _ rfl _ rfl _ rfl
    exact H S 0 (-1) (by omega) (Or.inl ⟨rfl, fun j hj => by omega⟩)
  obtain ⟨r, G', r1, r2, r3⟩ := key
  rw [r2] at r1
  exact ⟨r, r1, r3⟩
def tgt (S : Nat) (t : Nat → Int) (W F : Nat → Nat → Bool) (Q lat : Int) (tr r b : Nat → Int) : Prop := plF S t W F b ∧ pfx S (bt Q) tr b ∧ (∀ k, k < S → bt Q k = false → r k ≤ b k) ∧ lat ≤ plL S t b
theorem z90 {d : Nat} {G : pG} {S : Nat} {t : Nat → Int} {W F : Nat → Nat → Bool} {T : Nat → Int} {dp l : Nat} {Q la lat : Int} (hx : cx G S t W F T) (hdp : dp < 8) (hQ : 0 ≤ Q) (hQ2 : Q < 128) (hl : la = -1 ∨ (la = (l : Int) ∧ l < S ∧ bt Q l = true)) (rb : ∀ k, k < S → 0 ≤ G (31 + dp) k ∧ G (31 + dp) k ≤ 200000) (tb : ∀ j, j < S → bt Q j = true → 0 ≤ G 28 j ∧ G 28 j ≤ 200000) (l0 : 0 ≤ lat) (l1 : lat ≤ 200000) (hd : 2 ≤ d) : ∃ r G', pRuns pMT d 90 [pR 22, pI (dp : Int), pI Q, pI la, pI lat] Yc G (some (pI r)) G' ∧ (fr [29] [] G G' ∧ ∃ (B : Int) (so : Nat → Int), ((r ≠ 0 ∧ plLe S B so (G 22 2) (G 23)) ∨ (r = 0 ∧ plLe S (G 22 2) (G 23) B so)) ∧ ((∀ j, j < S → bt Q j = true) → B = lat ∧ eqS S so (G 28)) ∧ ∀ b, tgt S t W F Q lat (G 28) (G (31 + dp)) b → (∀ k, k < S → so k ≤ b k) ∧ B ≤ plL S t b) := by
  have S7 := hx.1.2
  have inv : ∀ g, fr [29] [] G g → cx g S t W F T ∧ g 28 = G 28 ∧ g (31 + dp) = G (31 + dp) ∧ g 22 = G 22 ∧ g 23 = G 23 := fun g f => ⟨cx_c (fun c hc => f.1 c (by revert hc; revert c; decide) (by revert hc; revert c; decide)) hx, f.c 28 (by decide), f.1 _ (by simp; omega) (by omega), f.c 22 (by decide), f.c 23 (by decide)⟩
  obtain ⟨R, hR⟩ : ∃ R : Option pV → pG → Prop, R = (fun r g => ∃ v : Int, r = some (pI v) ∧ (fr [29] [] G g ∧ ∃ (B : Int) (so : Nat → Int), ((v ≠ 0 ∧ plLe S B so (G 22 2) (G 23)) ∨ (v = 0 ∧ plLe S (G 22 2) (G 23) B so)) ∧ ((∀ j, j < S → bt Q j = true) → B = lat ∧ eqS S so (G 28)) ∧ ∀ b, tgt S t W F Q lat (G 28) (G (31 + dp)) b → (∀ k, k < S → so k ≤ b k) ∧ B ≤ plL S t b)) := ⟨_, rfl⟩
  refine pX1 rfl rfl (v90_0 ?_)
  rw [← hR]
  -- the facts that all later steps keep
  have K : ∀ (g : pG) (B : Int), fr [29] [] G g → (∀ j, j < S → 0 ≤ g 29 j ∧ g 29 j ≤ 1000000) → ((∀ j, j < S → bt Q j = true) → B = lat ∧ eqS S (g 29) (G 28)) → (∀ b, tgt S t W F Q lat (G 28) (G (31 + dp)) b → (∀ k, k < S → g 29 k ≤ b k) ∧ B ≤ plL S t b) → ∀ v : Int, ((v ≠ 0 ∧ plLe S B (g 29) (G 22 2) (G 23)) ∨ (v = 0 ∧ plLe S (G 22 2) (G 23) B (g 29))) → R (some (pI v)) g := by
    intro g B f h1 h2 h3 v hv
    rw [hR]
    exact ⟨v, rfl, f, B, g 29, hv, h2, h3⟩
  have L3 : ∀ (g : pG) (B : Int), fr [29] [] G g → (∀ j, j < S → 0 ≤ g 29 j ∧ g 29 j ≤ 1000000) → ((∀ j, j < S → bt Q j = true) → B = lat ∧ eqS S (g 29) (G 28)) → (∀ b, tgt S t W F Q lat (G 28) (G (31 + dp)) b → (∀ k, k < S → g 29 k ≤ b k) ∧ B ≤ plL S t b) → B = G 22 2 → pEnds pMT d 90 Yc R 170 [pR 22, pU, pU, pU, pU, pU, pI 0] [] g := by
    intro g B f h1 h2 h3 hB
    obtain ⟨cg, e28, -, e22, e23⟩ := inv g f
    have H : ∀ (m k : Nat), k + m = S → (∀ j, j < k → g 29 j = G 23 j) → pEnds pMT d 90 Yc R 170 [pR 22, pU, pU, pU, pU, pU, pI (k : Int)] [] g := by
      intro m
      induction m with
      | zero =>
        intro k hk h
        exact v90_170 ⟨fun _ => ⟨Or.inl rfl, K g B f h1 h2 h3 0 (Or.inr ⟨rfl, Or.inr ⟨hB.symm, Or.inr (fun j hj => (h j (by omega)).symm)⟩⟩)⟩, fun z => by rw [cg.1.1] at z; omega⟩
      | succ m ih =>
        intro k hk h
        refine v90_170 ⟨fun z => by rw [cg.1.1] at z; omega, fun _ => ⟨by omega, by omega, by omega, by omega, ?_⟩⟩
        rw [Int.toNat_natCast, e23, w32_id (by omega) (by omega)]
        refine ⟨fun z => ?_, fun z => ⟨by omega, by omega, by omega, by omega, fun y => ⟨Or.inl rfl, K g B f h1 h2 h3 0 (Or.inr ⟨rfl, Or.inr ⟨hB.symm, Or.inl ⟨k, by omega, fun j hj => (h j hj).symm, by omega⟩⟩⟩)⟩, fun y => ⟨Or.inr rfl, K g B f h1 h2 h3 1 (Or.inl ⟨by decide, Or.inr ⟨hB, Or.inl ⟨k, by omega, h, y⟩⟩⟩)⟩⟩⟩
        rintro _ rfl
        refine ih (k + 1) (by omega) (fun j hj => ?_)
        by_cases e : j = k
        · rw [e]; exact z
        · exact h j (by omega)
    exact H S 0 (by omega) (fun j hj => by omega)
  have L2 : ∀ (g : pG), fr [29] [] G g → (∀ j, j < S → 0 ≤ g 29 j ∧ g 29 j ≤ 1000000) → ((∀ j, j < S → bt Q j = true) → eqS S (g 29) (G 28)) → (∀ b, tgt S t W F Q lat (G 28) (G (31 + dp)) b → ∀ k, k < S → g 29 k ≤ b k) → ∀ (m k : Nat) (B : Int), k + m = S → ((∀ j, j < S → bt Q j = true) → B = lat) → 0 ≤ B → (∀ b, tgt S t W F Q lat (G 28) (G (31 + dp)) b → B ≤ plL S t b) → pEnds pMT d 90 Yc R 94 [pR 22, pU, pI Q, pU, pU, pI B, pI (k : Int)] [] g := by
    intro g f h1 h2 h3 m
    obtain ⟨cg, e28, -, e22, e23⟩ := inv g f
    have OUT : ∀ B : Int, ((∀ j, j < S → bt Q j = true) → B = lat) → (∀ b, tgt S t W F Q lat (G 28) (G (31 + dp)) b → B ≤ plL S t b) → ((B = G 22 2 → ∀ x6 : Int, x6 = 0 → pEnds pMT d 90 Yc R 170 [pR 22, pU, pU, pU, pU, pU, pI x6] [] g) ∧ (¬ B = G 22 2 → ((G 22 2 ≤ B → (((0 : Int) = 0 ∨ (0 : Int) = 1) ∧ R (some (pI 0)) g)) ∧ (B < G 22 2 → (((1 : Int) = 0 ∨ (1 : Int) = 1) ∧ R (some (pI 1)) g))))) := by
      intro B a1 a2
      have h2' : (∀ j, j < S → bt Q j = true) → B = lat ∧ eqS S (g 29) (G 28) := fun q => ⟨a1 q, h2 q⟩
      have h3' : ∀ b, tgt S t W F Q lat (G 28) (G (31 + dp)) b → (∀ k, k < S → g 29 k ≤ b k) ∧ B ≤ plL S t b := fun b hb => ⟨h3 b hb, a2 b hb⟩
      refine ⟨fun z => ?_, fun z => ⟨fun y => ⟨Or.inl rfl, K g B f h1 h2' h3' 0 (Or.inr ⟨rfl, Or.inl (by omega)⟩)⟩, fun y => ⟨Or.inr rfl, K g B f h1 h2' h3' 1 (Or.inl ⟨by decide, Or.inl y⟩)⟩⟩⟩
      rintro _ rfl
      exact L3 g B f h1 h2' h3' z
    induction m with
    | zero =>
      intro k B hk a1 a0 a2
      refine v90_94 ?_
      rw [e22]
      exact ⟨fun _ => OUT B a1 a2, fun z => by rw [cg.1.1] at z; omega⟩
    | succ m ih =>
      intro k B hk a1 a0 a2
      obtain ⟨q1, q2, q3⟩ := cg.2.2.2.2.2.2.1 k (by omega)
      obtain ⟨n1, n2, n3⟩ := pandn q1 q2 hQ hQ2
      refine v90_94 ?_
      rw [e22]
      refine ⟨fun z => by rw [cg.1.1] at z; omega, fun _ => ⟨fun _ => OUT B a1 a2, fun _ => ⟨by omega, by omega, ?_⟩⟩⟩
      rw [Int.toNat_natCast]
      obtain ⟨r, r1, r2⟩ := z92 (d := d - 1) (Q := pand (g 27 k) (pxor Q (-1))) cg n1 n2 h1 (by omega)
      refine pC1.of (by omega) r1 ?_
      rw [pmx_eq, w32_id (by omega) (by omega)]
      rintro _ rfl _ rfl
      refine ih (k + 1) _ (by omega) (fun al => ?_) (by omega) (fun b hb => ?_)
      · rw [a1 al]
        rcases r2 with ⟨r2, -⟩ | ⟨f', ⟨j, j1, j2⟩, -⟩
        · rw [r2]; omega
        · rw [n3, al j j1] at j2
          simp at j2
      · have := a2 b hb
        have hbl := plL_ge S t b
        rcases r2 with ⟨r2, -⟩ | ⟨f', ⟨j0, j1, j2⟩, j3, j4, j5⟩
        · omega
        · have so := h3 b hb
          have pk := pack (S := S) (t := t) (b := b) (f := f') (fun k hk => (cg.2.1 k hk).2.1) 7 (fun j => bt (pand (g 27 k) (pxor Q (-1))) j) (plL S t b) (by
              have : vSm (fun j => if bt (pand (g 27 k) (pxor Q (-1))) j = true then (1 : Int) else 0) S ≤ (S : Int) * 1 := (vSm_bd (by omega) S (fun i _ => by split <;> omega)).2
              omega) (fun i j hi hj hne hxi hxj => by
              rw [n3, Bool.and_eq_true] at hxi hxj
              rcases q3 i j hi hj hxi.1 hxj.1 hne with h | h | h
              · exact hb.1.2.2 i j hi hj hne h
              · exact Or.inr (hb.1.2.1 j i hj hi h)
              · exact Or.inl (hb.1.2.1 i j hi hj h)) (fun j hj hq => by have := j3 j hj hq; have := so j hj; omega) (by
              have := j3 j0 j1 j2
              have := so j0 j1
              have := hbl.2 j0 j1
              have := (cg.2.1 j0 j1).2.1
              omega) (fun j hj _ => hbl.2 j hj)
          omega
  have L1 : ∀ (m k : Nat) (g : pG) (B : Int), k + m = S → fr [29] [] G g → (∀ j, j < k → 0 ≤ g 29 j ∧ g 29 j ≤ 200000 + 20099 * (j : Int)) → (∀ j, j < k → bt Q j = true → g 29 j = G 28 j) → (∀ b, tgt S t W F Q lat (G 28) (G (31 + dp)) b → (∀ j, j < k → g 29 j ≤ b j) ∧ B ≤ plL S t b) → ((∀ j, j < k → bt Q j = true) → B = lat) → 0 ≤ B → pEnds pMT d 90 Yc R 7 [pR 22, pI (dp : Int), pI Q, pI la, pU, pI B, pI (k : Int)] [] g := by
    intro m
    induction m with
    | zero =>
      intro k g B hk f h1 h2 h3 h4 h5
      obtain rfl : k = S := by omega
      obtain ⟨cg, e28, -, e22, e23⟩ := inv g f
      refine v90_7 ⟨fun _ => ?_, fun z => by rw [cg.1.1] at z; omega⟩
      rintro _ rfl
      exact L2 g f (fun j hj => by have := h1 j hj; omega) (fun al j hj => h2 j hj (al j hj)) (fun b hb => (h3 b hb).1) k 0 B (by omega) h4 h5 (fun b hb => (h3 b hb).2)
    | succ m ih =>
      intro k g B hk f h1 h2 h3 h4 h5
      obtain ⟨cg, e28, e31, e22, e23⟩ := inv g f
      have bnd : ∀ b, tgt S t W F Q lat (G 28) (G (31 + dp)) b → ∀ j, j < k → g 29 j ≤ b j := fun b hb => (h3 b hb).1
      refine v90_7 ⟨fun z => by rw [cg.1.1] at z; omega, fun _ => pC1.of (by omega) (s119i hQ (by omega) (by omega)) ⟨fun z => ?_, fun z => ⟨by omega, by omega, by omega, by omega, pC1.of (by omega) (s119i hQ (by omega) (by omega)) ⟨fun y => ?_, fun y => absurd y z⟩⟩⟩⟩
      · have z' := Bool.eq_false_iff.mpr (b2i_0.mp z)
        have c91 := z91 (d := d - 1) (l := l) (la := la) (Q := Q) (dp := dp) cg hdp (show k < S by omega) hQ hQ2 (by omega) (fun j hj => by have := h1 j hj; omega) (by omega)
        obtain ⟨v, hv⟩ : ∃ v, v = soF (if la = -1 then g (31 + dp) k else max (g (31 + dp) k) (g 28 l)) (fun j => W k j && !bt Q j) (fun j => g 29 j + t j) k := ⟨_, rfl⟩
        rw [← hv] at c91
        have rk := rb k (by omega)
        have base : 0 ≤ (if la = -1 then g (31 + dp) k else max (g (31 + dp) k) (g 28 l)) ∧ (if la = -1 then g (31 + dp) k else max (g (31 + dp) k) (g 28 l)) ≤ 200000 := by
          rw [e31, e28]
          by_cases q : la = -1
          · rw [if_pos q]; exact rk
          · rw [if_neg q]
            rcases hl with h | ⟨-, h', h''⟩
            · exact absurd h q
            · have := tb l h' h''; omega
        have v0 : 0 ≤ v := by rw [hv]; exact Int.le_trans base.1 (soF_ge k)
        have v1 : v ≤ 200000 + 20099 * (k : Int) := by
          rw [hv]
          refine soF_le (by omega) k (fun j hj _ => ?_)
          have := h1 j hj
          have := (cg.2.1 j (by omega)).2.2
          omega
        have v2 : ∀ b, tgt S t W F Q lat (G 28) (G (31 + dp)) b → v ≤ b k := by
          intro b hb
          rw [hv]
          refine soF_le ?_ k (fun j hj hc => ?_)
          · rw [e31, e28]
            have r1 := hb.2.2.1 k (by omega) z'
            by_cases q : la = -1
            · rw [if_pos q]; exact r1
            · rw [if_neg q]
              rcases hl with h | ⟨-, h', h''⟩
              · exact absurd h q
              · have o := hb.2.1.2 l k h' (by omega) h'' z'
                have e := hb.2.1.1 l h' h''
                omega
          · rw [Bool.and_eq_true] at hc
            have := bnd b hb j hj
            have := hb.1.2.1 j k (by omega) (by omega) hc.1
            omega
        obtain ⟨T1, T2, T3⟩ := cg.2.2.2.2.1 k (by omega)
        refine pC1.of (by omega) c91 ⟨by omega, by omega, pC1.of (by omega) (s119i hQ (by omega) (by omega)) ⟨fun y => absurd z y, fun y => ⟨by omega, by omega, by omega, by omega, ?_⟩⟩⟩
        rw [Int.toNat_natCast, pset_eq, pset_cl (b := 25) _ _ (by decide), T1, pmx_eq, w32_id (x := v + T k) (by omega) (by omega), w32_id (by omega) (by omega)]
        rintro _ rfl _ rfl
        refine ih (k + 1) _ _ (by omega) (f.trans (fr.set (by decide) (by decide) _ _ _)) (fun j hj => ?_) (fun j hj hq => ?_) (fun b hb => ⟨fun j hj => ?_, ?_⟩) (fun al => ?_) (by omega)
        · rw [pset_at, if_pos rfl]
          by_cases e : j = k
          · rw [if_pos e, e]; exact ⟨v0, v1⟩
          · rw [if_neg e]; exact h1 j (by omega)
        · rw [pset_at, if_pos rfl]
          by_cases e : j = k
          · rw [e, z'] at hq; exact absurd hq (by decide)
          · rw [if_neg e]; exact h2 j (by omega) hq
        · rw [pset_at, if_pos rfl]
          by_cases e : j = k
          · rw [if_pos e, e]; exact v2 b hb
          · rw [if_neg e]; exact bnd b hb j (by omega)
        · have := (h3 b hb).2
          have := v2 b hb
          have := tail_le (T := T) cg.2.2.2.2.2.1 hb.1 (S - k) k (by omega) (by omega)
          omega
        · have := al k (by omega)
          rw [z'] at this
          exact absurd this (by decide)
      · have z' := b2i_n0.mp z
        rw [Int.toNat_natCast, w32_id (by omega) (by omega), e28]
        rintro _ rfl
        have tk := tb k (by omega) z'
        refine ih (k + 1) _ B (by omega) (f.trans (fr.set (by decide) (by decide) _ _ _)) (fun j hj => ?_) (fun j hj hq => ?_) (fun b hb => ⟨fun j hj => ?_, (h3 b hb).2⟩) (fun al => h4 (fun j hj => al j (by omega))) h5
        · rw [pset_at, if_pos rfl]
          by_cases e : j = k
          · rw [if_pos e]; omega
          · rw [if_neg e]; exact h1 j (by omega)
        · rw [pset_at, if_pos rfl]
          by_cases e : j = k
          · rw [if_pos e, e]
          · rw [if_neg e]; exact h2 j (by omega) hq
        · rw [pset_at, if_pos rfl]
          by_cases e : j = k
          · rw [if_pos e, e]
            have := hb.2.1.1 k (by omega) z'
            omega
          · rw [if_neg e]; exact bnd b hb j (by omega)
  intro x5 hx5 x6 hx6
  rw [hx5, hx6]
  exact L1 S 0 G lat (by omega) (fr.refl _ _ _) (fun j hj => by omega) (fun j hj => by omega) (fun b hb => ⟨fun j hj => by omega, hb.2.2.2⟩) (fun _ => rfl) l0
