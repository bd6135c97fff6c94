/-! bits of numbers -/
def bt (a : Int) (k : Nat) : Bool := a.toNat.testBit k
theorem bit_i {a : Int} {k : Nat} (h0 : 0 ≤ a) (h1 : a < 2147483648) (hk : k < 31) : pand (pshr a (k : Int)) 1 = b2i (bt a k = true) := by
  obtain ⟨n, rfl⟩ : ∃ n : Nat, a = (n : Int) := ⟨a.toNat, by omega⟩
  rw [bit_nn (by omega) hk]
  rfl
theorem s119i {d : Nat} {G : pG} {a : Int} {k : Nat} (h0 : 0 ≤ a) (h1 : a < 2147483648) (hk : k < 31) : pRuns pMT d 119 [pI a, pI (k : Int)] Yc G (some (pI (b2i (bt a k = true)))) G := by
  obtain ⟨n, rfl⟩ : ∃ n : Nat, a = (n : Int) := ⟨a.toNat, by omega⟩
  exact s119 (by omega) hk
theorem bt_big {a : Int} {k n : Nat} (h0 : 0 ≤ a) (h1 : a < 2 ^ n) (hk : n ≤ k) : bt a k = false := by
  obtain ⟨m, rfl⟩ : ∃ m : Nat, a = (m : Int) := ⟨a.toNat, by omega⟩
  have h2 : m < 2 ^ n := by have : ((2 ^ n : Nat) : Int) = (2 : Int) ^ n := by simp
                            omega
  unfold bt
  rw [Int.toNat_natCast]
  exact Nat.testBit_lt_two_pow (Nat.lt_of_lt_of_le h2 (Nat.pow_le_pow_right (by omega) hk))
theorem por_set {a : Int} {k : Nat} (h0 : 0 ≤ a) (h1 : a < 2147483648) (hk : k < 31) : 0 ≤ por a (pshl 1 (k : Int)) ∧ por a (pshl 1 (k : Int)) < 2147483648 ∧ (∀ j : Nat, bt (por a (pshl 1 (k : Int))) j = (bt a j || decide (j = k))) ∧ ∀ n : Nat, k < n → n < 31 → a < 2 ^ n → por a (pshl 1 (k : Int)) < 2 ^ n := by
  obtain ⟨n, rfl⟩ : ∃ n : Nat, a = (n : Int) := ⟨a.toNat, by omega⟩
  have h2 : (2 : Nat) ^ k < 2 ^ 31 := Nat.pow_lt_pow_right (by omega) hk
  rw [pshl_1 hk, por_nn (by omega) (by omega)]
  have h3 : n ||| 2 ^ k < 2 ^ 31 := Nat.or_lt_two_pow (by omega) h2
  refine ⟨by omega, by omega, fun j => ?_, fun m hm hm2 hn => ?_⟩
  · unfold bt
    rw [Int.toNat_natCast, Int.toNat_natCast, Nat.testBit_or, Nat.testBit_two_pow]
    by_cases e : j = k
    · subst e; simp
    · simp [e, Ne.symm e]
  · have e : ((2 ^ m : Nat) : Int) = (2 : Int) ^ m := by simp
    have h4 : n ||| 2 ^ k < 2 ^ m := Nat.or_lt_two_pow (by omega) (Nat.pow_lt_pow_right (by omega) hm)
    omega
theorem vBits_bd (P : Nat → Bool) : ∀ n : Nat, n ≤ 30 → 0 ≤ vBits P n ∧ vBits P n < 2 ^ n ∧ ∀ j : Nat, bt (vBits P n) j = (decide (j < n) && P j)
  | 0, _ => ⟨by unfold vBits; omega, by unfold vBits; decide, fun j => by simp [bt, vBits]⟩
  | n + 1, h => by
    obtain ⟨i1, i2, i3⟩ := vBits_bd P n (by omega)
    have e2 : (2 : Int) ^ (n + 1) = 2 * 2 ^ n := by rw [Int.pow_succ]; omega
    have e3 : ((2 ^ n : Nat) : Int) = (2 : Int) ^ n := by simp
    have e4 : (2 : Nat) ^ n < 2 ^ 31 := Nat.pow_lt_pow_right (by omega) (by omega)
    unfold vBits
    split
    · next hp =>
      obtain ⟨k1, k2, k3, k4⟩ := por_set i1 (by omega) (show n < 31 by omega)
      refine ⟨k1, k4 (n + 1) (by omega) (by omega) (by omega), fun j => ?_⟩
      rw [k3 j, i3 j]
      by_cases e : j = n
      · subst e; simp [hp]
      · have : (j < n + 1) ↔ j < n := by omega
        simp [e, this]
    · next hp =>
      refine ⟨i1, by omega, fun j => ?_⟩
      rw [i3 j]
      by_cases e : j = n
      · subst e; simp [hp]
      · have : (j < n + 1) ↔ j < n := by omega
        simp [this]
/-- two steps that may not be at work together -/
def vFi (G : pG) (k l : Nat) : Bool := decide (G 115 k = G 115 l) || bt (G 114 (G 115 k).toNat) (G 115 l).toNat
/-- step l waits for step k -/
def vWt (G : pG) (l k : Nat) : Bool := bt (G 118 l) k
def vAp (G : pG) (k j : Nat) : Bool := decide (j ≠ k) && vFi G k j
theorem s193 {d : Nat} {G : pG} {k l : Nat} (hP : rPart G) (hk : (k : Int) < G 109 11) (hl : (l : Int) < G 109 11) : pRuns pMT d 193 [pR 109, pI (k : Int), pI (l : Int)] Yc G (some (pI (b2i (vFi G k l = true)))) G := by
  have := hP.n1
  have := hP.t1
  obtain ⟨-, -, -, -, u1, u2, -⟩ := hP.step k hk
  obtain ⟨-, -, -, -, w1, w2, -⟩ := hP.step l hl
  obtain ⟨-, -, -, -, -, -, -, m1, m2⟩ := hP.tool (G 115 k).toNat (by omega)
  refine pRuns.of rfl rfl (v193_0 ?_)
  rw [Int.toNat_natCast, Int.toNat_natCast, show G 115 l = (((G 115 l).toNat : Nat) : Int) by omega, bit_i m1 (by omega) (by omega), ← show G 115 l = (((G 115 l).toNat : Nat) : Int) by omega]
  refine ⟨by omega, by omega, by omega, by omega, fun h => ⟨Or.inr rfl, q1 (by simp [vFi, h]), rfl⟩, fun h => ⟨by omega, by omega, by omega, by omega, by omega, by omega, fun g => ⟨Or.inl rfl, q0 ?_, rfl⟩, fun g => ⟨Or.inr rfl, q1 ?_, rfl⟩⟩⟩
  · have g1 : ¬ bt (G 114 (G 115 k).toNat) (G 115 l).toNat = true := fun q => g (b2i_t q)
    simp [vFi, h, g1]
  · have g1 := b2i_1.mp g
    simp [vFi, g1]
theorem s64 {d : Nat} {G : pG} {k : Nat} (hP : rPart G) (hk : (k : Int) < G 109 11) (hd : 1 ≤ d) : pRuns pMT d 64 [pR 3, pI (k : Int)] Yc G (some (pI (vBits (vAp G k) (G 109 11).toNat))) G := by
  have n0 := hP.n0
  have n1 := hP.n1
  have := hP.t1
  obtain ⟨f1, -, -, -, u1, u2, -⟩ := hP.step k hk
  obtain ⟨-, -, g3, -, -, -, -, m1, m2⟩ := hP.tool (G 115 k).toNat (by omega)
  refine pRuns.of rfl rfl (v64_0 ?_)
  suffices H : ∀ (n i : Nat), (i : Int) + n = G 109 11 → pEnds pMT d 64 Yc (fun r' g => r' = some (pI (vBits (vAp G k) (G 109 11).toNat)) ∧ g = G) 4 [pR 3, pI (k : Int), pI (vBits (vAp G k) i), pI (i : Int), pU] [] G by
    rintro _ rfl _ rfl
    exact H (G 109 11).toNat 0 (by omega)
  intro n
  induction n with
  | zero => exact fun i hi => v64_4 (by rw [hP.steps]; exact ⟨fun _ => rI (by rw [show (G 109 11).toNat = i by omega]) rfl, fun h => by omega⟩)
  | succ n ih =>
    intro i hi
    have e : w32 ((i : Int) + 1) = ((i + 1 : Nat) : Int) := by rw [w32_id (by omega) (by omega)]; rfl
    have nx := ih (i + 1) (by omega)
    have hi' : (i : Int) < G 109 11 := by omega
    obtain ⟨c1, -, -, -, w1, w2, -⟩ := hP.step i hi'
    have na : vAp G k i = false → pEnds pMT d 64 Yc (fun r' g => r' = some (pI (vBits (vAp G k) (G 109 11).toNat)) ∧ g = G) 4 [pR 3, pI (k : Int), pI (vBits (vAp G k) i), pI ((i + 1 : Nat) : Int), pU] [] G := fun q => by rwa [vBits_f q] at nx
    have ya : vAp G k i = true → pEnds pMT d 64 Yc (fun r' g => r' = some (pI (vBits (vAp G k) (G 109 11).toNat)) ∧ g = G) 4 [pR 3, pI (k : Int), pI (por (vBits (vAp G k) i) (pshl 1 (i : Int))), pI ((i + 1 : Nat) : Int), pU] [] G := fun q => by rwa [vBits_t q] at nx
    refine v64_4 ?_
    rw [hP.steps, e, Int.toNat_natCast, Int.toNat_natCast, f1, c1, g3]
    refine ⟨fun h => by omega, fun h => ⟨by omega, by omega, by omega, by omega, fun g => ?_, fun g => ⟨by omega, by omega, by omega, by omega, by omega, by omega, ?_⟩⟩⟩
    · rintro _ rfl
      refine ⟨fun q => ?_, fun q => ⟨fun q => by omega, fun _ => ?_⟩⟩
      · rintro _ rfl
        exact na (by simp [vAp]; omega)
      · rintro _ rfl _ rfl
        exact ya (by simp [vAp, vFi, g]; omega)
    · rw [show G 115 i = (((G 115 i).toNat : Nat) : Int) by omega]
      refine pC1.of hd (s119i m1 (by omega) (by omega)) ⟨fun q => ?_, fun q => ?_⟩
      · have q := b2i_0.mp q
        rintro _ rfl
        refine ⟨fun q => ?_, fun _ => ⟨fun _ => ?_, fun q => absurd rfl q⟩⟩
        · rintro _ rfl
          exact na (by simp [vAp]; omega)
        · rintro _ rfl
          exact na (by simp [vAp, vFi, q]; exact fun _ e => g e.symm)
      · have q := b2i_n0.mp q
        rintro _ rfl
        refine ⟨fun q => ?_, fun q' => ⟨fun q => by omega, fun _ => ?_⟩⟩
        · rintro _ rfl
          exact na (by simp [vAp]; omega)
        · rintro _ rfl _ rfl
          exact ya (by simp [vAp, vFi, q]; omega)
/-- what the class keeps of the part's steps -/
def rCch (G : pG) : Prop := ∀ k : Nat, (k : Int) < G 109 11 → G 24 k = vTn G k ∧ G 26 k = vBits (vAp G k) (G 109 11).toNat
/-- the plan may be carried out -/
def rFea (G : pG) : Prop := ∀ k l : Nat, (k : Int) < G 109 11 → (l : Int) < G 109 11 → (vWt G l k = true → G 152 k + vTn G k ≤ G 152 l) ∧ (k ≠ l → vFi G k l = true → G 152 k + vTn G k ≤ G 152 l ∨ G 152 l + vTn G l ≤ G 152 k)
def vHd1 (G : pG) (k j : Nat) : Bool := (vAp G k j || vWt G j k) && decide (G 152 j = G 152 k + vTn G k)
/-- held -/
def vHd (G : pG) (k : Nat) : Bool := decide (G 109 34 ≤ G 152 k + vTn G k) || vAny (vHd1 G k) (G 109 11).toNat
theorem s93 {d : Nat} {G : pG} {k : Nat} (hP : rPart G) (hL : rPl G) (hp : rPlan G) (hC : rCch G) (hk : (k : Int) < G 109 11) (hd : 1 ≤ d) : pRuns pMT d 93 [pR 22, pI (k : Int)] Yc G (some (pI (b2i (vHd G k = true)))) G := by
  have n0 := hP.n0
  have n1 := hP.n1
  obtain ⟨c1, c2⟩ := hC k hk
  obtain ⟨b1, b2, b3, b4⟩ := vTn_bd hP hk
  obtain ⟨p1, p2⟩ := hL.2.2 k hk
  have := hL.2.1
  obtain ⟨v1, v2, v3⟩ := vBits_bd (vAp G k) (G 109 11).toNat (by omega)
  have v4 : vBits (vAp G k) (G 109 11).toNat < 2147483648 := by
    have h1 : ((2 ^ (G 109 11).toNat : Nat) : Int) = (2 : Int) ^ (G 109 11).toNat := by simp
    have h2 : (2 : Nat) ^ (G 109 11).toNat ≤ 2 ^ 7 := Nat.pow_le_pow_right (by omega) (by omega)
    omega
  refine pRuns.of rfl rfl (v93_0 ?_)
  rw [Int.toNat_natCast, hp.2 k hk, c1, hp.1, w32_id (by omega) (by omega)]
  refine ⟨by omega, by omega, by omega, by omega, ?_⟩
  rintro x hx
  suffices H : x < G 109 34 → ∀ (n i : Nat), (i : Int) + n = G 109 11 → (∀ j, j < i → vHd1 G k j = false) → pEnds pMT d 93 Yc (fun r' g => r' = some (pI (b2i (vHd G k = true))) ∧ g = G) 26 [pR 22, pI (k : Int), pI x, pI (i : Int), pU] [] G by
    refine ⟨fun h => ?_, fun h => ⟨Or.inr rfl, q1 (by unfold vHd; rw [decide_eq_true (by omega)]; rfl), rfl⟩⟩
    rintro _ rfl
    exact H h (G 109 11).toNat 0 (by omega) (fun j hj => by omega)
  intro hlt n
  induction n with
  | zero => exact fun i hi hn => v93_26 (by rw [hP.steps]; exact ⟨fun _ => ⟨Or.inl rfl, q0 (by unfold vHd; rw [decide_eq_false (by omega), show (G 109 11).toNat = i by omega, vAny_no hn]; decide), rfl⟩, fun h => by omega⟩)
  | succ n ih =>
    intro i hi hn
    have e : w32 ((i : Int) + 1) = ((i + 1 : Nat) : Int) := by rw [w32_id (by omega) (by omega)]; rfl
    have nx : vHd1 G k i = false → pEnds pMT d 93 Yc (fun r' g => r' = some (pI (b2i (vHd G k = true))) ∧ g = G) 26 [pR 22, pI (k : Int), pI x, pI ((i + 1 : Nat) : Int), pU] [] G := fun q => ih (i + 1) (by omega) (fun j hj => by
      by_cases e : j = i
      · subst e; exact q
      · exact hn j (by omega))
    have yx : vHd1 G k i = true → (some (pI 1) : Option pV) = some (pI (b2i (vHd G k = true))) := fun q => q1 (by
      unfold vHd
      rw [(vAny_ex _ _).mpr ⟨i, by omega, q⟩, Bool.or_true])
    have hi' : (i : Int) < G 109 11 := by omega
    obtain ⟨-, -, -, r4, -, -, -, -, -, -, w0, w1⟩ := hP.step i hi'
    have w2 : G 118 i < 2147483648 := by
      have h1 : ((2 ^ i : Nat) : Int) = (2 : Int) ^ i := by simp
      have h2 : (2 : Nat) ^ i ≤ 2 ^ 7 := Nat.pow_le_pow_right (by omega) (by omega)
      omega
    have eb : bt (vBits (vAp G k) (G 109 11).toNat) i = vAp G k i := by rw [v3 i, decide_eq_true (by omega)]; rfl
    refine v93_26 ?_
    rw [hP.steps, e, Int.toNat_natCast, c2, Int.toNat_natCast]
    refine ⟨fun h => by omega, fun h => ⟨by omega, by omega, pC1.of hd (s119i v1 v4 (by omega)) ⟨fun g => ?_, fun g => ⟨by omega, by omega, pC1.of hd (r := b2i (bt (G 118 i) k = true)) (by rw [r4]; exact s119i w0 w2 (by omega)) ⟨fun g2 => ?_, fun g2 => ?_⟩⟩⟩⟩⟩
    · have g := b2i_n0.mp g
      rw [eb] at g
      rintro _ rfl
      rw [hp.2 i hi']
      refine ⟨fun q => by omega, fun _ => ⟨by omega, by omega, fun g3 => ?_, fun g3 => ⟨Or.inr rfl, yx (by simp [vHd1, g]; omega), rfl⟩⟩⟩
      rintro _ rfl
      exact nx (by simp [vHd1, g]; omega)
    · have g := b2i_0.mp g
      rw [eb] at g
      have g2 := b2i_0.mp g2
      rintro _ rfl
      refine ⟨fun _ => ?_, fun q => absurd rfl q⟩
      rintro _ rfl
      exact nx (by simp [vHd1, vWt, g, g2])
    · have g2 := b2i_n0.mp g2
      rintro _ rfl
      rw [hp.2 i hi']
      refine ⟨fun q => by omega, fun _ => ⟨by omega, by omega, fun g3 => ?_, fun g3 => ⟨Or.inr rfl, yx (by simp [vHd1, vWt, g2]; omega), rfl⟩⟩⟩
      rintro _ rfl
      exact nx (by simp [vHd1, vWt, g2]; omega)
theorem s201 {d : Nat} {G : pG} {x : Int} (hP : rPart G) (hL : rPl G) (hF : rFea G) (hd : 2 ≤ d) : pRuns pMT d 201 [pR 109, pI x] Yc G (some (pI (if 0 ≤ x ∧ x ≤ G 109 11 - 1 then b2i (vHd G x.toNat = true) else -2))) G := by
  have n0 := hP.n0
  have n1 := hP.n1
  have := hL.2.1
  refine pRuns.of rfl rfl (v201_0 (pC1.of (by omega) (s198 hP (by omega)) ⟨fun h => ?_, fun h => rI (by rw [if_neg (b2i_0.mp h)]) rfl⟩))
  have h := b2i_n0.mp h
  rw [if_pos h]
  obtain ⟨k, rfl⟩ : ∃ k : Nat, x = (k : Int) := ⟨x.toNat, by omega⟩
  rw [Int.toNat_natCast]
  have hk : (k : Int) < G 109 11 := by omega
  obtain ⟨b1, b2, b3, b4⟩ := vTn_bd hP hk
  obtain ⟨p1, p2⟩ := hL.2.2 k hk
  refine ⟨by omega, by omega, pC1.of (by omega) (s192 hP hk) ?_⟩
  rw [w32_id (x := G 152 k + vTn G k) (by omega) (by omega), w32_id (by omega) (by omega)]
  intro x2 hx2
  suffices H : x2 ≤ G 109 34 → ∀ (n i : Nat), (i : Int) + n = G 109 11 → (∀ j, j < i → vHd1 G k j = false) → pEnds pMT d 201 Yc (fun r' g => r' = some (pI (b2i (vHd G k = true))) ∧ g = G) 38 [pR 109, pI (k : Int), pI x2, pI (i : Int), pU] [] G by
    refine ⟨fun h => ?_, fun h => ⟨q1 (by unfold vHd; rw [decide_eq_true (by omega)]; rfl), rfl⟩⟩
    rintro _ rfl
    exact H h (G 109 11).toNat 0 (by omega) (fun j hj => by omega)
  intro hlt n
  induction n with
  | zero => exact fun i hi hn => v201_38 ⟨fun _ => ⟨q0 (by unfold vHd; rw [decide_eq_false (by omega), show (G 109 11).toNat = i by omega, vAny_no hn]; decide), rfl⟩, fun h => by omega⟩
  | succ n ih =>
    intro i hi hn
    have e : w32 ((i : Int) + 1) = ((i + 1 : Nat) : Int) := by rw [w32_id (by omega) (by omega)]; rfl
    have nx : vHd1 G k i = false → pEnds pMT d 201 Yc (fun r' g => r' = some (pI (b2i (vHd G k = true))) ∧ g = G) 134 [pR 109, pI (k : Int), pI x2, pI (i : Int), pU] [] G := fun q => v201_134 (by
      rw [e]
      rintro _ rfl
      exact ih (i + 1) (by omega) (fun j hj => by
        by_cases e : j = i
        · subst e; exact q
        · exact hn j (by omega)))
    have yx : vHd1 G k i = true → pEnds pMT d 201 Yc (fun r' g => r' = some (pI (b2i (vHd G k = true))) ∧ g = G) 132 [pU, pU, pU, pU, pU] [] G := fun q => v201_132 ⟨q1 (by
      unfold vHd
      rw [(vAny_ex _ _).mpr ⟨i, by omega, q⟩, Bool.or_true]), rfl⟩
    have hi' : (i : Int) < G 109 11 := by omega
    obtain ⟨-, -, -, -, -, -, -, -, -, -, w0, w1⟩ := hP.step i hi'
    have w2 : G 118 i < 2147483648 := by
      have h1 : ((2 ^ i : Nat) : Int) = (2 : Int) ^ i := by simp
      have h2 : (2 : Nat) ^ i ≤ 2 ^ 7 := Nat.pow_le_pow_right (by omega) (by omega)
      omega
    obtain ⟨a1, a2, a3, a4⟩ := vTn_bd hP hi'
    obtain ⟨c1, c2⟩ := hL.2.2 i hi'
    obtain ⟨F1, F2⟩ := hF k i hk hi'
    have m82 : i ≠ k → (vWt G i k = true → x2 ≤ G 152 i) → pEnds pMT d 201 Yc (fun r' g => r' = some (pI (b2i (vHd G k = true))) ∧ g = G) 82 [pR 109, pI (k : Int), pI x2, pI (i : Int), pU] [] G := by
      intro hne hw
      refine v201_82 ?_
      rintro _ rfl
      refine ⟨fun q => absurd rfl q, fun _ => pC1.of (by omega) (s193 hP hk hi') ⟨fun g => ?_, fun g => ⟨by omega, by omega, ?_⟩⟩⟩
      · have g := b2i_0.mp g
        refine nx ?_
        cases hv : vWt G i k with
        | false => simp [vHd1, vAp, g, hv]
        | true => have := hw hv; simp [vHd1]; intro _; omega
      · have g := b2i_n0.mp g
        rw [Int.toNat_natCast, Int.toNat_natCast]
        refine ⟨fun g2 => nx ?_, fun g2 => ⟨by omega, by omega, by omega, by omega, pC1.of (by omega) (s192 hP hi') ?_⟩⟩
        · simp [vHd1]; intro _; omega
        · rw [w32_id (by omega) (by omega), w32_id (by omega) (by omega)]
          have F3 := F2 (Ne.symm hne) g
          refine ⟨fun g3 => nx ?_, fun g3 => yx ?_⟩
          · simp [vHd1]; intro _; omega
          · simp [vHd1, vAp, g, hne]; omega
    refine v201_38 ⟨fun h => by omega, fun h => ⟨fun g => ⟨by omega, by omega, ?_⟩, fun g => nx ?_⟩⟩
    · rw [Int.toNat_natCast, bit_i w0 w2 (by omega)]
      refine ⟨fun g2 => m82 (by omega) (fun q => absurd (b2i_t q) g2), fun g2 => ⟨by omega, by omega, fun g3 => m82 (by omega) (fun _ => g3), fun g3 => ?_⟩⟩
      have g2 := b2i_1.mp g2
      rintro _ rfl
      refine ⟨fun _ => yx ?_, fun q => by omega⟩
      have F3 := F1 g2
      simp [vHd1, vWt, g2]; omega
    · obtain rfl : i = k := by omega
      have : vWt G i i = false := bt_big w0 w1 (by omega)
      simp [vHd1, vAp, this]
theorem s135 {d : Nat} {G : pG} {x : Int} (hP : rPart G) (hL : rPl G) (hp : rPlan G) (hC : rCch G) (hd : 2 ≤ d) : pRuns pMT d 135 [pR 0, pI x] Yc G (some (pI (if 0 ≤ x ∧ x ≤ G 109 11 - 1 then b2i (vHd G x.toNat = true) else -2))) G := by
  refine pRuns.of rfl rfl (v135_0 (pC1.of (by omega) (s121 hP (by omega)) ⟨fun h => ?_, fun h => rI (by rw [if_neg (b2i_0.mp h)]) rfl⟩))
  have h := b2i_n0.mp h
  rw [if_pos h]
  obtain ⟨k, rfl⟩ : ∃ k : Nat, x = (k : Int) := ⟨x.toNat, by omega⟩
  rw [Int.toNat_natCast]
  exact pC1.of (by omega) (s93 hP hL hp hC (by omega) (by omega)) ⟨fun q => rI q.symm rfl, fun q => rI (by rw [b2i_t (b2i_n0.mp q)]) rfl⟩
theorem pr_held {Rel : pG → Prop} (h : ∀ G, Rel G → rPart G ∧ rPl G ∧ rPlan G ∧ rCch G ∧ rFea G) (x : Int) : pPr Rel 135 201 [pI x] := pPr.ro fun G hR => ⟨_, s135 (h G hR).1 (h G hR).2.1 (h G hR).2.2.1 (h G hR).2.2.2.1 (by omega), s201 (h G hR).1 (h G hR).2.1 (h G hR).2.2.2.2 (by omega)⟩
