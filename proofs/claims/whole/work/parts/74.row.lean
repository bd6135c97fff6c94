/-! gaps: where a step fits -/
def gC (S : Nat → Bool) (b e : Nat → Int) (len s : Int) (j : Nat) : Bool := S j && decide (b j < s + len) && decide (s < e j)
def psF (S : Nat → Bool) (b e : Nat → Int) (len s : Int) : Nat → Option Nat
  | 0 => none
  | n + 1 => match psF S b e len s n with
    | some j => some j
    | none => if gC S b e len s n = true then some n else none
def psh (S : Nat → Bool) (b e : Nat → Int) (len : Int) (N : Nat) (s : Int) : Int := match psF S b e len s N with
  | some j => e j
  | none => s
def itG (S : Nat → Bool) (b e : Nat → Int) (len : Int) (N : Nat) (s : Int) : Nat → Int
  | 0 => s
  | n + 1 => psh S b e len N (itG S b e len N s n)
def gFr (S : Nat → Bool) (b e : Nat → Int) (len : Int) (N : Nat) (t : Int) : Prop := ∀ j : Nat, j < N → gC S b e len t j = false
theorem psF_some {S : Nat → Bool} {b e : Nat → Int} {len s : Int} : ∀ {n j : Nat}, psF S b e len s n = some j → j < n ∧ gC S b e len s j = true
  | 0, j, h => by simp [psF] at h
  | n + 1, j, h => by
    unfold psF at h
    cases q : psF S b e len s n with
    | some i =>
      rw [q] at h
      simp at h
      subst h
      have := psF_some q
      exact ⟨by omega, this.2⟩
    | none =>
      rw [q] at h
      simp at h
      obtain ⟨h1, rfl⟩ := h
      exact ⟨by omega, h1⟩
theorem psF_none {S : Nat → Bool} {b e : Nat → Int} {len s : Int} : ∀ {n : Nat}, psF S b e len s n = none → ∀ j : Nat, j < n → gC S b e len s j = false
  | 0, _, j, hj => by omega
  | n + 1, h, j, hj => by
    unfold psF at h
    cases q : psF S b e len s n with
    | some i => rw [q] at h; simp at h
    | none =>
      rw [q] at h
      simp at h
      by_cases e : j = n
      · subst e; exact h
      · exact psF_none q j (by omega)
theorem gC_e {S : Nat → Bool} {b e : Nat → Int} {len s : Int} {j : Nat} : gC S b e len s j = true ↔ S j = true ∧ b j < s + len ∧ s < e j := by
  unfold gC
  simp [and_assoc]
theorem psh_step {S : Nat → Bool} {b e : Nat → Int} {len : Int} {N : Nat} (s : Int) : (gFr S b e len N s ∧ psh S b e len N s = s) ∨ (∃ j : Nat, j < N ∧ S j = true ∧ psh S b e len N s = e j ∧ s < e j ∧ ∀ t : Int, s ≤ t → t < e j → ¬ gFr S b e len N t) := by
  unfold psh
  cases q : psF S b e len s N with
  | none => exact Or.inl ⟨psF_none q, rfl⟩
  | some j =>
    obtain ⟨h1, h2⟩ := psF_some q
    obtain ⟨h3, h4, h5⟩ := gC_e.mp h2
    refine Or.inr ⟨j, h1, h3, rfl, h5, fun t ht1 ht2 hf => ?_⟩
    have := hf j h1
    rw [gC_e.mpr ⟨h3, by omega, ht2⟩] at this
    exact absurd this (by decide)
def gI (S : Nat → Bool) (e : Nat → Int) (s : Int) (j : Nat) : Int := if S j = true ∧ s < e j then 1 else 0
theorem vSm_le {f g : Nat → Int} : ∀ n : Nat, (∀ i, i < n → f i ≤ g i) → vSm f n ≤ vSm g n
  | 0, _ => Int.le_refl _
  | n + 1, h => by
    have h1 := vSm_le n (fun i hi => h i (by omega))
    have h2 := h n (by omega)
    show vSm f n + f n ≤ vSm g n + g n
    omega
theorem vSm_lt {f g : Nat → Int} {j : Nat} : ∀ n : Nat, j < n → (∀ i, i < n → f i ≤ g i) → f j + 1 ≤ g j → vSm f n + 1 ≤ vSm g n
  | 0, hj, _, _ => by omega
  | n + 1, hj, h, hs => by
    have h2 := h n (by omega)
    show vSm f n + f n + 1 ≤ vSm g n + g n
    by_cases e : j = n
    · subst e
      have h1 := vSm_le j (fun i hi => h i (by omega))
      omega
    · have h1 := vSm_lt n (by omega) (fun i hi => h i (by omega)) hs
      omega
theorem gI_mono (S : Nat → Bool) (e : Nat → Int) {s s' : Int} (h : s ≤ s') (i : Nat) : gI S e s' i ≤ gI S e s i := by
  unfold gI
  by_cases q : S i = true ∧ s' < e i
  · rw [if_pos q, if_pos ⟨q.1, by omega⟩]; omega
  · rw [if_neg q]; split <;> omega
theorem itG_pr {S : Nat → Bool} {b e : Nat → Int} {len : Int} {N : Nat} (s : Int) : ∀ n : Nat, s ≤ itG S b e len N s n ∧ (∀ t : Int, s ≤ t → t < itG S b e len N s n → ¬ gFr S b e len N t) ∧ (itG S b e len N s n = s ∨ ∃ j : Nat, j < N ∧ S j = true ∧ itG S b e len N s n = e j) ∧ (gFr S b e len N (itG S b e len N s n) ∨ vSm (gI S e (itG S b e len N s n)) N + (n : Int) ≤ vSm (gI S e s) N) := by
  intro n
  induction n with
  | zero =>
    refine ⟨Int.le_refl _, fun t h1 h2 => ?_, Or.inl rfl, Or.inr ?_⟩
    · have : t < s := h2
      omega
    · show vSm (gI S e s) N + 0 ≤ _; omega
  | succ n ih =>
    obtain ⟨i1, i2, i3, i4⟩ := ih
    have en : itG S b e len N s (n + 1) = psh S b e len N (itG S b e len N s n) := rfl
    rcases psh_step (S := S) (b := b) (e := e) (len := len) (N := N) (itG S b e len N s n) with ⟨h1, h2⟩ | ⟨j, h1, h2, h3, h4, h5⟩
    · rw [en, h2]
      exact ⟨i1, i2, i3, Or.inl h1⟩
    · rw [en, h3]
      refine ⟨by omega, fun t ht1 ht2 => ?_, Or.inr ⟨j, h1, h2, rfl⟩, Or.inr ?_⟩
      · by_cases q : t < itG S b e len N s n
        · exact i2 t ht1 q
        · exact h5 t (by omega) ht2
      · rcases i4 with i4 | i4
        · exact absurd i4 (h5 _ (Int.le_refl _) h4)
        · have := vSm_lt (f := gI S e (e j)) (g := gI S e (itG S b e len N s n)) (j := j) N h1 (fun i hi => gI_mono S e (by omega) i) (by unfold gI; rw [if_neg (by omega), if_pos ⟨h2, h4⟩]; omega)
          omega
theorem itG_fr {S : Nat → Bool} {b e : Nat → Int} {len : Int} {N : Nat} (s : Int) : gFr S b e len N (itG S b e len N s N) := by
  rcases (itG_pr (S := S) (b := b) (e := e) (len := len) (N := N) s N).2.2.2 with h | h
  · exact h
  · intro j hj
    have b1 := vSm_bd (f := gI S e s) (B := 1) (by omega) N (fun i _ => by unfold gI; split <;> omega)
    have b2 := vSm_bd (f := gI S e (itG S b e len N s N)) (B := 1) (by omega) N (fun i _ => by unfold gI; split <;> omega)
    cases q : gC S b e len (itG S b e len N s N) j with
    | false => rfl
    | true =>
      exfalso
      obtain ⟨h3, h4, h5⟩ := gC_e.mp q
      have := vSm_lt (f := fun _ => 0) (g := gI S e (itG S b e len N s N)) (j := j) N hj (fun i hi => by unfold gI; split <;> omega) (by unfold gI; rw [if_pos ⟨h3, h5⟩]; omega)
      rw [vSm_z] at this
      omega
/-- the latest end among those that are -/
def lowF (P : Nat → Bool) (e : Nat → Int) : Nat → Int
  | 0 => 0
  | n + 1 => if P n = true then max (lowF P e n) (e n) else lowF P e n
theorem lowF_ge {P : Nat → Bool} {e : Nat → Int} : ∀ n : Nat, 0 ≤ lowF P e n ∧ (∀ j : Nat, j < n → P j = true → e j ≤ lowF P e n) ∧ (lowF P e n = 0 ∨ ∃ j : Nat, j < n ∧ P j = true ∧ lowF P e n = e j)
  | 0 => ⟨Int.le_refl _, fun j hj => by omega, Or.inl rfl⟩
  | n + 1 => by
    obtain ⟨h1, h2, h3⟩ := lowF_ge (P := P) (e := e) n
    unfold lowF
    by_cases q : P n = true
    · rw [if_pos q]
      refine ⟨by omega, fun j hj hp => ?_, ?_⟩
      · by_cases z : j = n
        · subst z; omega
        · have := h2 j (by omega) hp; omega
      · by_cases z : lowF P e n ≤ e n
        · exact Or.inr ⟨n, by omega, q, by omega⟩
        · rcases h3 with h3 | ⟨j, a1, a2, a3⟩
          · exact Or.inl (by omega)
          · exact Or.inr ⟨j, by omega, a2, by omega⟩
    · rw [if_neg q]
      refine ⟨h1, fun j hj hp => ?_, ?_⟩
      · by_cases z : j = n
        · subst z; exact absurd hp q
        · exact h2 j (by omega) hp
      · rcases h3 with h3 | ⟨j, a1, a2, a3⟩
        · exact Or.inl h3
        · exact Or.inr ⟨j, by omega, a2, a3⟩
/-- nothing of a is outside b -/
theorem sub_bits {a b : Int} (ha : 0 ≤ a) (ha2 : a < 2147483648) (hb : 0 ≤ b) (hb2 : b < 2147483648) (h : pand a (pxor b (-1)) = 0) : ∀ j : Nat, bt a j = true → bt b j = true := by
  obtain ⟨m, rfl⟩ : ∃ m : Nat, a = (m : Int) := ⟨a.toNat, by omega⟩
  obtain ⟨n, rfl⟩ : ∃ n : Nat, b = (n : Int) := ⟨b.toNat, by omega⟩
  intro j hj
  unfold bt at *
  rw [Int.toNat_natCast] at *
  by_cases hj31 : j < 32
  · have e1 : (Int32.ofInt (m : Int)).toBitVec = BitVec.ofNat 32 m := by rw [Int32.ofInt_eq_ofNat]; rfl
    have e2 : (Int32.ofInt (n : Int)).toBitVec = BitVec.ofNat 32 n := by rw [Int32.ofInt_eq_ofNat]; rfl
    have h1 : (Int32.ofInt (m : Int) &&& Int32.ofInt (pxor (n : Int) (-1))) = 0 := by
      have h2 : (Int32.ofInt (m : Int) &&& Int32.ofInt (pxor (n : Int) (-1))).toInt = (0 : Int32).toInt := h
      exact Int32.toInt_inj.mp h2
    unfold pxor at h1
    rw [Int32.ofInt_toInt] at h1
    have h3 : BitVec.ofNat 32 m &&& (BitVec.ofNat 32 n ^^^ (Int32.ofInt (-1)).toBitVec) = 0#32 := by
      have := congrArg Int32.toBitVec h1
      rw [Int32.toBitVec_and, Int32.toBitVec_xor, e1, e2] at this
      exact this
    have h4 := congrArg (fun x => x.getLsbD j) h3
    have e3 : (Int32.ofInt (-1)).toBitVec = BitVec.allOnes 32 := by decide
    rw [e3] at h4
    simp only [BitVec.getLsbD_and, BitVec.getLsbD_xor, BitVec.getLsbD_ofNat, BitVec.getLsbD_allOnes, BitVec.getLsbD_zero, decide_eq_true hj31, Bool.true_and, hj] at h4
    cases q : n.testBit j with
    | true => rfl
    | false => rw [q] at h4; simp at h4
  · have : m < 2 ^ j := Nat.lt_of_lt_of_le (show m < 2 ^ 31 by omega) (Nat.pow_le_pow_right (by omega) (by omega))
    rw [Nat.testBit_lt_two_pow this] at hj
    exact absurd hj (by decide)
/-! byRow: the row, step by step -/
def brR (G : pG) (i : Nat) : Int := pand (G 110 i) 255 - 48
def eF (G : pG) (b : Nat → Int) (j : Nat) : Int := b j + vTn G j
def gS (G : pG) (pl : Int) (k j : Nat) : Bool := bt pl j && vAp G k j
def vLow (G : pG) (b : Nat → Int) (k : Nat) : Int := lowF (fun j => vWt G k j) (eF G b) (G 109 11).toNat
def vGap (G : pG) (pl : Int) (b : Nat → Int) (k : Nat) : Int := itG (gS G pl k) b (eF G b) (vTn G k) (G 109 11).toNat (vLow G b k) (G 109 11).toNat
def brOk (G : pG) (pl : Int) (x : Int) : Prop := (0 ≤ x ∧ x ≤ G 109 11 - 1) ∧ bt pl x.toNat = false ∧ pand (G 118 x.toNat) (pxor pl (-1)) = 0
def brS (G : pG) (b0 : Nat → Int) : Nat → Option (Int × (Nat → Int) × Int)
  | 0 => some (0, b0, 0)
  | i + 1 => match brS G b0 i with
    | none => none
    | some s => if (0 ≤ brR G i ∧ brR G i ≤ G 109 11 - 1) ∧ bt s.1 (brR G i).toNat = false ∧ pand (G 118 (brR G i).toNat) (pxor s.1 (-1)) = 0 then some (por s.1 (pshl 1 (brR G i)), vUpd s.2.1 (brR G i).toNat (vGap G s.1 s.2.1 (brR G i).toNat), max s.2.2 (vGap G s.1 s.2.1 (brR G i).toNat + vTn G (brR G i).toNat)) else none
def brV (G : pG) (b0 : Nat → Int) : Int := match brS G b0 (G 109 11).toNat with
  | none => -1
  | some s => s.2.2
theorem brS_none {G : pG} {b0 : Nat → Int} {i : Nat} (h : brS G b0 i = none) : ∀ n : Nat, i ≤ n → brS G b0 n = none := by
  intro n
  induction n with
  | zero => intro h2; rwa [show i = 0 by omega] at h
  | succ n ih =>
    intro h2
    by_cases e : i = n + 1
    · rwa [← e]
    · unfold brS; rw [ih (by omega)]
/-- what holds on the way -/
def brI (G : pG) (i : Nat) (s : Int × (Nat → Int) × Int) : Prop := 0 ≤ s.1 ∧ s.1 < 128 ∧ 0 ≤ s.2.2 ∧ s.2.2 ≤ 20099 * (i : Int) ∧ (∀ j : Nat, j < (G 109 11).toNat → bt s.1 j = true → 0 ≤ s.2.1 j ∧ s.2.1 j + vTn G j ≤ s.2.2) ∧ (∀ j : Nat, bt s.1 j = true ↔ ∃ l : Nat, l < i ∧ brR G l = (j : Int)) ∧ ∀ l : Nat, l < i → 0 ≤ brR G l ∧ brR G l ≤ G 109 11 - 1
theorem wt7 {G : pG} (hP : rPart G) {k : Nat} (hk : (k : Int) < G 109 11) : 0 ≤ G 118 k ∧ G 118 k < 128 := by
  have := hP.n1
  obtain ⟨-, -, -, -, -, -, -, -, -, -, w0, w1⟩ := hP.step k hk
  have h1 : ((2 ^ k : Nat) : Int) = (2 : Int) ^ k := by simp
  have h2 : (2 : Nat) ^ k ≤ 2 ^ 7 := Nat.pow_le_pow_right (by omega) (by omega)
  omega
/-- where the gap is -/
theorem vGap_pr {G : pG} (hP : rPart G) {pl la : Int} {b : Nat → Int} {k : Nat} (hk : (k : Int) < G 109 11) (h0 : 0 ≤ pl) (h1 : pl < 128) (hla : 0 ≤ la) (hb : ∀ j : Nat, j < (G 109 11).toNat → bt pl j = true → 0 ≤ b j ∧ b j + vTn G j ≤ la) (hw : pand (G 118 k) (pxor pl (-1)) = 0) : 0 ≤ vLow G b k ∧ vLow G b k ≤ la ∧ (∀ n : Nat, vLow G b k ≤ itG (gS G pl k) b (eF G b) (vTn G k) (G 109 11).toNat (vLow G b k) n ∧ itG (gS G pl k) b (eF G b) (vTn G k) (G 109 11).toNat (vLow G b k) n ≤ la) ∧ gFr (gS G pl k) b (eF G b) (vTn G k) (G 109 11).toNat (vGap G pl b k) ∧ (∀ t : Int, vLow G b k ≤ t → t < vGap G pl b k → ¬ gFr (gS G pl k) b (eF G b) (vTn G k) (G 109 11).toNat t) ∧ (vGap G pl b k = vLow G b k ∨ ∃ j : Nat, j < (G 109 11).toNat ∧ bt pl j = true ∧ vGap G pl b k = eF G b j) := by
  obtain ⟨w0, w1⟩ := wt7 hP hk
  have sub := sub_bits w0 (by omega) h0 (by omega) hw
  obtain ⟨l1, l2, l3⟩ := lowF_ge (P := fun j => vWt G k j) (e := eF G b) (G 109 11).toNat
  have lle : vLow G b k ≤ la := by
    rcases l3 with l3 | ⟨j, a1, a2, a3⟩
    · show lowF _ _ _ ≤ la; omega
    · have := (hb j a1 (sub j a2)).2
      have a4 : eF G b j = b j + vTn G j := rfl
      show lowF _ _ _ ≤ la
      omega
  have key : ∀ n : Nat, vLow G b k ≤ itG (gS G pl k) b (eF G b) (vTn G k) (G 109 11).toNat (vLow G b k) n ∧ itG (gS G pl k) b (eF G b) (vTn G k) (G 109 11).toNat (vLow G b k) n ≤ la := by
    intro n
    obtain ⟨i1, i2, i3, i4⟩ := itG_pr (S := gS G pl k) (b := b) (e := eF G b) (len := vTn G k) (N := (G 109 11).toNat) (vLow G b k) n
    refine ⟨i1, ?_⟩
    rcases i3 with i3 | ⟨j, a1, a2, a3⟩
    · omega
    · have q : bt pl j = true := by unfold gS at a2; rw [Bool.and_eq_true] at a2; exact a2.1
      have := (hb j a1 q).2
      have a4 : eF G b j = b j + vTn G j := rfl
      omega
  obtain ⟨i1, i2, i3, i4⟩ := itG_pr (S := gS G pl k) (b := b) (e := eF G b) (len := vTn G k) (N := (G 109 11).toNat) (vLow G b k) (G 109 11).toNat
  refine ⟨l1, lle, key, itG_fr _, i2, ?_⟩
  rcases i3 with i3 | ⟨j, a1, a2, a3⟩
  · exact Or.inl i3
  · exact Or.inr ⟨j, a1, by unfold gS at a2; rw [Bool.and_eq_true] at a2; exact a2.1, a3⟩
theorem brI_ok {G : pG} (hP : rPart G) (b0 : Nat → Int) : ∀ (i : Nat) (s : Int × (Nat → Int) × Int), brS G b0 i = some s → brI G i s := by
  have n0 := hP.n0
  have n1 := hP.n1
  intro i
  induction i with
  | zero =>
    intro s h
    simp [brS] at h
    subst h
    exact ⟨Int.le_refl _, by show (0 : Int) < 128; omega, Int.le_refl _, by show (0 : Int) ≤ 20099 * ((0 : Nat) : Int); omega, fun j _ h => by rw [show bt (0, b0, (0 : Int)).1 j = false from bt0 j] at h; exact absurd h (by decide), fun j => ⟨fun h => by rw [show bt (0, b0, (0 : Int)).1 j = false from bt0 j] at h; exact absurd h (by decide), fun ⟨l, hl, _⟩ => by omega⟩, fun l hl => by omega⟩
  | succ i ih =>
    intro s h
    unfold brS at h
    cases q : brS G b0 i with
    | none => rw [q] at h; simp at h
    | some s0 =>
      rw [q] at h
      obtain ⟨p1, p2, p3, p4, p5, p6, p7⟩ := ih s0 q
      by_cases c : (0 ≤ brR G i ∧ brR G i ≤ G 109 11 - 1) ∧ bt s0.1 (brR G i).toNat = false ∧ pand (G 118 (brR G i).toNat) (pxor s0.1 (-1)) = 0
      · simp only [if_pos c] at h
        obtain ⟨k, hk⟩ : ∃ k : Nat, brR G i = (k : Int) := ⟨(brR G i).toNat, by omega⟩
        rw [hk, Int.toNat_natCast] at h c
        have hkN : (k : Int) < G 109 11 := by omega
        obtain ⟨tb1, tb2, tb3, tb4⟩ := vTn_bd hP hkN
        obtain ⟨g1, g2, g3, g4, g5, g6⟩ := vGap_pr hP hkN p1 p2 p3 p5 c.2.2
        have g7 := g3 (G 109 11).toNat
        have g8 : vGap G s0.1 s0.2.1 k = itG (gS G s0.1 k) s0.2.1 (eF G s0.2.1) (vTn G k) (G 109 11).toNat (vLow G s0.2.1 k) (G 109 11).toNat := rfl
        obtain ⟨u1, u2, u3, u4⟩ := por_set p1 (show s0.1 < 2147483648 by omega) (show k < 31 by omega)
        have u5 := u4 7 (by omega) (by omega) (by omega)
        simp at h
        subst h
        refine ⟨u1, by show por s0.1 (pshl 1 (k : Int)) < 128; omega, by show 0 ≤ max s0.2.2 _; omega, by show max s0.2.2 _ ≤ _; omega, fun j hj hb => ?_, fun j => ?_, fun l hl => ?_⟩
        · have hb : bt (por s0.1 (pshl 1 (k : Int))) j = true := hb
          rw [u3 j] at hb
          show 0 ≤ vUpd s0.2.1 k (vGap G s0.1 s0.2.1 k) j ∧ vUpd s0.2.1 k (vGap G s0.1 s0.2.1 k) j + vTn G j ≤ max s0.2.2 (vGap G s0.1 s0.2.1 k + vTn G k)
          unfold vUpd
          by_cases e : j = k
          · subst e; rw [if_pos rfl]; omega
          · rw [if_neg e]
            rw [decide_eq_false e, Bool.or_false] at hb
            have := p5 j hj hb
            omega
        · show bt (por s0.1 (pshl 1 (k : Int))) j = true ↔ _
          rw [u3 j, Bool.or_eq_true, p6 j, decide_eq_true_iff]
          constructor
          · rintro (⟨l, a1, a2⟩ | rfl)
            · exact ⟨l, by omega, a2⟩
            · exact ⟨i, by omega, hk⟩
          · rintro ⟨l, a1, a2⟩
            by_cases e : l = i
            · subst e; exact Or.inr (by omega)
            · exact Or.inl ⟨l, by omega, a2⟩
        · by_cases e : l = i
          · subst e; omega
          · exact p7 l (by omega)
      · simp only [if_neg c] at h
        simp at h
theorem s96 {d : Nat} {G : pG} {k : Nat} {pl s : Int} (hP : rPart G) (hC : rCch G) (hk : (k : Int) < G 109 11) (h0 : 0 ≤ pl) (h1 : pl < 128) (hs0 : 0 ≤ s) (hs1 : s ≤ 150000) (hb : ∀ j : Nat, j < (G 109 11).toNat → bt pl j = true → 0 ≤ G 28 j ∧ G 28 j + vTn G j ≤ 150000) (hd : 1 ≤ d) : pRuns pMT d 96 [pR 22, pI (k : Int), pI pl, pI s] Yc G (some (pI (psh (gS G pl k) (G 28) (eF G (G 28)) (vTn G k) (G 109 11).toNat s))) G := by
  have n0 := hP.n0
  have n1 := hP.n1
  obtain ⟨c1, c2⟩ := hC k hk
  obtain ⟨tb1, tb2, tb3, tb4⟩ := vTn_bd hP hk
  obtain ⟨v1, v2, v3⟩ := vBits_bd (vAp G k) (G 109 11).toNat (by omega)
  have v4 : vBits (vAp G k) (G 109 11).toNat < 2147483648 := by
    have h1 : ((2 ^ (G 109 11).toNat : Nat) : Int) = (2 : Int) ^ (G 109 11).toNat := by simp
    have h2 : (2 : Nat) ^ (G 109 11).toNat ≤ 2 ^ 7 := Nat.pow_le_pow_right (by omega) (by omega)
    omega
  refine pRuns.of rfl rfl (v96_0 ?_)
  suffices H : ∀ (n i : Nat), (i : Int) + n = G 109 11 → psF (gS G pl k) (G 28) (eF G (G 28)) (vTn G k) s i = none → pEnds pMT d 96 Yc (fun r' g => r' = some (pI (psh (gS G pl k) (G 28) (eF G (G 28)) (vTn G k) (G 109 11).toNat s)) ∧ g = G) 3 [pR 22, pI (k : Int), pI pl, pI s, pI (i : Int), pU] [] G by
    rintro _ rfl
    exact H (G 109 11).toNat 0 (by omega) rfl
  intro n
  induction n with
  | zero =>
    intro i hi hn
    refine v96_3 ?_
    rw [hP.steps]
    exact ⟨fun _ => rI (by unfold psh; rw [show (G 109 11).toNat = i by omega, hn]) rfl, fun h => by omega⟩
  | succ n ih =>
    intro i hi hn
    have e : w32 ((i : Int) + 1) = ((i + 1 : Nat) : Int) := by rw [w32_id (by omega) (by omega)]; rfl
    have hi' : (i : Int) < G 109 11 := by omega
    obtain ⟨ti1, ti2, ti3, ti4⟩ := vTn_bd hP hi'
    have nx : gC (gS G pl k) (G 28) (eF G (G 28)) (vTn G k) s i = false → pEnds pMT d 96 Yc (fun r' g => r' = some (pI (psh (gS G pl k) (G 28) (eF G (G 28)) (vTn G k) (G 109 11).toNat s)) ∧ g = G) 3 [pR 22, pI (k : Int), pI pl, pI s, pI ((i + 1 : Nat) : Int), pU] [] G := fun q => ih (i + 1) (by omega) (by unfold psF; rw [hn]; simp [q])
    have yx : gC (gS G pl k) (G 28) (eF G (G 28)) (vTn G k) s i = true → G 28 i + vTn G i = psh (gS G pl k) (G 28) (eF G (G 28)) (vTn G k) (G 109 11).toNat s := by
      intro q
      have h1 : psF (gS G pl k) (G 28) (eF G (G 28)) (vTn G k) s (i + 1) = some i := by unfold psF; rw [hn]; simp [q]
      have h2 : ∀ m : Nat, i + 1 ≤ m → psF (gS G pl k) (G 28) (eF G (G 28)) (vTn G k) s m = some i := by
        intro m
        induction m with
        | zero => intro h; omega
        | succ m ihm =>
          intro h
          by_cases z : i = m
          · subst z; exact h1
          · unfold psF; rw [ihm (by omega)]
      unfold psh
      rw [h2 _ (by omega)]
      rfl
    have eb : bt (vBits (vAp G k) (G 109 11).toNat) i = vAp G k i := by rw [v3 i, decide_eq_true (by omega)]; rfl
    refine v96_3 ?_
    rw [hP.steps, e, Int.toNat_natCast, Int.toNat_natCast]
    refine ⟨fun h => by omega, fun _ => pC1.of hd (s119i h0 (by omega) (by omega)) ⟨fun g => ?_, fun g => ⟨by omega, by omega, ?_⟩⟩⟩
    · have g := Bool.eq_false_iff.mpr (b2i_0.mp g)
      rintro _ rfl
      refine ⟨fun _ => ?_, fun z => absurd rfl z⟩
      rintro _ rfl
      exact nx (by simp [gC, gS, g])
    · have g := b2i_n0.mp g
      obtain ⟨b1, b2⟩ := hb i (by omega) g
      rw [c2]
      refine pC1.of hd (s119i v1 v4 (by omega)) ⟨fun y => ?_, fun y => ?_⟩
      · have y := Bool.eq_false_iff.mpr (b2i_0.mp y)
        rw [eb] at y
        rintro _ rfl
        refine ⟨fun _ => ?_, fun z => absurd rfl z⟩
        rintro _ rfl
        exact nx (by simp [gC, gS, y])
      · have y := b2i_n0.mp y
        rw [eb] at y
        rintro _ rfl
        rw [c1, (hC i hi').1, w32_id (x := s + vTn G k) (by omega) (by omega), w32_id (x := G 28 i + vTn G i) (by omega) (by omega)]
        refine ⟨fun z => by omega, fun _ => ⟨by omega, by omega, by omega, by omega, fun z => ?_, fun z => ⟨by omega, by omega, by omega, by omega, fun x => ?_, fun x => ⟨by omega, by omega, by omega, by omega, rI (yx (gC_e.mpr ⟨by simp [gS, g, y], z, x⟩)) rfl⟩⟩⟩⟩
        · rintro _ rfl
          exact nx (by cases q : gC (gS G pl k) (G 28) (eF G (G 28)) (vTn G k) s i with
            | false => rfl
            | true => have := (gC_e.mp q).2.1; omega)
        · rintro _ rfl
          exact nx (by cases q : gC (gS G pl k) (G 28) (eF G (G 28)) (vTn G k) s i with
            | false => rfl
            | true => have := (gC_e.mp q).2.2; unfold eF at this; omega)
theorem s95 {d : Nat} {G : pG} {k : Nat} {pl la : Int} (hP : rPart G) (hC : rCch G) (hk : (k : Int) < G 109 11) (h0 : 0 ≤ pl) (h1 : pl < 128) (hla : 0 ≤ la) (hla2 : la ≤ 150000) (hb : ∀ j : Nat, j < (G 109 11).toNat → bt pl j = true → 0 ≤ G 28 j ∧ G 28 j + vTn G j ≤ la) (hw : pand (G 118 k) (pxor pl (-1)) = 0) (hd : 2 ≤ d) : pRuns pMT d 95 [pR 22, pI (k : Int), pI pl] Yc G (some (pI (vGap G pl (G 28) k))) G := by
  have n0 := hP.n0
  have n1 := hP.n1
  obtain ⟨w0, w1⟩ := wt7 hP hk
  have sub := sub_bits w0 (by omega) h0 (by omega) hw
  obtain ⟨g1, g2, g3, -⟩ := vGap_pr hP hk h0 h1 hla hb hw
  obtain ⟨-, -, -, r4, -⟩ := hP.step k hk
  refine pRuns.of rfl rfl (v95_0 ?_)
  have H2 : ∀ (n i : Nat), (i : Int) + n = G 109 11 → pEnds pMT d 95 Yc (fun r' g => r' = some (pI (vGap G pl (G 28) k)) ∧ g = G) 63 [pR 22, pI (k : Int), pI pl, pI (itG (gS G pl k) (G 28) (eF G (G 28)) (vTn G k) (G 109 11).toNat (vLow G (G 28) k) i), pI (i : Int)] [] G := by
    intro n
    induction n with
    | zero =>
      intro i hi
      refine v95_63 ?_
      rw [hP.steps]
      exact ⟨fun _ => rI (by rw [show i = (G 109 11).toNat by omega]; rfl) rfl, fun h => by omega⟩
    | succ n ih =>
      intro i hi
      have nx := ih (i + 1) (by omega)
      have gi := g3 i
      refine v95_63 ?_
      rw [hP.steps]
      refine ⟨fun h => by omega, fun _ => pC1.of (by omega) (s96 hP hC hk h0 h1 (by omega) (by omega) (fun j hj hp => by have := hb j hj hp; omega) (by omega)) ?_⟩
      rw [w32_id (by omega) (by omega)]
      rintro _ rfl _ rfl
      exact nx
  have H1 : ∀ (n i : Nat), (i : Int) + n = G 109 11 → pEnds pMT d 95 Yc (fun r' g => r' = some (pI (vGap G pl (G 28) k)) ∧ g = G) 5 [pR 22, pI (k : Int), pI pl, pI (lowF (fun j => vWt G k j) (eF G (G 28)) i), pI (i : Int)] [] G := by
    intro n
    induction n with
    | zero =>
      intro i hi
      refine v95_5 ?_
      rw [hP.steps]
      refine ⟨fun _ => ?_, fun h => by omega⟩
      rintro _ rfl
      have := H2 (G 109 11).toNat 0 (by omega)
      rw [show i = (G 109 11).toNat by omega]
      exact this
    | succ n ih =>
      intro i hi
      have nx := ih (i + 1) (by omega)
      have hi' : (i : Int) < G 109 11 := by omega
      obtain ⟨ti1, ti2, ti3, ti4⟩ := vTn_bd hP hi'
      refine v95_5 ?_
      rw [hP.steps, Int.toNat_natCast, Int.toNat_natCast, w32_id (x := (i : Int) + 1) (by omega) (by omega), r4]
      refine ⟨fun h => by omega, fun _ => ⟨by omega, by omega, pC1.of (by omega) (s119i w0 (by omega) (by omega)) ⟨fun q => ?_, fun q => ⟨by omega, by omega, by omega, by omega, ?_⟩⟩⟩⟩
      · have q := b2i_0.mp q
        rintro _ rfl
        unfold lowF at nx
        rw [if_neg (show ¬ (vWt G k i = true) from q)] at nx
        exact nx
      · have q := b2i_n0.mp q
        obtain ⟨b1, b2⟩ := hb i (by omega) (sub i q)
        rw [(hC i hi').1, w32_id (x := G 28 i + vTn G i) (by omega) (by omega), pmx_eq]
        rintro _ rfl _ rfl
        unfold lowF at nx
        rw [if_pos (show vWt G k i = true from q)] at nx
        exact nx
  rintro _ rfl _ rfl
  exact H1 (G 109 11).toNat 0 (by omega)
theorem rCch_dep : dep [24, 26, 112, 114, 115, 116, 117] [11] rCch := by
  intro G G' h1 h2 h k hk
  rw [h2 11 (by decide)] at hk
  have eA : vAp G' k = vAp G k := by funext j; unfold vAp vFi; rw [h1 114 (by decide), h1 115 (by decide)]
  have eT : vTn G' k = vTn G k := by unfold vTn; rw [h1 112 (by decide), h1 115 (by decide), h1 116 (by decide), h1 117 (by decide)]
  rw [h1 24 (by decide), h1 26 (by decide), eA, eT, h2 11 (by decide)]
  exact h k hk
/-- the row's states do not depend on what changes -/
theorem vGap_c {G G' : pG} (h112 : G' 112 = G 112) (h114 : G' 114 = G 114) (h115 : G' 115 = G 115) (h116 : G' 116 = G 116) (h117 : G' 117 = G 117) (h118 : G' 118 = G 118) (h11 : G' 109 11 = G 109 11) (pl : Int) (b : Nat → Int) (k : Nat) : vGap G' pl b k = vGap G pl b k ∧ vLow G' b k = vLow G b k ∧ gS G' pl k = gS G pl k ∧ eF G' b = eF G b ∧ vTn G' k = vTn G k := by
  have e1 : vTn G' = vTn G := by funext j; unfold vTn; rw [h112, h115, h116, h117]
  have e2 : eF G' b = eF G b := by funext j; unfold eF; rw [e1]
  have e3 : gS G' pl k = gS G pl k := by funext j; unfold gS vAp vFi; rw [h114, h115]
  have e4 : vLow G' b k = vLow G b k := by unfold vLow vWt; rw [e2, h118, h11]
  refine ⟨?_, e4, e3, e2, by rw [e1]⟩
  unfold vGap
  rw [e3, e2, e1, e4, h11]
theorem s94 {d : Nat} {G : pG} (hT : rTape G) (hP : rPart G) (hC : rCch G) (hd : 3 ≤ d) : ∃ G', pRuns pMT d 94 [pR 22, pR 1] Yc G (some (pI (if G 109 1 = G 109 11 then brV G (G 28) else -1))) G' ∧ fr [28] [] G G' := by
  have n0 := hP.n0
  have n1 := hP.n1
  obtain ⟨t1, t2, t3, t4⟩ := hT
  have key : ∃ v G', pRuns pMT d 94 [pR 22, pR 1] Yc G (some (pI v)) G' ∧ (v = (if G 109 1 = G 109 11 then brV G (G 28) else -1) ∧ fr [28] [] G G') := by
    refine pX1 rfl rfl (v94_0 ?_)
    rw [t1, hP.steps]
    refine ⟨fun hl => ?_, fun hl => ⟨-1, rfl, by rw [if_neg hl], fr.refl _ _ _⟩⟩
    rw [if_pos hl]
    rintro _ rfl _ rfl _ rfl
    have LP : ∀ (m i : Nat) (g : pG) (s : Int × (Nat → Int) × Int), (i : Int) + m = G 109 11 → fr [28] [] G g → brS G (G 28) i = some s → g 28 = s.2.1 → pEnds pMT d 94 Yc (fun r g => ∃ v : Int, r = some (pI v) ∧ (v = brV G (G 28) ∧ fr [28] [] G g)) 23 [pR 22, pR 1, pI s.1, pI s.2.2, pI (i : Int), pU] [] g := by
      intro m
      induction m with
      | zero =>
        intro i g s hi f1 hs h28
        have hPg : rPart g := f1.mv rPart_dep (by decide) (by decide) hP
        refine v94_23 ?_
        rw [hPg.steps, f1.f 11 (by decide)]
        refine ⟨fun _ => ⟨_, rfl, ?_, f1⟩, fun z => by omega⟩
        unfold brV
        rw [show (G 109 11).toNat = i by omega, hs]
      | succ m ih =>
        intro i g s hi f1 hs h28
        have hPg : rPart g := f1.mv rPart_dep (by decide) (by decide) hP
        have hCg : rCch g := f1.mv rCch_dep (by decide) (by decide) hC
        obtain ⟨p1, p2, p3, p4, p5, p6, p7⟩ := brI_ok hP (G 28) i s hs
        have a1 := t4 i (by omega)
        have b1 := u8_bd a1.2.1 a1.2.2
        have none1 : ¬ ((0 ≤ brR G i ∧ brR G i ≤ G 109 11 - 1) ∧ bt s.1 (brR G i).toNat = false ∧ pand (G 118 (brR G i).toNat) (pxor s.1 (-1)) = 0) → ∃ v : Int, (some (pI (-1)) : Option pV) = some (pI v) ∧ (v = brV G (G 28) ∧ fr [28] [] G g) := by
          intro q
          have h1 : brS G (G 28) (i + 1) = none := by unfold brS; rw [hs]; simp only [if_neg q]
          refine ⟨-1, rfl, ?_, f1⟩
          unfold brV
          rw [brS_none h1 (G 109 11).toNat (by omega)]
        refine v94_23 ?_
        rw [hPg.steps, f1.f 11 (by decide)]
        refine ⟨fun z => by omega, fun _ => pC1.of (by omega) s99 ?_⟩
        rw [if_pos (by rw [f1.c 1 (by decide), t1, hl]; omega), Int.toNat_natCast, f1.c 2 (by decide), a1.1, w32_id (x := pand (G 110 i) 255 - 48) (by omega) (by omega), hPg.steps, f1.f 11 (by decide), w32_id (x := G 109 11 - 1) (by omega) (by omega)]
        intro x hx
        have hx : x = brR G i := hx
        rw [hx]
        refine pC1.of (by omega) s118 ⟨fun z => none1 (fun y => b2i_0.mp z y.1), fun z => ?_⟩
        have z := b2i_n0.mp z
        obtain ⟨k, hk⟩ : ∃ k : Nat, brR G i = (k : Int) := ⟨(brR G i).toNat, by omega⟩
        rw [hk] at none1 ⊢
        rw [hk] at z
        rw [Int.toNat_natCast] at none1 ⊢
        have hkN : (k : Int) < G 109 11 := by omega
        refine pC1.of (by omega) (s119i p1 (by omega) (by omega)) ⟨fun y => none1 (fun q => by rw [q.2.1] at y; exact y rfl), fun y => ⟨by omega, by omega, ?_⟩⟩
        have y := Bool.eq_false_iff.mpr (b2i_0.mp y)
        rw [f1.c 11 (by decide), (hP.step k hkN).2.2.2.1]
        refine ⟨fun q => ?_, fun q => none1 (fun w => q w.2.2)⟩
        obtain ⟨gp1, gp2, gp3, -⟩ := vGap_pr hP hkN p1 p2 p3 p5 q
        have gp4 := gp3 (G 109 11).toNat
        have gp5 : vGap G s.1 s.2.1 k = itG (gS G s.1 k) s.2.1 (eF G s.2.1) (vTn G k) (G 109 11).toNat (vLow G s.2.1 k) (G 109 11).toNat := rfl
        obtain ⟨tb1, tb2, tb3, tb4⟩ := vTn_bd hP hkN
        have ec := vGap_c (f1.c 112 (by decide)) (f1.c 114 (by decide)) (f1.c 115 (by decide)) (f1.c 116 (by decide)) (f1.c 117 (by decide)) (f1.c 118 (by decide)) (f1.f 11 (by decide)) s.1 s.2.1 k
        have eT : ∀ j : Nat, vTn g j = vTn G j := fun j => by unfold vTn; rw [f1.c 112 (by decide), f1.c 115 (by decide), f1.c 116 (by decide), f1.c 117 (by decide)]
        refine pC1.of (r := vGap G s.1 s.2.1 k) (G' := g) (by omega) ?_ ⟨by omega, by omega, by omega, by omega, by omega, by omega, ?_⟩
        · have := s95 (d := d - 1) (G := g) (k := k) (pl := s.1) (la := s.2.2) hPg hCg (by rw [f1.f 11 (by decide)]; exact hkN) p1 p2 p3 (by omega) (fun j hj hp => by rw [h28, eT]; exact p5 j (by rw [f1.f 11 (by decide)] at hj; exact hj) hp) (by rw [f1.c 118 (by decide)]; exact q) (by omega)
          rw [h28, ec.1] at this
          exact this
        · rw [pset_eq, pset_cl _ _ (by decide), f1.c 24 (by decide), (hC k hkN).1, w32_id (x := vGap G s.1 s.2.1 k + vTn G k) (by omega) (by omega), w32_id (x := (i : Int) + 1) (by omega) (by omega), pmx_eq]
          rintro _ rfl _ rfl _ rfl
          have hs' : brS G (G 28) (i + 1) = some (por s.1 (pshl 1 (k : Int)), vUpd s.2.1 k (vGap G s.1 s.2.1 k), max s.2.2 (vGap G s.1 s.2.1 k + vTn G k)) := by
            unfold brS
            rw [hs]
            simp only [hk, Int.toNat_natCast]
            rw [if_pos ⟨by omega, y, q⟩]
          refine ih (i + 1) (pset g 28 k (vGap G s.1 s.2.1 k)) _ (by omega) (f1.trans (fr.set (by decide) (by decide) _ _ _)) hs' ?_
          funext j
          show pset g 28 k (vGap G s.1 s.2.1 k) 28 j = vUpd s.2.1 k (vGap G s.1 s.2.1 k) j
          unfold vUpd
          by_cases e : j = k
          · rw [if_pos e, e, pset_eq]
          · rw [if_neg e, pset_ne _ _ e, h28]
    exact LP (G 109 11).toNat 0 G (0, G 28, 0) (by omega) (fr.refl _ _ _) rfl rfl
  obtain ⟨v, G', h1, rfl, h2⟩ := key
  exact ⟨G', h1, h2⟩
def fC (G : pG) (k : Nat) (t : Int) (r : Nat → Nat) (β : Nat → Int) (l : Nat) : Bool := vFi G k (r l) && decide (t < β l + vTn G (r l)) && decide (β l < t + vTn G k)
theorem s202 {d : Nat} {G : pG} {k m : Nat} {t : Int} {r : Nat → Nat} {β : Nat → Int} (hP : rPart G) (hk : (k : Int) < G 109 11) (hm : m ≤ 7) (ht0 : 0 ≤ t) (ht1 : t ≤ 150000) (hr : ∀ l : Nat, l < m → G 153 l = (r l : Int) ∧ (r l : Int) < G 109 11) (hβ : ∀ l : Nat, l < m → G 154 l = β l ∧ 0 ≤ β l ∧ β l ≤ 150000) (hd : 1 ≤ d) : pRuns pMT d 202 [pR 109, pI (k : Int), pI t, pI (m : Int)] Yc G (some (pI (b2i (vAny (fC G k t r β) m = false)))) G := by
  obtain ⟨tb1, tb2, tb3, tb4⟩ := vTn_bd hP hk
  refine pRuns.of rfl rfl (v202_0 ?_)
  suffices H : ∀ (n i : Nat), i + n = m → (∀ j, j < i → fC G k t r β j = false) → pEnds pMT d 202 Yc (fun r' g => r' = some (pI (b2i (vAny (fC G k t r β) m = false))) ∧ g = G) 3 [pR 109, pI (k : Int), pI t, pI (m : Int), pI (i : Int), pU] [] G by
    rintro _ rfl
    exact H m 0 (by omega) (fun j hj => by omega)
  intro n
  induction n with
  | zero =>
    intro i hi hn
    obtain rfl : i = m := by omega
    exact v202_3 ⟨fun _ => ⟨Or.inr rfl, q1 (vAny_no hn), rfl⟩, fun h => by omega⟩
  | succ n ih =>
    intro i hi hn
    have e : w32 ((i : Int) + 1) = ((i + 1 : Nat) : Int) := by rw [w32_id (by omega) (by omega)]; rfl
    obtain ⟨r1, r2⟩ := hr i (by omega)
    obtain ⟨β1, β2, β3⟩ := hβ i (by omega)
    obtain ⟨ti1, ti2, ti3, ti4⟩ := vTn_bd hP r2
    have nx : fC G k t r β i = false → pEnds pMT d 202 Yc (fun r' g => r' = some (pI (b2i (vAny (fC G k t r β) m = false))) ∧ g = G) 3 [pR 109, pI (k : Int), pI t, pI (m : Int), pI ((i + 1 : Nat) : Int), pU] [] G := fun q => ih (i + 1) (by omega) (fun j hj => by
      by_cases e : j = i
      · subst e; exact q
      · exact hn j (by omega))
    refine v202_3 ⟨fun h => by omega, fun _ => ⟨by omega, by omega, ?_⟩⟩
    rw [Int.toNat_natCast, e, r1]
    rintro _ rfl
    refine pC1.of hd (s193 hP hk r2) ⟨fun q => ?_, fun q => ⟨by omega, by omega, pC1.of hd (s192 hP r2) ?_⟩⟩
    · have q := Bool.eq_false_iff.mpr (b2i_0.mp q)
      rintro _ rfl
      exact nx (by simp [fC, q])
    · have q := b2i_n0.mp q
      rw [β1, w32_id (x := β i + vTn G (r i)) (by omega) (by omega)]
      refine ⟨fun y => ?_, fun y => ⟨by omega, by omega, pC1.of hd (s192 hP hk) ?_⟩⟩
      · rintro _ rfl
        exact nx (by simp [fC, q]; omega)
      · rw [w32_id (x := t + vTn G k) (by omega) (by omega)]
        refine ⟨fun z => ?_, fun z => ⟨Or.inl rfl, q0 (fun w => ?_), rfl⟩⟩
        · rintro _ rfl
          exact nx (by simp [fC, q]; omega)
        · rw [(vAny_ex _ _).mpr ⟨i, by omega, by simp [fC, q, y, z]⟩] at w
          exact absurd w (by decide)
/-- the reference's tests are the class' -/
theorem fC_fr {G : pG} (hP : rPart G) {i : Nat} {s : Int × (Nat → Int) × Int} (hI : brI G i s) {k : Nat} (hkN : (k : Int) < G 109 11) (hkp : bt s.1 k = false) (t : Int) : vAny (fC G k t (fun l => (brR G l).toNat) (fun l => s.2.1 (brR G l).toNat)) i = false ↔ gFr (gS G s.1 k) s.2.1 (eF G s.2.1) (vTn G k) (G 109 11).toNat t := by
  obtain ⟨p1, p2, p3, p4, p5, p6, p7⟩ := hI
  constructor
  · intro h j hj
    cases q : gC (gS G s.1 k) s.2.1 (eF G s.2.1) (vTn G k) t j with
    | false => rfl
    | true =>
      exfalso
      obtain ⟨q1, q2, q3⟩ := gC_e.mp q
      unfold gS vAp at q1
      rw [Bool.and_eq_true, Bool.and_eq_true] at q1
      obtain ⟨l, l1, l2⟩ := (p6 j).mp q1.1
      have : vAny (fC G k t (fun l => (brR G l).toNat) (fun l => s.2.1 (brR G l).toNat)) i = true := (vAny_ex _ _).mpr ⟨l, l1, by
        have e : (brR G l).toNat = j := by omega
        unfold eF at q3
        simp only [fC, e, Bool.and_eq_true, decide_eq_true_eq]
        exact ⟨⟨q1.2.2, q3⟩, q2⟩⟩
      rw [h] at this
      exact absurd this (by decide)
  · intro h
    refine vAny_no (fun l hl => ?_)
    cases q : fC G k t (fun l => (brR G l).toNat) (fun l => s.2.1 (brR G l).toNat) l with
    | false => rfl
    | true =>
      exfalso
      simp only [fC, Bool.and_eq_true, decide_eq_true_eq] at q
      have r7 := p7 l hl
      have hp : bt s.1 (brR G l).toNat = true := (p6 _).mpr ⟨l, hl, by omega⟩
      have ne : (brR G l).toNat ≠ k := fun e => by rw [e, hkp] at hp; exact absurd hp (by decide)
      have := h (brR G l).toNat (by omega)
      rw [gC_e.mpr ⟨by unfold gS vAp; rw [hp, decide_eq_true ne, q.1.1]; rfl, q.2, by unfold eF; exact q.1.2⟩] at this
      exact absurd this (by decide)
theorem low_eq {G : pG} (hP : rPart G) {i : Nat} {s : Int × (Nat → Int) × Int} (hI : brI G i s) {k : Nat} (hkN : (k : Int) < G 109 11) (hw : pand (G 118 k) (pxor s.1 (-1)) = 0) : lowF (fun l => vWt G k (brR G l).toNat) (fun l => eF G s.2.1 (brR G l).toNat) i = vLow G s.2.1 k := by
  obtain ⟨p1, p2, p3, p4, p5, p6, p7⟩ := hI
  obtain ⟨w0, w1⟩ := wt7 hP hkN
  have sub := sub_bits w0 (by omega) p1 (by omega) hw
  obtain ⟨a1, a2, a3⟩ := lowF_ge (P := fun l => vWt G k (brR G l).toNat) (e := fun l => eF G s.2.1 (brR G l).toNat) i
  obtain ⟨b1, b2, b3⟩ := lowF_ge (P := fun j => vWt G k j) (e := eF G s.2.1) (G 109 11).toNat
  have n1 := hP.n1
  obtain ⟨-, -, -, -, -, -, -, -, -, -, w2, w3⟩ := hP.step k hkN
  have le1 : lowF (fun l => vWt G k (brR G l).toNat) (fun l => eF G s.2.1 (brR G l).toNat) i ≤ vLow G s.2.1 k := by
    rcases a3 with a3 | ⟨l, x1, x2, x3⟩
    · rw [a3]; exact b1
    · rw [x3]
      have := p7 l x1
      exact b2 (brR G l).toNat (by omega) x2
  have le2 : vLow G s.2.1 k ≤ lowF (fun l => vWt G k (brR G l).toNat) (fun l => eF G s.2.1 (brR G l).toNat) i := by
    rcases b3 with b3 | ⟨j, x1, x2, x3⟩
    · show lowF _ _ _ ≤ _; rw [b3]; exact a1
    · obtain ⟨l, l1, l2⟩ := (p6 j).mp (sub j x2)
      have e : (brR G l).toNat = j := by omega
      have := a2 l l1 (by show vWt G k (brR G l).toNat = true; rw [e]; exact x2)
      have e2 : eF G s.2.1 (brR G l).toNat = eF G s.2.1 j := by rw [e]
      show lowF _ _ _ ≤ _
      rw [x3, ← e2]
      exact this
  omega
theorem s203l {d : Nat} {G : pG} (b0 : Nat → Int) (hB : ∀ i : Nat, i < 800 → -128 ≤ G 110 i ∧ G 110 i ≤ 127) (hP : rPart G) (hd : 3 ≤ d) : ∀ (m i : Nat) (g : pG) (s : Int × (Nat → Int) × Int), (i : Int) + m = G 109 11 → fr [153, 154] [] G g → brS G b0 i = some s → (∀ l : Nat, l < i → g 153 l = brR G l ∧ g 154 l = s.2.1 (brR G l).toNat) → pEnds pMT d 203 Yc (fun r g => ∃ v : Int, r = some (pI v) ∧ (v = brV G b0 ∧ fr [153, 154] [] G g)) 27 [pR 109, pI (G 109 11), pI s.1, pI s.2.2, pI (i : Int), pU, pU, pU, pU, pU] [] g := by
  have n0 := hP.n0
  have n1 := hP.n1
  intro m
  induction m with
  | zero =>
    intro i g s hi f1 hs hput
    refine v203_27 ⟨fun _ => ⟨_, rfl, ?_, f1⟩, fun z => by omega⟩
    unfold brV
    rw [show (G 109 11).toNat = i by omega, hs]
  | succ m ih =>
    intro i g s hi f1 hs hput
    have hPg : rPart g := f1.mv rPart_dep (by decide) (by decide) hP
    have hI := brI_ok hP b0 i s hs
    have hI' := hI
    obtain ⟨p1, p2, p3, p4, p5, p6, p7⟩ := hI
    have a1 := hB i (by omega)
    have b1 := u8_bd a1.1 a1.2
    have none1 : ¬ ((0 ≤ brR G i ∧ brR G i ≤ G 109 11 - 1) ∧ bt s.1 (brR G i).toNat = false ∧ pand (G 118 (brR G i).toNat) (pxor s.1 (-1)) = 0) → ∃ v : Int, (some (pI (-1)) : Option pV) = some (pI v) ∧ (v = brV G b0 ∧ fr [153, 154] [] G g) := by
      intro q
      have h1 : brS G b0 (i + 1) = none := by unfold brS; rw [hs]; simp only [if_neg q]
      refine ⟨-1, rfl, ?_, f1⟩
      unfold brV
      rw [brS_none h1 (G 109 11).toNat (by omega)]
    refine v203_27 ⟨fun z => by omega, fun _ => ⟨by omega, by omega, ?_⟩⟩
    rw [Int.toNat_natCast, f1.c 110 (by decide), w32_id (x := pand (G 110 i) 255 - 48) (by omega) (by omega)]
    intro x hx
    have hx : x = brR G i := hx
    rw [hx]
    refine pC1.of (by omega) (s198 hPg (by omega)) ⟨fun z => none1 (fun y => by rw [f1.f 11 (by decide)] at z; exact b2i_0.mp z y.1), fun z => ?_⟩
    have z := b2i_n0.mp z
    rw [f1.f 11 (by decide)] at z
    obtain ⟨k, hk⟩ : ∃ k : Nat, brR G i = (k : Int) := ⟨(brR G i).toNat, by omega⟩
    rw [hk] at none1 ⊢
    rw [hk] at z
    rw [Int.toNat_natCast] at none1 ⊢
    have hkN : (k : Int) < G 109 11 := by omega
    have hkg : (k : Int) < g 109 11 := by rw [f1.f 11 (by decide)]; exact hkN
    obtain ⟨tb1, tb2, tb3, tb4⟩ := vTn_bd hP hkN
    rw [bit_i p1 (by omega) (by omega)]
    refine ⟨fun y => none1 (fun q => by rw [q.2.1] at y; exact absurd y (by decide)), fun y => ⟨by omega, by omega, ?_⟩⟩
    have y : bt s.1 k = false := Bool.eq_false_iff.mpr (fun w => y (b2i_t w))
    rw [f1.c 118 (by decide)]
    refine ⟨fun q => ?_, fun q => none1 (fun w => q w.2.2)⟩
    obtain ⟨gp1, gp2, gp3, gp6, gp7, gp8⟩ := vGap_pr hP hkN p1 p2 p3 p5 q
    have gp4 := gp3 (G 109 11).toNat
    have gp5 : vGap G s.1 s.2.1 k = itG (gS G s.1 k) s.2.1 (eF G s.2.1) (vTn G k) (G 109 11).toNat (vLow G s.2.1 k) (G 109 11).toNat := rfl
    have eT : ∀ j : Nat, vTn g j = vTn G j := fun j => by unfold vTn; rw [f1.c 112 (by decide), f1.c 115 (by decide), f1.c 116 (by decide), f1.c 117 (by decide)]
    have eC : ∀ t : Int, fC g k t (fun l => (brR G l).toNat) (fun l => s.2.1 (brR G l).toNat) = fC G k t (fun l => (brR G l).toNat) (fun l => s.2.1 (brR G l).toNat) := fun t => by
      funext l
      unfold fC vFi
      rw [eT, eT, f1.c 114 (by decide), f1.c 115 (by decide)]
    have rng : ∀ l : Nat, l < i → (((brR G l).toNat : Nat) : Int) = brR G l ∧ brR G l < G 109 11 ∧ 0 ≤ s.2.1 (brR G l).toNat ∧ s.2.1 (brR G l).toNat + vTn G (brR G l).toNat ≤ s.2.2 := by
      intro l hl
      have r7 := p7 l hl
      have hp : bt s.1 (brR G l).toNat = true := (p6 _).mpr ⟨l, hl, by omega⟩
      have := p5 (brR G l).toNat (by omega) hp
      omega
    have free : ∀ t : Int, 0 ≤ t → t ≤ 150000 → pRuns pMT (d - 1) 202 [pR 109, pI (k : Int), pI t, pI (i : Int)] Yc g (some (pI (b2i (vAny (fC G k t (fun l => (brR G l).toNat) (fun l => s.2.1 (brR G l).toNat)) i = false)))) g := by
      intro t ht0 ht1
      rw [← eC]
      exact s202 hPg hkg (by omega) ht0 ht1 (fun l hl => ⟨by rw [(hput l hl).1, (rng l hl).1], by rw [(rng l hl).1, f1.f 11 (by decide)]; exact (rng l hl).2.1⟩) (fun l hl => ⟨(hput l hl).2, by have := rng l hl; have := vTn_bd hP (k := (brR G l).toNat) (by omega); omega⟩) (by omega)
    have step : ∀ x2 x7 : Int, x7 = vGap G s.1 s.2.1 k → x2 = por s.1 (pshl 1 (k : Int)) → pC1 pMT d 192 [pR 109, pI (k : Int)] Yc (pset (pset g 153 i (k : Int)) 154 i x7) (fun r G_2 => ∀ x3 : Int, x3 = pmx s.2.2 (w32 (x7 + r)) → ∀ x4 : Int, x4 = w32 ((i : Int) + 1) → pEnds pMT d 203 Yc (fun r g => ∃ v : Int, r = some (pI v) ∧ (v = brV G b0 ∧ fr [153, 154] [] G g)) 27 [pR 109, pI (G 109 11), pI x2, pI x3, pI x4, pU, pU, pU, pU, pU] [] G_2) := by
      rintro _ _ rfl rfl
      have F2 : fr [153, 154] [] g (pset (pset g 153 i (k : Int)) 154 i (vGap G s.1 s.2.1 k)) := (fr.set (by decide) (by decide) _ _ _).trans (fr.set (by decide) (by decide) _ _ _)
      have hP2 : rPart (pset (pset g 153 i (k : Int)) 154 i (vGap G s.1 s.2.1 k)) := F2.mv rPart_dep (by decide) (by decide) hPg
      refine pC1.of (by omega) (s192 hP2 (by rw [F2.f 11 (by decide)]; exact hkg)) ?_
      have eT2 : vTn (pset (pset g 153 i (k : Int)) 154 i (vGap G s.1 s.2.1 k)) k = vTn G k := by rw [← eT]; unfold vTn; rw [F2.c 112 (by decide), F2.c 115 (by decide), F2.c 116 (by decide), F2.c 117 (by decide)]
      rw [eT2, w32_id (x := vGap G s.1 s.2.1 k + vTn G k) (by omega) (by omega), w32_id (x := (i : Int) + 1) (by omega) (by omega), pmx_eq]
      rintro _ rfl _ rfl
      have hs' : brS G b0 (i + 1) = some (por s.1 (pshl 1 (k : Int)), vUpd s.2.1 k (vGap G s.1 s.2.1 k), max s.2.2 (vGap G s.1 s.2.1 k + vTn G k)) := by
        unfold brS
        rw [hs]
        simp only [hk, Int.toNat_natCast]
        rw [if_pos ⟨by omega, y, q⟩]
      refine ih (i + 1) _ _ (by omega) (f1.trans F2) hs' (fun l hl => ?_)
      show pset (pset g 153 i (k : Int)) 154 i (vGap G s.1 s.2.1 k) 153 l = brR G l ∧ pset (pset g 153 i (k : Int)) 154 i (vGap G s.1 s.2.1 k) 154 l = vUpd s.2.1 k (vGap G s.1 s.2.1 k) (brR G l).toNat
      unfold vUpd
      by_cases e : l = i
      · subst e
        rw [pset_cl (b := 153) _ _ (by decide), pset_eq, pset_eq, hk, Int.toNat_natCast, if_pos rfl]
        exact ⟨rfl, rfl⟩
      · have hl2 : l < i := by omega
        have hp : bt s.1 (brR G l).toNat = true := (p6 _).mpr ⟨l, hl2, by have := rng l hl2; omega⟩
        have ne : (brR G l).toNat ≠ k := fun e => by rw [e, y] at hp; exact absurd hp (by decide)
        rw [pset_cl (b := 153) _ _ (by decide), pset_ne _ _ e, pset_ne _ _ e, pset_cl (b := 154) _ _ (by decide), if_neg ne]
        exact hput l hl2
    have H3 : ¬ gFr (gS G s.1 k) s.2.1 (eF G s.2.1) (vTn G k) (G 109 11).toNat (vLow G s.2.1 k) → ∀ (n c : Nat) (x7 : Int), c + n = i → ((x7 = -1 ∧ ∀ l : Nat, l < c → vLow G s.2.1 k ≤ eF G s.2.1 (brR G l).toNat → ¬ gFr (gS G s.1 k) s.2.1 (eF G s.2.1) (vTn G k) (G 109 11).toNat (eF G s.2.1 (brR G l).toNat)) ∨ (vLow G s.2.1 k ≤ x7 ∧ gFr (gS G s.1 k) s.2.1 (eF G s.2.1) (vTn G k) (G 109 11).toNat x7 ∧ ∀ l : Nat, l < c → vLow G s.2.1 k ≤ eF G s.2.1 (brR G l).toNat → gFr (gS G s.1 k) s.2.1 (eF G s.2.1) (vTn G k) (G 109 11).toNat (eF G s.2.1 (brR G l).toNat) → x7 ≤ eF G s.2.1 (brR G l).toNat)) → pEnds pMT d 203 Yc (fun r g => ∃ v : Int, r = some (pI v) ∧ (v = brV G b0 ∧ fr [153, 154] [] G g)) 173 [pR 109, pI (G 109 11), pI s.1, pI s.2.2, pI (i : Int), pI (k : Int), pI (vLow G s.2.1 k), pI x7, pI (c : Int), pU] [] g := by
      intro hnf n
      induction n with
      | zero =>
        intro c x7 hc hJ
        obtain rfl : c = i := by omega
        refine v203_173 ⟨fun _ => ⟨by omega, by omega, by omega, by omega, ?_⟩, fun z => by omega⟩
        rw [Int.toNat_natCast]
        have e7 : x7 = vGap G s.1 s.2.1 k := by
          rcases gp8 with g8 | ⟨j, j1, j2, j3⟩
          · rw [g8] at gp6; exact absurd gp6 hnf
          · obtain ⟨l, l1, l2⟩ := (p6 j).mp j2
            have e : (brR G l).toNat = j := by omega
            have e2 : eF G s.2.1 (brR G l).toNat = vGap G s.1 s.2.1 k := by rw [e, j3]
            rcases hJ with ⟨-, h2⟩ | ⟨h1, h2, h3⟩
            · have := h2 l l1 (by rw [e2]; omega)
              rw [e2] at this
              exact absurd gp6 this
            · have := h3 l l1 (by rw [e2]; omega) (by rw [e2]; exact gp6)
              rw [e2] at this
              by_cases w : x7 < vGap G s.1 s.2.1 k
              · exact absurd h2 (gp7 x7 h1 w)
              · omega
        intro x2 hx2
        exact step x2 x7 e7 hx2
      | succ n ihn =>
        intro c x7 hc hJ
        have hcl : c < i := by omega
        have e : w32 ((c : Int) + 1) = ((c + 1 : Nat) : Int) := by rw [w32_id (by omega) (by omega)]; rfl
        obtain ⟨q1, q2, q3, q4⟩ := rng c hcl
        have tc := vTn_bd hP (k := (brR G c).toNat) (by omega)
        have ex9 : s.2.1 (brR G c).toNat + vTn G (brR G c).toNat = eF G s.2.1 (brR G c).toNat := rfl
        refine v203_173 ⟨fun z => by omega, fun _ => ⟨by omega, by omega, by omega, by omega, ?_⟩⟩
        rw [Int.toNat_natCast, (hput c hcl).1, (hput c hcl).2, e, ← q1, Int.toNat_natCast]
        refine pC1.of (by omega) (s192 hPg (by rw [f1.f 11 (by decide)]; omega)) ?_
        rw [eT, w32_id (x := s.2.1 (brR G c).toNat + vTn G (brR G c).toNat) (by omega) (by omega), ex9]
        rw [ex9] at q4
        have eF0 : 0 ≤ eF G s.2.1 (brR G c).toNat := by omega
        generalize hE : eF G s.2.1 (brR G c).toNat = E at *
        intro x9 hx9
        rw [hx9]
        have keep : (∀ l : Nat, l = c → vLow G s.2.1 k ≤ E → gFr (gS G s.1 k) s.2.1 (eF G s.2.1) (vTn G k) (G 109 11).toNat E → ¬ x7 = -1 ∧ x7 ≤ E) → pEnds pMT d 203 Yc (fun r g => ∃ v : Int, r = some (pI v) ∧ (v = brV G b0 ∧ fr [153, 154] [] G g)) 173 [pR 109, pI (G 109 11), pI s.1, pI s.2.2, pI (i : Int), pI (k : Int), pI (vLow G s.2.1 k), pI x7, pI ((c + 1 : Nat) : Int), pU] [] g := by
          intro hk2
          refine ihn (c + 1) x7 (by omega) ?_
          rcases hJ with ⟨h1, h2⟩ | ⟨h1, h2, h3⟩
          · refine Or.inl ⟨h1, fun l hl hle hfr => ?_⟩
            by_cases w : l = c
            · rw [w, hE] at hle hfr
              exact (hk2 c rfl hle hfr).1 h1
            · exact h2 l (by omega) hle hfr
          · refine Or.inr ⟨h1, h2, fun l hl hle hfr => ?_⟩
            by_cases w : l = c
            · rw [w, hE] at hle hfr ⊢
              exact (hk2 c rfl hle hfr).2
            · exact h3 l (by omega) hle hfr
        have take : vLow G s.2.1 k ≤ E → (x7 = -1 ∨ E < x7) → gFr (gS G s.1 k) s.2.1 (eF G s.2.1) (vTn G k) (G 109 11).toNat E → pEnds pMT d 203 Yc (fun r g => ∃ v : Int, r = some (pI v) ∧ (v = brV G b0 ∧ fr [153, 154] [] G g)) 173 [pR 109, pI (G 109 11), pI s.1, pI s.2.2, pI (i : Int), pI (k : Int), pI (vLow G s.2.1 k), pI E, pI ((c + 1 : Nat) : Int), pU] [] g := by
          intro h1 h2 h3
          refine ihn (c + 1) E (by omega) (Or.inr ⟨h1, h3, fun l hl hle hfr => ?_⟩)
          by_cases w : l = c
          · rw [w, hE]; exact Int.le_refl _
          · rcases hJ with ⟨j1, j2⟩ | ⟨j1, j2, j3⟩
            · exact absurd hfr (j2 l (by omega) hle)
            · have := j3 l (by omega) hle hfr
              rcases h2 with h2 | h2
              · omega
              · omega
        have test := free E eF0 (by omega)
        have tf := fC_fr hP hI' hkN y E
        refine ⟨fun w => ?_, fun w => ⟨fun v => pC1.of (by omega) test ⟨fun u => ?_, fun u => ?_⟩, fun v => ⟨fun u => ?_, fun u => pC1.of (by omega) test ⟨fun u2 => ?_, fun u2 => ?_⟩⟩⟩⟩
        · rintro _ rfl
          exact keep (fun _ _ h _ => by omega)
        · rintro _ rfl
          exact keep (fun _ _ _ h => absurd (tf.mpr h) (b2i_0.mp u))
        · intro x7' hx7'
          rw [hx7']
          rintro _ rfl
          exact take w (Or.inl v) (tf.mp (b2i_n0.mp u))
        · rintro _ rfl
          exact keep (fun _ _ _ _ => ⟨v, u⟩)
        · rintro _ rfl
          exact keep (fun _ _ _ h => absurd (tf.mpr h) (b2i_0.mp u2))
        · intro x7' hx7'
          rw [hx7']
          rintro _ rfl
          exact take w (Or.inr u) (tf.mp (b2i_n0.mp u2))
    have H2 : ∀ (n c : Nat), c + n = i → pEnds pMT d 203 Yc (fun r g => ∃ v : Int, r = some (pI v) ∧ (v = brV G b0 ∧ fr [153, 154] [] G g)) 90 [pR 109, pI (G 109 11), pI s.1, pI s.2.2, pI (i : Int), pI (k : Int), pI (lowF (fun l => vWt G k (brR G l).toNat) (fun l => eF G s.2.1 (brR G l).toNat) c), pI (c : Int), pU, pU] [] g := by
      intro n
      induction n with
      | zero =>
        intro c hc
        obtain rfl : c = i := by omega
        rw [low_eq hP hI' hkN q]
        have tf := fC_fr hP hI' hkN y (vLow G s.2.1 k)
        refine v203_90 ⟨fun _ => ?_, fun z => by omega⟩
        rintro _ rfl
        refine pC1.of (by omega) (free _ gp1 (by omega)) ⟨fun u => ⟨by omega, by omega, by omega, by omega, ?_⟩, fun u => ?_⟩
        · rw [Int.toNat_natCast]
          have hf := tf.mp (b2i_n0.mp u)
          have e7 : vLow G s.2.1 k = vGap G s.1 s.2.1 k := by
            by_cases w : vLow G s.2.1 k < vGap G s.1 s.2.1 k
            · exact absurd hf (gp7 _ (Int.le_refl _) w)
            · omega
          intro x2 hx2
          exact step x2 _ e7 hx2
        · rintro _ rfl _ rfl
          exact H3 (fun w => absurd (tf.mpr w) (b2i_0.mp u)) c 0 (-1) (by omega) (Or.inl ⟨rfl, fun l hl => by omega⟩)
      | succ n ihn =>
        intro c hc
        have hcl : c < i := by omega
        have nx := ihn (c + 1) (by omega)
        obtain ⟨q1, q2, q3, q4⟩ := rng c hcl
        have tc := vTn_bd hP (k := (brR G c).toNat) (by omega)
        obtain ⟨w0, w1⟩ := wt7 hP hkN
        refine v203_90 ⟨fun z => by omega, fun _ => ⟨by omega, by omega, by omega, by omega, ?_⟩⟩
        rw [Int.toNat_natCast, Int.toNat_natCast, f1.c 118 (by decide), (hput c hcl).1, (hput c hcl).2, ← q1, Int.toNat_natCast, bit_i w0 (by omega) (by omega), w32_id (x := (c : Int) + 1) (by omega) (by omega)]
        refine ⟨fun u => ?_, fun u => ⟨by omega, by omega, by omega, by omega, pC1.of (by omega) (s192 hPg (by rw [f1.f 11 (by decide)]; omega)) ?_⟩⟩
        · rintro _ rfl
          unfold lowF at nx
          rw [if_neg (show ¬ (vWt G k (brR G c).toNat = true) from fun w => u (b2i_t w))] at nx
          exact nx
        · rw [eT, w32_id (x := s.2.1 (brR G c).toNat + vTn G (brR G c).toNat) (by omega) (by omega), pmx_eq]
          rintro _ rfl _ rfl
          unfold lowF at nx
          rw [if_pos (show vWt G k (brR G c).toNat = true from b2i_1.mp u)] at nx
          exact nx
    rintro _ rfl _ rfl
    exact H2 i 0 (by omega)
theorem pr_byRow : pPx [1, 28, 153, 154] [1] (fun G => rTape G ∧ rPart G ∧ rCch G) (fun _ G' => rTape G') 136 203 [] := by
  rintro G ⟨hT, hP, hC⟩
  obtain ⟨A, a1, a2⟩ := s94 (d := 58) hT hP hC (by omega)
  obtain ⟨t1, t2, t3, t4⟩ := hT
  have F1 : fr [1, 28] [] G (pset A 1 2 0) := (a2.mono (by decide) (by decide)).trans (fr.set (by decide) (by decide) _ _ _)
  have F2 : fr [] [1] (pset A 1 2 0) (pset (pset A 1 2 0) 109 1 0) := fr.setF (by decide) _ _
  have F3 : fr [1, 28] [1] G (pset (pset A 1 2 0) 109 1 0) := (F1.mono (by decide) (by decide)).trans (F2.mono (by decide) (by decide))
  have c1 : pRuns pMT 59 136 [pR 0] Yc G (some (pI (if G 109 1 = G 109 11 then brV G (G 28) else -1))) (pset A 1 2 0) := pRuns.of rfl rfl (v136_0 (pC1.of (by omega) a1 (fun v hv => rI hv rfl)))
  have tape0 : ∀ g : pG, g 1 2 = 0 → g 109 1 = 0 → g 2 = G 2 → g 110 = G 110 → rTape g := fun g h1 h2 h3 h4 => ⟨by rw [h1, h2], by omega, by omega, fun i hi => by rw [h3, h4]; exact t4 i hi⟩
  have q1 : pset (pset A 1 2 0) 109 1 0 1 2 = 0 := by rw [pset_cl _ _ (by decide), pset_eq]
  have q9 : pset (pset A 1 2 0) 109 1 0 109 1 = 0 := by rw [pset_eq]
  have hB : rPart (pset (pset A 1 2 0) 109 1 0) := F3.mv rPart_dep (by decide) (by decide) hP
  have e11 : pset (pset A 1 2 0) 109 1 0 109 11 = G 109 11 := F3.f 11 (by decide)
  by_cases hl : G 109 1 = G 109 11
  · rw [if_pos hl] at c1
    have eV : brV (pset (pset A 1 2 0) 109 1 0) (G 28) = brV G (G 28) := by
      have eS : ∀ i : Nat, brS (pset (pset A 1 2 0) 109 1 0) (G 28) i = brS G (G 28) i := by
        intro i
        induction i with
        | zero => rfl
        | succ i ih =>
          have eR : brR (pset (pset A 1 2 0) 109 1 0) i = brR G i := by unfold brR; rw [F3.c 110 (by decide)]
          unfold brS
          rw [ih, eR, e11, F3.c 118 (by decide)]
          cases brS G (G 28) i with
          | none => rfl
          | some s =>
            have ec := vGap_c (F3.c 112 (by decide)) (F3.c 114 (by decide)) (F3.c 115 (by decide)) (F3.c 116 (by decide)) (F3.c 117 (by decide)) (F3.c 118 (by decide)) e11 s.1 s.2.1 (brR G i).toNat
            simp only [ec.1, ec.2.2.2.2]
      unfold brV
      rw [eS, e11]
    have r2 : ∃ v D, pRuns pMT 59 203 [pR 109] Yc (pset A 1 2 0) (some (pI v)) D ∧ (v = brV G (G 28) ∧ fr [153, 154] [] (pset (pset A 1 2 0) 109 1 0) D) := by
      refine pX1 rfl rfl (v203_0 ?_)
      rw [e11, F1.f 1 (by decide), hl]
      rintro _ rfl
      refine ⟨fun _ => ?_, fun z => absurd rfl z⟩
      rintro _ rfl _ rfl _ rfl
      have := s203l (d := 59) (G := pset (pset A 1 2 0) 109 1 0) (G 28) (fun i hi => by rw [F3.c 110 (by decide)]; exact (t4 i hi).2) hB (by omega) (G 109 11).toNat 0 _ (0, G 28, 0) (by rw [e11]; have := hP.n0; omega) (fr.refl _ _ _) rfl (fun l hl => by omega)
      rw [eV, e11] at this
      exact this
    obtain ⟨v, D, d1, rfl, d2⟩ := r2
    have FD : fr [1, 28, 153, 154] [1] G D := (F3.mono (by decide) (by decide)).trans (d2.mono (by decide) (by decide))
    exact ⟨_, _, D, c1, d1, F1.mono (by decide) (by decide), FD, tape0 D (by rw [d2.c 1 (by decide)]; exact q1) (by rw [d2.f 1 (by decide)]; exact q9) (FD.c 2 (by decide)) (FD.c 110 (by decide))⟩
  · rw [if_neg hl] at c1
    refine ⟨-1, _, _, c1, pRuns.of rfl rfl (v203_0 ?_), F1.mono (by decide) (by decide), F3.mono (by decide) (by decide), tape0 _ q1 q9 (F3.c 2 (by decide)) (F3.c 110 (by decide))⟩
    rw [e11, F1.f 1 (by decide)]
    rintro _ rfl
    exact ⟨fun z => absurd z hl, fun _ => rI rfl rfl⟩
