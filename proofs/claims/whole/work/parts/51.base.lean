/-! Numbers of the pure machine -/
theorem w32_id {x : Int} (h1 : -2147483648 ≤ x) (h2 : x ≤ 2147483647) : w32 x = x := Int32.toInt_ofInt_of_le (by have h9 : (-2 ^ 31 : Int) = -2147483648 := (by decide); omega) (by have h9 : (2 ^ 31 : Int) = 2147483648 := (by decide); omega)
theorem w64_id {x : Int} (h1 : -9223372036854775808 ≤ x) (h2 : x ≤ 9223372036854775807) : w64 x = x := Int64.toInt_ofInt_of_le (by have h9 : (-2 ^ 63 : Int) = -9223372036854775808 := (by decide); omega) (by have h9 : (2 ^ 63 : Int) = 9223372036854775808 := (by decide); omega)
/-- a truth as a number -/
def b2i (P : Prop) [Decidable P] : Int := if P then 1 else 0
theorem b2i_t {P : Prop} [Decidable P] (h : P) : b2i P = 1 := if_pos h
theorem b2i_f {P : Prop} [Decidable P] (h : ¬ P) : b2i P = 0 := if_neg h
theorem b2i_0 {P : Prop} [Decidable P] : b2i P = 0 ↔ ¬ P := by unfold b2i; split <;> simp_all
theorem b2i_1 {P : Prop} [Decidable P] : b2i P = 1 ↔ P := by unfold b2i; split <;> simp_all
theorem b2i_01 {P : Prop} [Decidable P] : b2i P = 0 ∨ b2i P = 1 := by unfold b2i; split <;> simp
theorem cmp_lt {x y : Int} : plcmp x y < 0 ↔ x < y := by unfold plcmp; split <;> (try split) <;> omega
theorem cmp_ge {x y : Int} : 0 ≤ plcmp x y ↔ y ≤ x := by unfold plcmp; split <;> (try split) <;> omega
theorem cmp_gt {x y : Int} : 0 < plcmp x y ↔ y < x := by unfold plcmp; split <;> (try split) <;> omega
theorem cmp_le {x y : Int} : plcmp x y ≤ 0 ↔ x ≤ y := by unfold plcmp; split <;> (try split) <;> omega
theorem cmp_eq {x y : Int} : plcmp x y = 0 ↔ x = y := by unfold plcmp; split <;> (try split) <;> omega
theorem pmx_eq (x y : Int) : pmx x y = max x y := by unfold pmx; split <;> omega
theorem pmn_eq (x y : Int) : pmn x y = min x y := by unfold pmn; split <;> omega
theorem i32_of {x : Int} (h1 : -2147483648 ≤ x) (h2 : x ≤ 2147483647) : (Int32.ofInt x).toInt = x := w32_id h1 h2
theorem i64_of {x : Int} (h1 : -9223372036854775808 ≤ x) (h2 : x ≤ 9223372036854775807) : (Int64.ofInt x).toInt = x := w64_id h1 h2
theorem pdiv_id {x y : Int} (h1 : -2147483648 ≤ x) (h2 : x ≤ 2147483647) (h3 : 0 ≤ y) (h4 : y ≤ 2147483647) : pdiv x y = x.tdiv y := by
  unfold pdiv
  rw [Int32.toInt_div_of_ne_right _ _ (fun e => by
    have h5 : (Int32.ofInt y).toInt = (-1 : Int32).toInt := by rw [e]
    rw [i32_of (by omega) h4] at h5
    have h6 : (-1 : Int32).toInt = -1 := (by decide); omega), i32_of h1 h2, i32_of (by omega) h4]
theorem pldiv_id {x y : Int} (h1 : -9223372036854775808 ≤ x) (h2 : x ≤ 9223372036854775807) (h3 : 0 ≤ y) (h4 : y ≤ 9223372036854775807) : pldiv x y = x.tdiv y := by
  unfold pldiv
  rw [Int64.toInt_div_of_ne_right _ _ (fun e => by
    have h5 : (Int64.ofInt y).toInt = (-1 : Int64).toInt := by rw [e]
    rw [i64_of (by omega) h4] at h5
    have h6 : (-1 : Int64).toInt = -1 := (by decide); omega), i64_of h1 h2, i64_of (by omega) h4]
theorem prem_id {x y : Int} (h1 : -2147483648 ≤ x) (h2 : x ≤ 2147483647) (h3 : 0 < y) (h4 : y ≤ 2147483647) : prem x y = x.tmod y := by
  have hq := pdiv_id h1 h2 (Int.le_of_lt h3) h4
  unfold pdiv at hq
  unfold prem
  rw [w32_sub, w32_mul, hq, i32_of h1 h2, i32_of (by omega) h4]
  have e1 : x.tdiv y * y = x - x.tmod y := by have := Int.tdiv_mul_add_tmod x y; omega
  have b1 : -y < x.tmod y := Int.lt_tmod_of_pos x h3
  have b2 : x.tmod y < y := Int.tmod_lt_of_pos x h3
  have b3 : (x.tmod y).natAbs ≤ x.natAbs := by rw [Int.natAbs_tmod]; exact Nat.mod_le _ _
  have b4 : 0 ≤ x → 0 ≤ x.tmod y := fun h => Int.tmod_nonneg y h
  have b5 : x ≤ 0 → x.tmod y ≤ 0 := fun h => by have := Int.tmod_nonneg y (show 0 ≤ -x by omega); rw [Int.neg_tmod] at this; omega
  have i1 : w32 (x - x.tmod y) = x - x.tmod y := w32_id (by omega) (by omega)
  rw [e1, i1, w32_id (by omega) (by omega)]
  omega
theorem plrem_id {x y : Int} (h1 : -9223372036854775808 ≤ x) (h2 : x ≤ 9223372036854775807) (h3 : 0 < y) (h4 : y ≤ 9223372036854775807) : plrem x y = x.tmod y := by
  have hq := pldiv_id h1 h2 (Int.le_of_lt h3) h4
  unfold pldiv at hq
  unfold plrem
  rw [w64_sub, w64_mul, hq, i64_of h1 h2, i64_of (by omega) h4]
  have e1 : x.tdiv y * y = x - x.tmod y := by have := Int.tdiv_mul_add_tmod x y; omega
  have b1 : -y < x.tmod y := Int.lt_tmod_of_pos x h3
  have b2 : x.tmod y < y := Int.tmod_lt_of_pos x h3
  have b3 : (x.tmod y).natAbs ≤ x.natAbs := by rw [Int.natAbs_tmod]; exact Nat.mod_le _ _
  have b4 : 0 ≤ x → 0 ≤ x.tmod y := fun h => Int.tmod_nonneg y h
  have b5 : x ≤ 0 → x.tmod y ≤ 0 := fun h => by have := Int.tmod_nonneg y (show 0 ≤ -x by omega); rw [Int.neg_tmod] at this; omega
  have i1 : w64 (x - x.tmod y) = x - x.tmod y := w64_id (by omega) (by omega)
  rw [e1, i1, w64_id (by omega) (by omega)]
  omega
/-! bits -/
theorem of_and (a b : Nat) : Int32.ofNat a &&& Int32.ofNat b = Int32.ofNat (a &&& b) := by
  apply Int32.toBitVec_inj.mp
  show BitVec.ofNat 32 a &&& BitVec.ofNat 32 b = BitVec.ofNat 32 (a &&& b)
  rw [BitVec.ofNat_and]
theorem of_or (a b : Nat) : Int32.ofNat a ||| Int32.ofNat b = Int32.ofNat (a ||| b) := by
  apply Int32.toBitVec_inj.mp
  show BitVec.ofNat 32 a ||| BitVec.ofNat 32 b = BitVec.ofNat 32 (a ||| b)
  rw [BitVec.ofNat_or]
theorem pand_nn {a b : Nat} (ha : a < 2147483648) : pand (a : Int) (b : Int) = ((a &&& b : Nat) : Int) := by
  have h2 : a &&& b < 2147483648 := Nat.lt_of_le_of_lt Nat.and_le_left ha
  unfold pand
  rw [Int32.ofInt_eq_ofNat, Int32.ofInt_eq_ofNat, of_and]
  exact Int32.toInt_ofNat_of_lt h2
theorem por_nn {a b : Nat} (ha : a < 2147483648) (hb : b < 2147483648) : por (a : Int) (b : Int) = ((a ||| b : Nat) : Int) := by
  have h2 : a ||| b < 2 ^ 31 := Nat.or_lt_two_pow ha hb
  unfold por
  rw [Int32.ofInt_eq_ofNat, Int32.ofInt_eq_ofNat, of_or]
  exact Int32.toInt_ofNat_of_lt h2
theorem sh_amt : ∀ k : Nat, k < 31 → ((Int32.ofInt (k : Int) &&& 31).toBitVec.smod 32).toNat = k := by decide +kernel
theorem pshr_nn {a k : Nat} (ha : a < 2147483648) (hk : k < 31) : pshr (a : Int) (k : Int) = ((a >>> k : Nat) : Int) := by
  unfold pshr
  rw [pk_shr _ _ k (sh_amt k hk), Int32.ofInt_eq_ofNat, Int32.toInt_ofNat_of_lt ha]
  rfl
theorem pshl_1 {k : Nat} (hk : k < 31) : pshl 1 (k : Int) = ((2 ^ k : Nat) : Int) := by
  unfold pshl
  have h := pk_shlN (n := 1) (Int32.ofInt (k : Int) &&& 31) k (sh_amt k hk) (by rw [Nat.one_mul]; exact Nat.pow_lt_pow_right (by omega) (by omega))
  have h2 : (2 : Nat) ^ k < 2 ^ 31 := Nat.pow_lt_pow_right (by omega) hk
  have e : Int32.ofInt 1 = nI 1 := rfl
  rw [e, h, Nat.one_mul]
  exact nI_toInt h2
/-- bit k of a: the test that both classes make -/
theorem bit_nn {a k : Nat} (ha : a < 2147483648) (hk : k < 31) : pand (pshr (a : Int) (k : Int)) 1 = b2i (a.testBit k = true) := by
  rw [pshr_nn ha hk]
  have h2 : a >>> k < 2147483648 := Nat.lt_of_le_of_lt (Nat.shiftRight_le a k) ha
  have h3 := pand_nn (a := a >>> k) (b := 1) h2
  rw [show ((1 : Nat) : Int) = 1 from rfl] at h3
  rw [h3]
  unfold b2i
  rw [Nat.testBit]
  have h4 : a >>> k &&& 1 = 0 ∨ a >>> k &&& 1 = 1 := by rw [Nat.and_one_is_mod]; omega
  rw [Nat.and_comm 1]
  rcases h4 with h4 | h4 <;> rw [h4] <;> simp
/-! calls -/
theorem pC0.of {d m : Nat} {as : List pV} {Y : pY} {G G' : pG} {Q : pG → Prop} (hd : 1 ≤ d) (h : pRuns pMT (d - 1) m as Y G none G') (hq : Q G') : pC0 pMT d m as Y G Q := ⟨d - 1, G', by omega, h, hq⟩
theorem pC1.of {d m : Nat} {as : List pV} {Y : pY} {G G' : pG} {r : Int} {Q : Int → pG → Prop} (hd : 1 ≤ d) (h : pRuns pMT (d - 1) m as Y G (some (pI r)) G') (hq : Q r G') : pC1 pMT d m as Y G Q := ⟨d - 1, r, G', by omega, h, hq⟩
theorem pC2.of {d m : Nat} {as : List pV} {Y : pY} {G G' : pG} {r : Int} {Q : Int → pG → Prop} (hd : 1 ≤ d) (h : pRuns pMT (d - 1) m as Y G (some (pL r)) G') (hq : Q r G') : pC2 pMT d m as Y G Q := ⟨d - 1, r, G', by omega, h, hq⟩
theorem rI {x y : Int} {G G' : pG} (h : x = y) (hg : G = G') : (some (pI x) : Option pV) = some (pI y) ∧ G = G' := ⟨by rw [h], hg⟩
theorem rL {x y : Int} {G G' : pG} (h : x = y) (hg : G = G') : (some (pL x) : Option pV) = some (pL y) ∧ G = G' := ⟨by rw [h], hg⟩
theorem pset_eq (G : pG) (a i : Nat) (v : Int) : pset G a i v a i = v := by simp [pset]
theorem pset_ne (G : pG) {a i j : Nat} (v : Int) (h : j ≠ i) : pset G a i v a j = G a j := by simp [pset, h]
theorem pset_cl (G : pG) {a b i : Nat} (v : Int) (h : b ≠ a) : pset G a i v b = G b := by simp [pset, h]
theorem q1 {P : Prop} [Decidable P] (h : P) : (some (pI 1) : Option pV) = some (pI (b2i P)) := by rw [b2i_t h]
theorem q0 {P : Prop} [Decidable P] (h : ¬ P) : (some (pI 0) : Option pV) = some (pI (b2i P)) := by rw [b2i_f h]
theorem qi {x y : Int} (h : x = y) : (some (pI x) : Option pV) = some (pI y) := by rw [h]
theorem ql {x y : Int} (h : x = y) : (some (pL x) : Option pV) = some (pL y) := by rw [h]
