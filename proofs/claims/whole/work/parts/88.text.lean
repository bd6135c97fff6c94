/-! words -/
def xV (u : Nat → Int) (a : Nat) : Nat → Int
  | 0 => 0
  | n + 1 => xV u a n * 32 + (u (a + n) - 96)
theorem wV_inj {u v : Nat → Int} {a b : Nat} : ∀ n m : Nat, (∀ i : Nat, i < n → 97 ≤ u (a + i) ∧ u (a + i) ≤ 122) → (∀ i : Nat, i < m → 97 ≤ v (b + i) ∧ v (b + i) ≤ 122) → (wV u a n = wV v b m ↔ (n = m ∧ ∀ i : Nat, i < n → u (a + i) = v (b + i)))
  | 0, 0, _, _ => ⟨fun _ => ⟨rfl, fun i hi => by omega⟩, fun _ => rfl⟩
  | 0, m + 1, _, h2 => by
    have := h2 m (by omega)
    have := (wV_bd (u := v) (a := b) m (fun i hi => h2 i (by omega))).1
    constructor
    · intro h
      have h : (0 : Int) = wV v b m * 27 + (v (b + m) - 96) := h
      omega
    · rintro ⟨h, -⟩; omega
  | n + 1, 0, h1, _ => by
    have := h1 n (by omega)
    have := (wV_bd (u := u) (a := a) n (fun i hi => h1 i (by omega))).1
    constructor
    · intro h
      have h : wV u a n * 27 + (u (a + n) - 96) = (0 : Int) := h
      omega
    · rintro ⟨h, -⟩; omega
  | n + 1, m + 1, h1, h2 => by
    have l1 := h1 n (by omega)
    have l2 := h2 m (by omega)
    have ih := wV_inj (u := u) (v := v) (a := a) (b := b) n m (fun i hi => h1 i (by omega)) (fun i hi => h2 i (by omega))
    constructor
    · intro h
      have h : wV u a n * 27 + (u (a + n) - 96) = wV v b m * 27 + (v (b + m) - 96) := h
      have e1 : wV u a n = wV v b m := by omega
      obtain ⟨e2, e3⟩ := ih.mp e1
      subst e2
      refine ⟨rfl, fun i hi => ?_⟩
      by_cases e : i = n
      · subst e; omega
      · exact e3 i (by omega)
    · rintro ⟨e, h⟩
      obtain rfl : n = m := by omega
      have e1 := ih.mpr ⟨rfl, fun i hi => h i (by omega)⟩
      show wV u a n * 27 + (u (a + n) - 96) = wV v b n * 27 + (v (b + n) - 96)
      rw [e1, h n (by omega)]
theorem xV_bd {u : Nat → Int} {a : Nat} : ∀ n : Nat, (∀ i : Nat, i < n → 97 ≤ u (a + i) ∧ u (a + i) ≤ 122) → 0 ≤ xV u a n ∧ xV u a n < 32 ^ n
  | 0, _ => ⟨Int.le_refl _, by show (0 : Int) < 1; omega⟩
  | n + 1, h => by
    have l := h n (by omega)
    obtain ⟨h1, h2⟩ := xV_bd (u := u) (a := a) n (fun i hi => h i (by omega))
    show 0 ≤ xV u a n * 32 + (u (a + n) - 96) ∧ xV u a n * 32 + (u (a + n) - 96) < 32 ^ (n + 1)
    rw [Int.pow_succ]
    omega
theorem xV_inj {u v : Nat → Int} {a b : Nat} : ∀ n m : Nat, (∀ i : Nat, i < n → 97 ≤ u (a + i) ∧ u (a + i) ≤ 122) → (∀ i : Nat, i < m → 97 ≤ v (b + i) ∧ v (b + i) ≤ 122) → (xV u a n = xV v b m ↔ (n = m ∧ ∀ i : Nat, i < n → u (a + i) = v (b + i)))
  | 0, 0, _, _ => ⟨fun _ => ⟨rfl, fun i hi => by omega⟩, fun _ => rfl⟩
  | 0, m + 1, _, h2 => by
    have := h2 m (by omega)
    have := (xV_bd (u := v) (a := b) m (fun i hi => h2 i (by omega))).1
    constructor
    · intro h
      have h : (0 : Int) = xV v b m * 32 + (v (b + m) - 96) := h
      omega
    · rintro ⟨h, -⟩; omega
  | n + 1, 0, h1, _ => by
    have := h1 n (by omega)
    have := (xV_bd (u := u) (a := a) n (fun i hi => h1 i (by omega))).1
    constructor
    · intro h
      have h : xV u a n * 32 + (u (a + n) - 96) = (0 : Int) := h
      omega
    · rintro ⟨h, -⟩; omega
  | n + 1, m + 1, h1, h2 => by
    have l1 := h1 n (by omega)
    have l2 := h2 m (by omega)
    have ih := xV_inj (u := u) (v := v) (a := a) (b := b) n m (fun i hi => h1 i (by omega)) (fun i hi => h2 i (by omega))
    constructor
    · intro h
      have h : xV u a n * 32 + (u (a + n) - 96) = xV v b m * 32 + (v (b + m) - 96) := h
      have e1 : xV u a n = xV v b m := by omega
      obtain ⟨e2, e3⟩ := ih.mp e1
      subst e2
      refine ⟨rfl, fun i hi => ?_⟩
      by_cases e : i = n
      · subst e; omega
      · exact e3 i (by omega)
    · rintro ⟨e, h⟩
      obtain rfl : n = m := by omega
      have e1 := ih.mpr ⟨rfl, fun i hi => h i (by omega)⟩
      show xV u a n * 32 + (u (a + n) - 96) = xV v b n * 32 + (v (b + n) - 96)
      rw [e1, h n (by omega)]
theorem pl5 {x y : Int} (hx : 0 ≤ x) (hx2 : x < 2 ^ 50) (hy : 0 ≤ y) (hy2 : y < 32) : plor (plshl x 5) y = x * 32 + y := by
  obtain ⟨m, rfl⟩ : ∃ m : Nat, x = (m : Int) := ⟨x.toNat, by omega⟩
  obtain ⟨k, rfl⟩ : ∃ k : Nat, y = (k : Int) := ⟨y.toNat, by omega⟩
  have hm : m < 2 ^ 50 := by omega
  have hk : k < 32 := by omega
  have e1 : (Int64.ofInt (m : Int)).toBitVec = BitVec.ofNat 64 m := by rw [Int64.ofInt_eq_ofNat]; rfl
  have e2 : (Int64.ofInt (k : Int)).toBitVec = BitVec.ofNat 64 k := by rw [Int64.ofInt_eq_ofNat]; rfl
  have q : (Int64.ofInt (plshl (m : Int) 5) ||| Int64.ofInt (k : Int)) = Int64.ofInt ((m : Int) * 32 + (k : Int)) := by
    have e3 : (Int64.ofInt ((m : Int) * 32 + (k : Int))).toBitVec = BitVec.ofNat 64 (m * 32 + k) := by
      rw [show ((m : Int) * 32 + (k : Int)) = ((m * 32 + k : Nat) : Int) by omega, Int64.ofInt_eq_ofNat]; rfl
    apply Int64.toBitVec_inj.mp
    unfold plshl
    rw [Int64.ofInt_toInt, Int64.toBitVec_or, Int64.toBitVec_shiftLeft, show ((Int32.ofInt 5).toInt64 &&& 63).toBitVec.smod 64 = 5#64 from by decide, e1, e2, e3]
    apply BitVec.eq_of_toNat_eq
    rw [BitVec.toNat_or, BitVec.shiftLeft_eq', BitVec.toNat_shiftLeft, BitVec.toNat_ofNat, BitVec.toNat_ofNat, BitVec.toNat_ofNat, BitVec.toNat_ofNat]
    rw [Nat.mod_eq_of_lt (show m < 2 ^ 64 by omega), Nat.mod_eq_of_lt (show k < 2 ^ 64 by omega), Nat.mod_eq_of_lt (show 5 < 2 ^ 64 by omega), Nat.mod_eq_of_lt (show m * 32 + k < 2 ^ 64 by omega), Nat.mod_eq_of_lt (by rw [Nat.shiftLeft_eq]; omega), ← Nat.shiftLeft_add_eq_or_of_lt (by omega), Nat.shiftLeft_eq]
  unfold plor
  rw [q]
  exact Int64.toInt_ofInt_of_le (by omega) (by omega)
/-! the text of a part, read -/
def tW (u : Nat → Int) (L c : Nat) : Int := wV u (tPl u L c) (tNx u L c - tPl u L c)
def tX (u : Nat → Int) (L c : Nat) : Int := xV u (tPl u L c) (tNx u L c - tPl u L c)
def tV (u : Nat → Int) (L c : Nat) : Int := nV u (tPl u L c) (tNx u L c - tPl u L c)
theorem tKd1 {u : Nat → Int} {L c : Nat} (h : tKd u L c = 1) : tPl u L c < L ∧ tNx u L c - tPl u L c ≤ 8 ∧ (∀ i : Nat, i < tNx u L c - tPl u L c → 97 ≤ u (tPl u L c + i) ∧ u (tPl u L c + i) ≤ 122) := by
  unfold tKd at h
  by_cases h1 : tPl u L c < L
  · rw [if_pos h1] at h
    by_cases h2 : pLe (u (tPl u L c)) = true
    · rw [if_pos h2] at h
      have e : tNx u L c = skE pLe u L (tPl u L c) := by unfold tNx; rw [if_pos h1, if_pos h2]
      have bd := skE_bd (P := pLe) (u := u) (L := L) (L - tPl u L c) (tPl u L c) (by omega)
      rw [← e] at bd
      refine ⟨h1, by split at h <;> omega, fun i hi => of_decide_eq_true (bd.2.2.2 (tPl u L c + i) (by omega) (by omega))⟩
    · rw [if_neg h2] at h
      by_cases h3 : pDi (u (tPl u L c)) = true
      · rw [if_pos h3] at h; split at h <;> omega
      · rw [if_neg h3] at h; split at h <;> omega
  · rw [if_neg h1] at h; omega
theorem tNx_gt {u : Nat → Int} {L c : Nat} (hc : c ≤ L) (h : tKd u L c ≠ 0) : c < tNx u L c := by
  have b1 := tPl_bd (u := u) hc
  have h1 : tPl u L c < L := by
    by_cases h1 : tPl u L c < L
    · exact h1
    · exact absurd (by unfold tKd; rw [if_neg h1]) h
  unfold tNx
  rw [if_pos h1]
  by_cases h2 : pLe (u (tPl u L c)) = true
  · rw [if_pos h2, skE_y h1 h2]
    have := skE_bd (P := pLe) (u := u) (L := L) (L - (tPl u L c + 1)) (tPl u L c + 1) (by omega)
    omega
  · rw [if_neg h2]
    by_cases h3 : pDi (u (tPl u L c)) = true
    · rw [if_pos h3, skE_y h1 h3]
      have := skE_bd (P := pDi) (u := u) (L := L) (L - (tPl u L c + 1)) (tPl u L c + 1) (by omega)
      omega
    · rw [if_neg h3]
      omega
theorem tNx_le {u : Nat → Int} {L c : Nat} (hc : c ≤ L) : c ≤ tNx u L c ∧ tNx u L c ≤ L := by
  have b1 := tPl_bd (u := u) hc
  have b2 := tNx_bd (u := u) hc
  omega
theorem tX_W {u : Nat → Int} {L c e : Nat} (hc : tKd u L c = 1) (he : tKd u L e = 1) : tW u L c = tW u L e ↔ tX u L c = tX u L e := by
  unfold tW tX
  rw [wV_inj _ _ (tKd1 hc).2.2 (tKd1 he).2.2, xV_inj _ _ (tKd1 hc).2.2 (tKd1 he).2.2]
theorem tV_bd {u : Nat → Int} {L c : Nat} (hc : c ≤ L) (h : tKd u L c = 2) : 0 ≤ tV u L c ∧ tV u L c ≤ 9999 := cV_bd hc h
/-- a tool's number by its name -/
def dLp (u : Nat → Int) (L : Nat) (D : pG) (x : Int) : Nat → Nat → Int
  | 0, _ => -1
  | m + 1, t => if tW u L (D 1 t).toNat = x then (t : Int) else dLp u L D x m (t + 1)
def dLk (u : Nat → Int) (L : Nat) (D : pG) (x : Int) : Int := dLp u L D x (D 0 0).toNat 0
theorem dLp_bd (u : Nat → Int) (L : Nat) (D : pG) (x : Int) : ∀ m t : Nat, dLp u L D x m t = -1 ∨ ((t : Int) ≤ dLp u L D x m t ∧ dLp u L D x m t < ((t + m : Nat) : Int))
  | 0, t => Or.inl rfl
  | m + 1, t => by
    have e : dLp u L D x (m + 1) t = (if tW u L (D 1 t).toNat = x then (t : Int) else dLp u L D x m (t + 1)) := rfl
    rw [e]
    split
    · exact Or.inr ⟨by omega, by omega⟩
    · rcases dLp_bd u L D x m (t + 1) with h | h
      · exact Or.inl h
      · exact Or.inr ⟨by omega, by omega⟩
theorem dLk_bd (u : Nat → Int) (L : Nat) {D : pG} (x : Int) (h : 0 ≤ D 0 0) : dLk u L D x = -1 ∨ (0 ≤ dLk u L D x ∧ dLk u L D x < D 0 0) := by
  unfold dLk
  rcases dLp_bd u L D x (D 0 0).toNat 0 with h | h
  · exact Or.inl h
  · exact Or.inr ⟨by omega, by omega⟩
abbrev pRs : Type := (Int × Int) ⊕ (Nat × pG)
def xK (u : Nat → Int) (L c : Nat) (k : Int) (f : pRs) : pRs := if tKd u L c = k then f else Sum.inl (1, (tPl u L c : Int))
def xN (u : Nat → Int) (L c : Nat) (lo hi : Int) (f : pRs) : pRs := if tKd u L c = 2 then (if lo ≤ tV u L c ∧ tV u L c ≤ hi then f else Sum.inl (2, (tPl u L c : Int))) else Sum.inl (1, (tPl u L c : Int))
def dTool (D : pG) (c : Nat) (f s : Int) : pG := pset (pset (pset (pset (pset D 1 (D 0 0).toNat (c : Int)) 2 (D 0 0).toNat f) 3 (D 0 0).toNat s) 4 (D 0 0).toNat 0) 0 0 (D 0 0 + 1)
def dStp (D : pG) (t r w : Int) : pG := pset (pset (pset (pset (pset D 5 (D 0 1).toNat t) 6 (D 0 1).toNat r) 7 (D 0 1).toNat w) 8 (D 0 1).toNat 0) 0 1 (D 0 1 + 1)
def dAft (D : pG) (a b : Int) : pG := pset D 8 b.toNat (por (D 8 b.toNat) (pshl 1 a))
def dMet (D : pG) (a b : Int) : pG := pset (pset D 4 a.toNat (por (D 4 a.toNat) (pshl 1 b))) 4 b.toNat (por ((pset D 4 a.toNat (por (D 4 a.toNat) (pshl 1 b))) 4 b.toNat) (pshl 1 a))
def dIdl (D : pG) (x : Int) : pG := pset (pset D 0 3 1) 0 2 x
def cTool (u : Nat → Int) (L c : Nat) (D : pG) : pRs :=
  if D 0 0 < 6 then xK u L (tNx u L c) 1 (if dLk u L D (tW u L (tNx u L c)) = -1 then xN u L (tNx u L (tNx u L c)) 1 50 (xN u L (tNx u L (tNx u L (tNx u L c))) 1 60 (xK u L (tNx u L (tNx u L (tNx u L (tNx u L c)))) 3 (Sum.inr (tNx u L (tNx u L (tNx u L (tNx u L c))), dTool D (tNx u L c) (tV u L (tNx u L (tNx u L c))) (tV u L (tNx u L (tNx u L (tNx u L c)))))))) else Sum.inl (3, (tPl u L (tNx u L c) : Int))) else Sum.inl (4, (tPl u L c : Int))
def cStep (u : Nat → Int) (L c : Nat) (D : pG) : pRs :=
  if D 0 1 < 7 then xK u L (tNx u L c) 1 (if dLk u L D (tW u L (tNx u L c)) = -1 then Sum.inl (5, (tPl u L (tNx u L c) : Int)) else xN u L (tNx u L (tNx u L c)) 1 400 (if tKd u L (tNx u L (tNx u L (tNx u L c))) = 2 then (if 0 ≤ tV u L (tNx u L (tNx u L (tNx u L c))) ∧ tV u L (tNx u L (tNx u L (tNx u L c))) ≤ 99 then xK u L (tNx u L (tNx u L (tNx u L (tNx u L c)))) 3 (Sum.inr (tNx u L (tNx u L (tNx u L (tNx u L c))), dStp D (dLk u L D (tW u L (tNx u L c))) (tV u L (tNx u L (tNx u L c))) (tV u L (tNx u L (tNx u L (tNx u L c)))))) else Sum.inl (2, (tPl u L (tNx u L (tNx u L (tNx u L c))) : Int))) else xK u L (tNx u L (tNx u L (tNx u L c))) 3 (Sum.inr (tNx u L (tNx u L (tNx u L c)), dStp D (dLk u L D (tW u L (tNx u L c))) (tV u L (tNx u L (tNx u L c))) 0)))) else Sum.inl (4, (tPl u L c : Int))
def cAft (u : Nat → Int) (L c : Nat) (D : pG) : pRs :=
  xN u L (tNx u L c) 0 (D 0 1 - 1) (xN u L (tNx u L (tNx u L c)) (tV u L (tNx u L c)) (D 0 1 - 1) (if tV u L (tNx u L (tNx u L c)) = tV u L (tNx u L c) ∨ bt (D 8 (tV u L (tNx u L (tNx u L c))).toNat) (tV u L (tNx u L c)).toNat = true then Sum.inl (3, (tPl u L (tNx u L (tNx u L c)) : Int)) else xK u L (tNx u L (tNx u L (tNx u L c))) 3 (Sum.inr (tNx u L (tNx u L (tNx u L c)), dAft D (tV u L (tNx u L c)) (tV u L (tNx u L (tNx u L c)))))))
def cMet (u : Nat → Int) (L c : Nat) (D : pG) : pRs :=
  xK u L (tNx u L c) 1 (if dLk u L D (tW u L (tNx u L c)) = -1 then Sum.inl (5, (tPl u L (tNx u L c) : Int)) else xK u L (tNx u L (tNx u L c)) 1 (if dLk u L D (tW u L (tNx u L (tNx u L c))) = -1 then Sum.inl (5, (tPl u L (tNx u L (tNx u L c)) : Int)) else if dLk u L D (tW u L (tNx u L (tNx u L c))) = dLk u L D (tW u L (tNx u L c)) ∨ bt (D 4 (dLk u L D (tW u L (tNx u L c))).toNat) (dLk u L D (tW u L (tNx u L (tNx u L c)))).toNat = true then Sum.inl (3, (tPl u L (tNx u L (tNx u L c)) : Int)) else xK u L (tNx u L (tNx u L (tNx u L c))) 3 (Sum.inr (tNx u L (tNx u L (tNx u L c)), dMet D (dLk u L D (tW u L (tNx u L c))) (dLk u L D (tW u L (tNx u L (tNx u L c))))))))
def cIdl (u : Nat → Int) (L c : Nat) (D : pG) : pRs :=
  if D 0 3 = 0 then xN u L (tNx u L c) 0 40 (xK u L (tNx u L (tNx u L c)) 3 (Sum.inr (tNx u L (tNx u L c), dIdl D (tV u L (tNx u L c))))) else Sum.inl (3, (tPl u L c : Int))
def cCl (u : Nat → Int) (L c : Nat) (D : pG) : pRs :=
  if tKd u L c = 1 then (if tW u L c = 405012 then cTool u L c D else if tW u L c = 388708 then cStep u L c D else if tW u L c = 664272 then cAft u L c D else if tW u L c = 259679 then cMet u L c D else if tW u L c = 180392 then cIdl u L c D else Sum.inl (1, (tPl u L c : Int))) else Sum.inl (1, (tPl u L c : Int))
def prs (u : Nat → Int) (L : Nat) : Nat → Nat → Nat → pG → pRs
  | 0, _, _, _ => Sum.inl (0, -1)
  | m + 1, n, c, D => if tKd u L c = 0 then Sum.inr (n, D) else (match cCl u L c D with
    | Sum.inl f => Sum.inl f
    | Sum.inr (e, D') => prs u L m (n + 1) (tNx u L e) D')
/-- what always holds of what was read -/
def bD (u : Nat → Int) (L : Nat) (D : pG) : Prop := (0 ≤ D 0 0 ∧ D 0 0 ≤ 6) ∧ (0 ≤ D 0 1 ∧ D 0 1 ≤ 7) ∧ (0 ≤ D 0 2 ∧ D 0 2 ≤ 40) ∧ (D 0 3 = 0 ∨ D 0 3 = 1) ∧ (∀ t : Nat, (t : Int) < D 0 0 → (0 ≤ D 1 t ∧ (D 1 t).toNat ≤ L ∧ tKd u L (D 1 t).toNat = 1) ∧ 1 ≤ D 2 t ∧ D 2 t ≤ 50 ∧ 1 ≤ D 3 t ∧ D 3 t ≤ 60 ∧ 0 ≤ D 4 t ∧ D 4 t ≤ 63 ∧ (∀ j : Nat, D 0 0 ≤ (j : Int) → bt (D 4 t) j = false) ∧ (∀ t' : Nat, (t' : Int) < D 0 0 → bt (D 4 t) t' = bt (D 4 t') t)) ∧ (∀ k : Nat, (k : Int) < D 0 1 → 0 ≤ D 5 k ∧ D 5 k < D 0 0 ∧ 1 ≤ D 6 k ∧ D 6 k ≤ 400 ∧ 0 ≤ D 7 k ∧ D 7 k ≤ 99 ∧ 0 ≤ D 8 k ∧ D 8 k < 2 ^ k)
theorem dTool_v (D : pG) (c : Nat) (f s : Int) : (∀ j : Nat, dTool D c f s 0 j = if j = 0 then D 0 0 + 1 else D 0 j) ∧ (∀ t : Nat, dTool D c f s 1 t = if t = (D 0 0).toNat then (c : Int) else D 1 t) ∧ (∀ t : Nat, dTool D c f s 2 t = if t = (D 0 0).toNat then f else D 2 t) ∧ (∀ t : Nat, dTool D c f s 3 t = if t = (D 0 0).toNat then s else D 3 t) ∧ (∀ t : Nat, dTool D c f s 4 t = if t = (D 0 0).toNat then 0 else D 4 t) ∧ (∀ r : Nat, 5 ≤ r → dTool D c f s r = D r) := by
  unfold dTool
  refine ⟨fun j => ?_, fun t => ?_, fun t => ?_, fun t => ?_, fun t => ?_, fun r hr => ?_⟩
  · rw [pset_at, if_pos rfl, pset_cl _ _ (by decide), pset_cl _ _ (by decide), pset_cl _ _ (by decide), pset_cl _ _ (by decide)]
  · rw [pset_cl _ _ (by decide), pset_cl _ _ (by decide), pset_cl _ _ (by decide), pset_cl _ _ (by decide), pset_at, if_pos rfl]
  · rw [pset_cl _ _ (by decide), pset_cl _ _ (by decide), pset_cl _ _ (by decide), pset_at, if_pos rfl, pset_cl _ _ (by decide)]
  · rw [pset_cl _ _ (by decide), pset_cl _ _ (by decide), pset_at, if_pos rfl, pset_cl _ _ (by decide), pset_cl _ _ (by decide)]
  · rw [pset_cl _ _ (by decide), pset_at, if_pos rfl, pset_cl _ _ (by decide), pset_cl _ _ (by decide), pset_cl _ _ (by decide)]
  · rw [pset_cl _ _ (by omega), pset_cl _ _ (by omega), pset_cl _ _ (by omega), pset_cl _ _ (by omega), pset_cl _ _ (by omega)]
theorem dStp_v (D : pG) (t r w : Int) : (∀ j : Nat, dStp D t r w 0 j = if j = 1 then D 0 1 + 1 else D 0 j) ∧ (∀ k : Nat, dStp D t r w 5 k = if k = (D 0 1).toNat then t else D 5 k) ∧ (∀ k : Nat, dStp D t r w 6 k = if k = (D 0 1).toNat then r else D 6 k) ∧ (∀ k : Nat, dStp D t r w 7 k = if k = (D 0 1).toNat then w else D 7 k) ∧ (∀ k : Nat, dStp D t r w 8 k = if k = (D 0 1).toNat then 0 else D 8 k) ∧ (∀ c : Nat, 1 ≤ c → c ≤ 4 → dStp D t r w c = D c) := by
  unfold dStp
  refine ⟨fun j => ?_, fun t => ?_, fun t => ?_, fun t => ?_, fun t => ?_, fun r hr hr2 => ?_⟩
  · rw [pset_at, if_pos rfl, pset_cl _ _ (by decide), pset_cl _ _ (by decide), pset_cl _ _ (by decide), pset_cl _ _ (by decide)]
  · rw [pset_cl _ _ (by decide), pset_cl _ _ (by decide), pset_cl _ _ (by decide), pset_cl _ _ (by decide), pset_at, if_pos rfl]
  · rw [pset_cl _ _ (by decide), pset_cl _ _ (by decide), pset_cl _ _ (by decide), pset_at, if_pos rfl, pset_cl _ _ (by decide)]
  · rw [pset_cl _ _ (by decide), pset_cl _ _ (by decide), pset_at, if_pos rfl, pset_cl _ _ (by decide), pset_cl _ _ (by decide)]
  · rw [pset_cl _ _ (by decide), pset_at, if_pos rfl, pset_cl _ _ (by decide), pset_cl _ _ (by decide), pset_cl _ _ (by decide)]
  · rw [pset_cl _ _ (by omega), pset_cl _ _ (by omega), pset_cl _ _ (by omega), pset_cl _ _ (by omega), pset_cl _ _ (by omega)]
theorem bD_tool {u : Nat → Int} {L : Nat} {D : pG} {c : Nat} {f s : Int} (h : bD u L D) (h6 : D 0 0 < 6) (hc : c ≤ L) (hk : tKd u L c = 1) (f0 : 1 ≤ f) (f1 : f ≤ 50) (s0 : 1 ≤ s) (s1 : s ≤ 60) : bD u L (dTool D c f s) := by
  obtain ⟨⟨a1, a2⟩, a3, a4, a5, a6, a7⟩ := h
  obtain ⟨v0, v1, v2, v3, v4, v5⟩ := dTool_v D c f s
  have e0 : dTool D c f s 0 0 = D 0 0 + 1 := by rw [v0, if_pos rfl]
  have e1 : ∀ j : Nat, j ≠ 0 → dTool D c f s 0 j = D 0 j := fun j hj => by rw [v0, if_neg hj]
  refine ⟨by omega, by rw [e1 1 (by decide)]; exact a3, by rw [e1 2 (by decide)]; exact a4, by rw [e1 3 (by decide)]; exact a5, fun t ht => ?_, fun k hk => ?_⟩
  · rw [e0] at ht ⊢
    rw [v1, v2, v3, v4]
    by_cases e : t = (D 0 0).toNat
    · rw [if_pos e, if_pos e, if_pos e, if_pos e]
      refine ⟨⟨by omega, by rw [Int.toNat_natCast]; exact hc, by rw [Int.toNat_natCast]; exact hk⟩, f0, f1, s0, s1, by omega, by omega, fun j _ => bt0 j, fun t' ht' => ?_⟩
      rw [v4, bt0]
      split
      · rw [bt0]
      · exact ((a6 t' (by omega)).2.2.2.2.2.2.2.1 t (by omega)).symm
    · rw [if_neg e, if_neg e, if_neg e, if_neg e]
      obtain ⟨b1, b2, b3, b4, b5, b6, b7, b8, b9⟩ := a6 t (by omega)
      refine ⟨b1, b2, b3, b4, b5, b6, b7, fun j hj => b8 j (by omega), fun t' ht' => ?_⟩
      rw [v4]
      by_cases e' : t' = (D 0 0).toNat
      · rw [if_pos e', bt0]
        exact b8 t' (by omega)
      · rw [if_neg e']
        exact b9 t' (by omega)
  · rw [e1 1 (by decide)] at hk
    rw [e0, v5 5 (by decide), v5 6 (by decide), v5 7 (by decide), v5 8 (by decide)]
    have := a7 k hk
    exact ⟨this.1, by omega, this.2.2⟩
theorem bD_step {u : Nat → Int} {L : Nat} {D : pG} {t r w : Int} (h : bD u L D) (h7 : D 0 1 < 7) (t0 : 0 ≤ t) (t1 : t < D 0 0) (r0 : 1 ≤ r) (r1 : r ≤ 400) (w0 : 0 ≤ w) (w1 : w ≤ 99) : bD u L (dStp D t r w) := by
  obtain ⟨a1, a3, a4, a5, a6, a7⟩ := h
  obtain ⟨v0, v1, v2, v3, v4, v5⟩ := dStp_v D t r w
  have e0 : dStp D t r w 0 1 = D 0 1 + 1 := by rw [v0, if_pos rfl]
  have e1 : ∀ j : Nat, j ≠ 1 → dStp D t r w 0 j = D 0 j := fun j hj => by rw [v0, if_neg hj]
  refine ⟨by rw [e1 0 (by decide)]; exact a1, by omega, by rw [e1 2 (by decide)]; exact a4, by rw [e1 3 (by decide)]; exact a5, fun x hx => ?_, fun k hk => ?_⟩
  · rw [e1 0 (by decide)] at hx ⊢
    rw [v5 1 (by decide) (by decide), v5 2 (by decide) (by decide), v5 3 (by decide) (by decide), v5 4 (by decide) (by decide)]
    exact a6 x hx
  · rw [e0] at hk
    rw [e1 0 (by decide), v1, v2, v3, v4]
    by_cases e : k = (D 0 1).toNat
    · rw [if_pos e, if_pos e, if_pos e, if_pos e]
      have := Int.pow_pos (n := 2) (m := k) (by omega)
      exact ⟨t0, t1, r0, r1, w0, w1, by omega, by omega⟩
    · rw [if_neg e, if_neg e, if_neg e, if_neg e]
      exact a7 k (by omega)
theorem bD_aft {u : Nat → Int} {L : Nat} {D : pG} {a b : Int} (h : bD u L D) (a0 : 0 ≤ a) (ab : a < b) (b1 : b < D 0 1) : bD u L (dAft D a b) := by
  obtain ⟨a1, a3, a4, a5, a6, a7⟩ := h
  obtain ⟨m, rfl⟩ : ∃ m : Nat, a = (m : Int) := ⟨a.toNat, by omega⟩
  obtain ⟨n, rfl⟩ : ∃ n : Nat, b = (n : Int) := ⟨b.toNat, by omega⟩
  unfold dAft
  rw [Int.toNat_natCast]
  refine ⟨by rw [pset_cl _ _ (by decide)]; exact a1, by rw [pset_cl _ _ (by decide)]; exact a3, by rw [pset_cl _ _ (by decide)]; exact a4, by rw [pset_cl _ _ (by decide)]; exact a5, fun x hx => ?_, fun k hk => ?_⟩
  · rw [pset_cl _ _ (by decide)] at hx ⊢
    rw [pset_cl _ _ (by decide), pset_cl _ _ (by decide), pset_cl _ _ (by decide), pset_cl _ _ (by decide)]
    exact a6 x hx
  · rw [pset_cl _ _ (by decide)] at hk
    rw [pset_cl _ _ (by decide), pset_cl _ _ (by decide), pset_cl _ _ (by decide), pset_cl _ _ (by decide), pset_at, if_pos rfl]
    by_cases e : k = n
    · subst e
      rw [if_pos rfl]
      obtain ⟨c1, c2, c3, c4, c5, c6, c7, c8⟩ := a7 k hk
      have p7 : (2 : Int) ^ k ≤ 2 ^ 7 := by
        have : ∀ k : Nat, k ≤ 7 → (2 : Int) ^ k ≤ 2 ^ 7 := by decide
        exact this k (by omega)
      obtain ⟨q1, q2, q3, q4⟩ := por_set (k := m) c7 (show D 8 k < 2147483648 by omega) (by omega)
      exact ⟨c1, c2, c3, c4, c5, c6, q1, q4 k (by omega) (by omega) c8⟩
    · rw [if_neg e]
      exact a7 k hk
theorem bD_met {u : Nat → Int} {L : Nat} {D : pG} {a b : Int} (h : bD u L D) (a0 : 0 ≤ a) (a1 : a < D 0 0) (b0 : 0 ≤ b) (b1 : b < D 0 0) (ne : b ≠ a) : bD u L (dMet D a b) := by
  obtain ⟨h1, a3, a4, a5, a6, a7⟩ := h
  obtain ⟨m, rfl⟩ : ∃ m : Nat, a = (m : Int) := ⟨a.toNat, by omega⟩
  obtain ⟨n, rfl⟩ : ∃ n : Nat, b = (n : Int) := ⟨b.toNat, by omega⟩
  have hm := a6 m a1
  have hn := a6 n b1
  obtain ⟨q1, q2, q3, q4⟩ := por_set (a := D 4 m) (k := n) hm.2.2.2.2.2.1 (by omega) (by omega)
  obtain ⟨r1, r2, r3, r4⟩ := por_set (a := D 4 n) (k := m) hn.2.2.2.2.2.1 (by omega) (by omega)
  have q5 := q4 6 (by omega) (by omega) (by omega)
  have r5 := r4 6 (by omega) (by omega) (by omega)
  have v4 : ∀ t : Nat, dMet D (m : Int) (n : Int) 4 t = if t = n then por (D 4 n) (pshl 1 (m : Int)) else if t = m then por (D 4 m) (pshl 1 (n : Int)) else D 4 t := by
    intro t
    unfold dMet
    rw [Int.toNat_natCast, Int.toNat_natCast, pset_ne (a := 4) (i := m) (j := n) _ _ (by omega), pset_at, if_pos rfl, pset_at, if_pos rfl]
  have vo : ∀ c : Nat, c ≠ 4 → dMet D (m : Int) (n : Int) c = D c := by
    intro c hc
    unfold dMet
    rw [pset_cl _ _ hc, pset_cl _ _ hc]
  have bits : ∀ t j : Nat, bt (dMet D (m : Int) (n : Int) 4 t) j = (bt (D 4 t) j || (decide (t = n ∧ j = m) || decide (t = m ∧ j = n))) := by
    intro t j
    rw [v4]
    by_cases e : t = n
    · subst e
      rw [if_pos rfl, r3]
      have : ¬ (t = m ∧ j = t) := fun z => by omega
      simp [this]
    · rw [if_neg e]
      by_cases e2 : t = m
      · subst e2
        rw [if_pos rfl, q3]
        simp [e]
      · rw [if_neg e2]
        simp [e, e2]
  refine ⟨by rw [vo 0 (by decide)]; exact h1, by rw [vo 0 (by decide)]; exact a3, by rw [vo 0 (by decide)]; exact a4, by rw [vo 0 (by decide)]; exact a5, fun x hx => ?_, fun k hk => ?_⟩
  · rw [vo 0 (by decide)] at hx ⊢
    rw [vo 1 (by decide), vo 2 (by decide), vo 3 (by decide)]
    obtain ⟨b1, b2, b3, b4, b5, b6, b7, b8, b9⟩ := a6 x hx
    refine ⟨b1, b2, b3, b4, b5, ?_, ?_, fun j hj => ?_, fun t' ht' => ?_⟩
    · rw [v4]; split
      · exact r1
      · split
        · exact q1
        · exact b6
    · rw [v4]; split
      · omega
      · split
        · omega
        · exact b7
    · rw [bits, b8 j hj]
      have z1 : ¬ (x = n ∧ j = m) := fun z => by omega
      have z2 : ¬ (x = m ∧ j = n) := fun z => by omega
      simp [z1, z2]
    · rw [bits, bits, b9 t' ht']
      congr 1
      by_cases z1 : x = n ∧ t' = m
      · have z2 : t' = m ∧ x = n := ⟨z1.2, z1.1⟩
        simp [z1, z2]
      · by_cases z3 : x = m ∧ t' = n
        · have z4 : t' = n ∧ x = m := ⟨z3.2, z3.1⟩
          simp [z3, z4]
        · have z2 : ¬ (t' = m ∧ x = n) := fun z => z1 ⟨z.2, z.1⟩
          have z4 : ¬ (t' = n ∧ x = m) := fun z => z3 ⟨z.2, z.1⟩
          simp [z1, z2, z3, z4]
  · rw [vo 0 (by decide)] at hk ⊢
    rw [vo 5 (by decide), vo 6 (by decide), vo 7 (by decide), vo 8 (by decide)]
    exact a7 k hk
theorem bD_idl {u : Nat → Int} {L : Nat} {D : pG} {x : Int} (h : bD u L D) (x0 : 0 ≤ x) (x1 : x ≤ 40) : bD u L (dIdl D x) := by
  obtain ⟨h1, a3, a4, a5, a6, a7⟩ := h
  have v0 : ∀ j : Nat, dIdl D x 0 j = if j = 2 then x else if j = 3 then 1 else D 0 j := by
    intro j
    unfold dIdl
    rw [pset_at, if_pos rfl, pset_at, if_pos rfl]
  have vo : ∀ c : Nat, c ≠ 0 → dIdl D x c = D c := by
    intro c hc
    unfold dIdl
    rw [pset_cl _ _ hc, pset_cl _ _ hc]
  have e0 : dIdl D x 0 0 = D 0 0 := v0 0
  have e1 : dIdl D x 0 1 = D 0 1 := v0 1
  have e2 : dIdl D x 0 2 = x := v0 2
  have e3 : dIdl D x 0 3 = 1 := v0 3
  refine ⟨by rw [e0]; exact h1, by rw [e1]; exact a3, by omega, Or.inr e3, fun t ht => ?_, fun k hk => ?_⟩
  · rw [e0] at ht ⊢
    rw [vo 1 (by decide), vo 2 (by decide), vo 3 (by decide), vo 4 (by decide)]
    exact a6 t ht
  · rw [e1] at hk
    rw [e0, vo 5 (by decide), vo 6 (by decide), vo 7 (by decide), vo 8 (by decide)]
    exact a7 k hk
