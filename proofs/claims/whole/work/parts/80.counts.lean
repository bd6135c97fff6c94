/-! counts, by causes and by blocks -/
theorem tot {G : pG} (hP : rPart G) (hG : rGau G) (K : Int) (F : Int → Int → Int → Int) : vSm (fun n => if fN G K n = true then F (vH G (n : Int)) (vW G (n : Int)) (vD G (n : Int)) else 0) (vCau G).toNat = lSm (bSm F) (vAllG G K) := by
  have t0 := hP.t0
  have t1 := hP.t1
  have n0 := hP.n0
  have n1 := hP.n1
  obtain ⟨c1, c2, c3⟩ := vCau_e hP
  have eD : cDw G = ((1 + 4 * (G 109 11).toNat : Nat) : Int) := by unfold cDw; omega
  have eW : cWw G = ((1 + 60 * (G 109 10).toNat : Nat) : Int) := by unfold cWw; omega
  have eN : (vCau G).toNat = 5 * (1 + 60 * (G 109 10).toNat) * (1 + 4 * (G 109 11).toNat) := by
    rw [c1, eD, eW, ← Int.natCast_mul]
    rw [show (5 : Int) * (((1 + 4 * (G 109 11).toNat) * (1 + 60 * (G 109 10).toNat) : Nat) : Int) = ((5 * ((1 + 4 * (G 109 11).toNat) * (1 + 60 * (G 109 10).toNat)) : Nat) : Int) by rw [Int.natCast_mul]; rfl, Int.toNat_natCast, Nat.mul_assoc, Nat.mul_comm (1 + 4 * (G 109 11).toNat)]
  have ok : okL (tlG G) (G 109 10).toNat (snL G K) := fun x hx => (snL_ok hP hG K (G 109 60).toNat (by have := hG.1; omega) x hx).1
  have := all_sum (D := 1 + 4 * (G 109 11).toNat) (T := (G 109 10).toNat) (by omega) (by omega) ok F
  rw [← eN] at this
  unfold vAllG
  rw [← this]
  refine vSm_c _ (fun n hn => ?_)
  unfold fN vH vW vD
  rw [eD, eW]
theorem rng (V a b : Int) (ha : 0 ≤ a) : ∀ n : Nat, vSm (fun c => if a ≤ (c : Int) ∧ (c : Int) ≤ b then V else 0) n = V * max 0 (min (b + 1) (n : Int) - a)
  | 0 => by
    have : max 0 (min (b + 1) ((0 : Nat) : Int) - a) = 0 := by omega
    rw [this, Int.mul_zero]
    rfl
  | n + 1 => by
    have ih := rng V a b ha n
    show vSm (fun c => if a ≤ (c : Int) ∧ (c : Int) ≤ b then V else 0) n + (if a ≤ (n : Int) ∧ (n : Int) ≤ b then V else 0) = _
    rw [ih]
    by_cases q : a ≤ (n : Int) ∧ (n : Int) ≤ b
    · rw [if_pos q, show max 0 (min (b + 1) ((n + 1 : Nat) : Int) - a) = max 0 (min (b + 1) (n : Int) - a) + 1 by omega, Int.mul_add, Int.mul_one]
    · rw [if_neg q, show max 0 (min (b + 1) ((n + 1 : Nat) : Int) - a) = max 0 (min (b + 1) (n : Int) - a) by omega, Int.add_zero]
theorem bSm_k {G : pG} {F : Int → Int → Int → Int} {b : vBk} {V : Int} (hb : okB G b) (h0 : b.2.2.1 = -1 → F b.1 0 b.2.1 = V) (h1 : b.2.2.1 ≠ -1 → ∀ f c : Nat, f < 12 → c < 5 → F b.1 (wN b.2.2.1 (f : Int) ((c : Int) + 1)) b.2.1 = V) : bSm F b = V * szB b := by
  obtain ⟨-, -, -, -, hb⟩ := hb
  unfold bSm
  rcases hb with ⟨e1, e2, e3, e4, e5⟩ | ⟨e1, e2, e3, e4, e5, e6, e7, e8⟩
  · rw [if_pos e1, h0 e1]
    unfold szB
    rw [e2, e3, e4, e5]
    show V = V * 1
    omega
  · have ne : b.2.2.1 ≠ -1 := by omega
    rw [if_neg ne]
    have inner : ∀ f : Nat, f < 12 → vSm (fun c => if b.2.2.2.1 ≤ (f : Int) ∧ (f : Int) ≤ b.2.2.2.2.1 ∧ b.2.2.2.2.2.1 ≤ (c : Int) + 1 ∧ (c : Int) + 1 ≤ b.2.2.2.2.2.2 then F b.1 (wN b.2.2.1 (f : Int) ((c : Int) + 1)) b.2.1 else 0) 5 = if b.2.2.2.1 ≤ (f : Int) ∧ (f : Int) ≤ b.2.2.2.2.1 then V * (b.2.2.2.2.2.2 - b.2.2.2.2.2.1 + 1) else 0 := by
      intro f hf
      by_cases q : b.2.2.2.1 ≤ (f : Int) ∧ (f : Int) ≤ b.2.2.2.2.1
      · rw [if_pos q]
        have r := rng V (b.2.2.2.2.2.1 - 1) (b.2.2.2.2.2.2 - 1) (by omega) 5
        rw [show max 0 (min (b.2.2.2.2.2.2 - 1 + 1) ((5 : Nat) : Int) - (b.2.2.2.2.2.1 - 1)) = b.2.2.2.2.2.2 - b.2.2.2.2.2.1 + 1 by omega] at r
        rw [← r]
        refine vSm_c 5 (fun c hc => ?_)
        rw [h1 ne f c hf hc]
        by_cases z : b.2.2.2.2.2.1 - 1 ≤ (c : Int) ∧ (c : Int) ≤ b.2.2.2.2.2.2 - 1
        · rw [if_pos z, if_pos (by omega)]
        · rw [if_neg z, if_neg (by omega)]
      · rw [if_neg q, vSm_c (g := fun _ => 0) 5 (fun c hc => ?_), vSm_z]
        rw [if_neg (by omega)]
    rw [vSm_c 12 inner, rng _ _ _ e3, show max 0 (min (b.2.2.2.2.1 + 1) ((12 : Nat) : Int) - b.2.2.2.1) = b.2.2.2.2.1 - b.2.2.2.1 + 1 by omega]
    unfold szB
    rw [Int.mul_assoc, Int.mul_comm (b.2.2.2.2.2.2 - b.2.2.2.2.2.1 + 1)]
theorem lSm_c {α : Type} {f g : α → Int} : ∀ l : List α, (∀ b ∈ l, f b = g b) → lSm f l = lSm g l
  | [], _ => rfl
  | b :: l, h => by
    show f b + lSm f l = g b + lSm g l
    rw [h b List.mem_cons_self, lSm_c l (fun x hx => h x (List.mem_cons_of_mem _ hx))]
theorem lSm_pos {α : Type} {g : α → Int} : ∀ l : List α, 0 < lSm g l → ∃ b ∈ l, 0 < g b
  | [], h => by simp [lSm] at h
  | b :: l, h => by
    by_cases q : 0 < g b
    · exact ⟨b, List.mem_cons_self, q⟩
    · have : g b + lSm g l > 0 := h
      obtain ⟨x, x1, x2⟩ := lSm_pos (g := g) l (by omega)
      exact ⟨x, List.mem_cons_of_mem _ x1, x2⟩
theorem lSm_ge {α : Type} {g : α → Int} (h0 : ∀ b, 0 ≤ g b) : ∀ l : List α, 0 ≤ lSm g l ∧ ∀ b ∈ l, g b ≤ lSm g l
  | [] => ⟨Int.le_refl _, fun b hb => by simp at hb⟩
  | x :: l => by
    have ih := lSm_ge h0 l
    have := h0 x
    refine ⟨by show 0 ≤ g x + lSm g l; omega, fun b hb => ?_⟩
    show g b ≤ g x + lSm g l
    rcases List.mem_cons.mp hb with e | e
    · subst e; omega
    · have := ih.2 b e; omega
theorem vSm_pos {f : Nat → Int} : ∀ n : Nat, 0 < vSm f n → ∃ i, i < n ∧ 0 < f i
  | 0, h => by simp [vSm] at h
  | n + 1, h => by
    by_cases q : 0 < f n
    · exact ⟨n, by omega, q⟩
    · have : vSm f n + f n > 0 := h
      obtain ⟨i, i1, i2⟩ := vSm_pos (f := f) n (by omega)
      exact ⟨i, by omega, i2⟩
theorem vSm_ge1 {f : Nat → Int} (h0 : ∀ i, 0 ≤ f i) : ∀ n : Nat, 0 ≤ vSm f n ∧ ∀ i, i < n → f i ≤ vSm f n
  | 0 => ⟨Int.le_refl _, fun i hi => by omega⟩
  | n + 1 => by
    have ih := vSm_ge1 h0 n
    have := h0 n
    refine ⟨by show 0 ≤ vSm f n + f n; omega, fun i hi => ?_⟩
    show f i ≤ vSm f n + f n
    by_cases e : i = n
    · subst e; omega
    · have := ih.2 i (by omega); omega
/-- a cause's number out of its parts -/
theorem cau_num {G : pG} (n : Int) : n = ((vH G n + 2) * cWw G + vW G n) * cDw G + vD G n := by
  unfold vH vW vD
  have h1 := Int.mul_ediv_add_emod n (cDw G)
  have h2 := Int.mul_ediv_add_emod (n / cDw G) (cWw G)
  have e : (n / cDw G / cWw G - 2 + 2) * cWw G + n / cDw G % cWw G = n / cDw G := by
    rw [show n / cDw G / cWw G - 2 + 2 = n / cDw G / cWw G by omega, Int.mul_comm]
    exact h2
  rw [e, Int.mul_comm]
  exact h1.symm
def isC (h0 w0 q0 : Int) (h w q : Int) : Int := if h = h0 ∧ w = w0 ∧ q = q0 then 1 else 0
theorem isC_0 (h0 w0 q0 h w q : Int) : 0 ≤ isC h0 w0 q0 h w q := by unfold isC; split <;> omega
theorem bSm_0 {F : Int → Int → Int → Int} (hF : ∀ h w q, 0 ≤ F h w q) (b : vBk) : 0 ≤ bSm F b := by
  unfold bSm
  split
  · exact hF _ _ _
  · refine (vSm_ge1 (fun f => (vSm_ge1 (fun c => ?_) 5).1) 12).1
    split
    · exact hF _ _ _
    · omega
theorem ite_0 {c : Prop} [Decidable c] {x : Int} (h : 0 ≤ x) : 0 ≤ (if c then x else 0) := by split <;> omega
/-- a cause that fits is in a block -/
theorem mem1 {G : pG} (hP : rPart G) (hG : rGau G) (K : Int) {n : Nat} (hn : n < (vCau G).toNat) (hf : fN G K n = true) : ∃ b ∈ vAllG G K, b.1 = vH G (n : Int) ∧ b.2.1 = vD G (n : Int) ∧ ((b.2.2.1 = -1 ∧ vW G (n : Int) = 0) ∨ (b.2.2.1 ≠ -1 ∧ ∃ f c : Nat, f < 12 ∧ c < 5 ∧ (b.2.2.2.1 ≤ (f : Int) ∧ (f : Int) ≤ b.2.2.2.2.1 ∧ b.2.2.2.2.2.1 ≤ (c : Int) + 1 ∧ (c : Int) + 1 ≤ b.2.2.2.2.2.2) ∧ vW G (n : Int) = wN b.2.2.1 (f : Int) ((c : Int) + 1))) := by
  have t := tot hP hG K (isC (vH G (n : Int)) (vW G (n : Int)) (vD G (n : Int)))
  have ge := (vSm_ge1 (f := fun m => if fN G K m = true then isC (vH G (n : Int)) (vW G (n : Int)) (vD G (n : Int)) (vH G (m : Int)) (vW G (m : Int)) (vD G (m : Int)) else 0) (fun i => ite_0 (isC_0 _ _ _ _ _ _)) (vCau G).toNat).2 n hn
  have e1 : (if fN G K n = true then isC (vH G (n : Int)) (vW G (n : Int)) (vD G (n : Int)) (vH G (n : Int)) (vW G (n : Int)) (vD G (n : Int)) else 0) = 1 := by rw [if_pos hf]; unfold isC; rw [if_pos ⟨rfl, rfl, rfl⟩]
  have pos : 0 < lSm (bSm (isC (vH G (n : Int)) (vW G (n : Int)) (vD G (n : Int)))) (vAllG G K) := by
    rw [← t]
    have e2 : (1 : Int) ≤ vSm (fun m => if fN G K m = true then isC (vH G (n : Int)) (vW G (n : Int)) (vD G (n : Int)) (vH G (m : Int)) (vW G (m : Int)) (vD G (m : Int)) else 0) (vCau G).toNat := Int.le_trans (Int.le_of_eq e1.symm) ge
    omega
  obtain ⟨b, b1, b2⟩ := lSm_pos _ pos
  refine ⟨b, b1, ?_⟩
  unfold bSm at b2
  by_cases q : b.2.2.1 = -1
  · rw [if_pos q] at b2
    unfold isC at b2
    by_cases z : b.1 = vH G (n : Int) ∧ (0 : Int) = vW G (n : Int) ∧ b.2.1 = vD G (n : Int)
    · exact ⟨z.1, z.2.2, Or.inl ⟨q, z.2.1.symm⟩⟩
    · rw [if_neg z] at b2; omega
  · rw [if_neg q] at b2
    obtain ⟨f, f1, f2⟩ := vSm_pos _ b2
    obtain ⟨c, c1, c2⟩ := vSm_pos _ f2
    have c2 : 0 < (if b.2.2.2.1 ≤ (f : Int) ∧ (f : Int) ≤ b.2.2.2.2.1 ∧ b.2.2.2.2.2.1 ≤ (c : Int) + 1 ∧ (c : Int) + 1 ≤ b.2.2.2.2.2.2 then isC (vH G (n : Int)) (vW G (n : Int)) (vD G (n : Int)) b.1 (wN b.2.2.1 (f : Int) ((c : Int) + 1)) b.2.1 else 0) := c2
    by_cases z : b.2.2.2.1 ≤ (f : Int) ∧ (f : Int) ≤ b.2.2.2.2.1 ∧ b.2.2.2.2.2.1 ≤ (c : Int) + 1 ∧ (c : Int) + 1 ≤ b.2.2.2.2.2.2
    · rw [if_pos z] at c2
      unfold isC at c2
      by_cases y : b.1 = vH G (n : Int) ∧ wN b.2.2.1 (f : Int) ((c : Int) + 1) = vW G (n : Int) ∧ b.2.1 = vD G (n : Int)
      · exact ⟨y.1, y.2.2, Or.inr ⟨q, f, c, f1, c1, z, y.2.1.symm⟩⟩
      · rw [if_neg y] at c2; omega
    · rw [if_neg z] at c2; omega
/-- what is in a block fits -/
theorem mem2 {G : pG} (hP : rPart G) (hG : rGau G) (K : Int) {b : vBk} (hb : b ∈ vAllG G K) {w : Int} (hw : (b.2.2.1 = -1 ∧ w = 0) ∨ (b.2.2.1 ≠ -1 ∧ ∃ f c : Nat, f < 12 ∧ c < 5 ∧ (b.2.2.2.1 ≤ (f : Int) ∧ (f : Int) ≤ b.2.2.2.2.1 ∧ b.2.2.2.2.2.1 ≤ (c : Int) + 1 ∧ (c : Int) + 1 ≤ b.2.2.2.2.2.2) ∧ w = wN b.2.2.1 (f : Int) ((c : Int) + 1))) : ∃ n : Nat, n < (vCau G).toNat ∧ fN G K n = true ∧ vH G (n : Int) = b.1 ∧ vW G (n : Int) = w ∧ vD G (n : Int) = b.2.1 := by
  have t := tot hP hG K (isC b.1 w b.2.1)
  have ge := (lSm_ge (bSm_0 (isC_0 b.1 w b.2.1)) (vAllG G K)).2 b hb
  have one : 1 ≤ bSm (isC b.1 w b.2.1) b := by
    unfold bSm
    rcases hw with ⟨q, rfl⟩ | ⟨q, f, c, f1, c1, z, rfl⟩
    · rw [if_pos q]
      unfold isC
      rw [if_pos ⟨rfl, rfl, rfl⟩]
      omega
    · rw [if_neg q]
      have h1 := (vSm_ge1 (f := fun f' => vSm (fun c' => if b.2.2.2.1 ≤ (f' : Int) ∧ (f' : Int) ≤ b.2.2.2.2.1 ∧ b.2.2.2.2.2.1 ≤ (c' : Int) + 1 ∧ (c' : Int) + 1 ≤ b.2.2.2.2.2.2 then isC b.1 (wN b.2.2.1 (f : Int) ((c : Int) + 1)) b.2.1 b.1 (wN b.2.2.1 (f' : Int) ((c' : Int) + 1)) b.2.1 else 0) 5) (fun i => (vSm_ge1 (fun c => ite_0 (isC_0 _ _ _ _ _ _)) 5).1) 12).2 f f1
      have h2 := (vSm_ge1 (f := fun c' => if b.2.2.2.1 ≤ (f : Int) ∧ (f : Int) ≤ b.2.2.2.2.1 ∧ b.2.2.2.2.2.1 ≤ (c' : Int) + 1 ∧ (c' : Int) + 1 ≤ b.2.2.2.2.2.2 then isC b.1 (wN b.2.2.1 (f : Int) ((c : Int) + 1)) b.2.1 b.1 (wN b.2.2.1 (f : Int) ((c' : Int) + 1)) b.2.1 else 0) (fun c => ite_0 (isC_0 _ _ _ _ _ _)) 5).2 c c1
      have h3 : (if b.2.2.2.1 ≤ (f : Int) ∧ (f : Int) ≤ b.2.2.2.2.1 ∧ b.2.2.2.2.2.1 ≤ (c : Int) + 1 ∧ (c : Int) + 1 ≤ b.2.2.2.2.2.2 then isC b.1 (wN b.2.2.1 (f : Int) ((c : Int) + 1)) b.2.1 b.1 (wN b.2.2.1 (f : Int) ((c : Int) + 1)) b.2.1 else 0) = 1 := by rw [if_pos z]; unfold isC; rw [if_pos ⟨rfl, rfl, rfl⟩]
      have h4 : (1 : Int) ≤ vSm (fun c' => if b.2.2.2.1 ≤ (f : Int) ∧ (f : Int) ≤ b.2.2.2.2.1 ∧ b.2.2.2.2.2.1 ≤ (c' : Int) + 1 ∧ (c' : Int) + 1 ≤ b.2.2.2.2.2.2 then isC b.1 (wN b.2.2.1 (f : Int) ((c : Int) + 1)) b.2.1 b.1 (wN b.2.2.1 (f : Int) ((c' : Int) + 1)) b.2.1 else 0) 5 := Int.le_trans (Int.le_of_eq h3.symm) h2
      exact Int.le_trans h4 h1
  have pos : 0 < vSm (fun n => if fN G K n = true then isC b.1 w b.2.1 (vH G (n : Int)) (vW G (n : Int)) (vD G (n : Int)) else 0) (vCau G).toNat := by rw [t]; omega
  obtain ⟨n, n1, n2⟩ := vSm_pos _ pos
  have n2 : 0 < (if fN G K n = true then isC b.1 w b.2.1 (vH G (n : Int)) (vW G (n : Int)) (vD G (n : Int)) else 0) := n2
  by_cases z : fN G K n = true
  · rw [if_pos z] at n2
    unfold isC at n2
    by_cases y : vH G (n : Int) = b.1 ∧ vW G (n : Int) = w ∧ vD G (n : Int) = b.2.1
    · exact ⟨n, n1, z, y.1, y.2.1, y.2.2⟩
    · rw [if_neg y] at n2; omega
  · rw [if_neg z] at n2; omega
theorem lsB_fold {G : pG} : ∀ (l : List vBk) (a : Int), 0 ≤ a → (∀ b ∈ l, 0 ≤ nuB G b) → (0 ≤ l.foldl (fun a b => if a = -1 then nuB G b else min a (nuB G b)) a ∧ l.foldl (fun a b => if a = -1 then nuB G b else min a (nuB G b)) a ≤ a ∧ (∀ b ∈ l, l.foldl (fun a b => if a = -1 then nuB G b else min a (nuB G b)) a ≤ nuB G b) ∧ (l.foldl (fun a b => if a = -1 then nuB G b else min a (nuB G b)) a = a ∨ ∃ b ∈ l, l.foldl (fun a b => if a = -1 then nuB G b else min a (nuB G b)) a = nuB G b))
  | [], a, h, _ => ⟨h, Int.le_refl _, fun b hb => by simp at hb, Or.inl rfl⟩
  | x :: l, a, h, hl => by
    have hx := hl x List.mem_cons_self
    have e : (if a = -1 then nuB G x else min a (nuB G x)) = min a (nuB G x) := if_neg (by omega)
    rw [List.foldl_cons, e]
    obtain ⟨i1, i2, i3, i4⟩ := lsB_fold l (min a (nuB G x)) (by omega) (fun b hb => hl b (List.mem_cons_of_mem _ hb))
    refine ⟨i1, by omega, fun b hb => ?_, ?_⟩
    · rcases List.mem_cons.mp hb with q | q
      · subst q; omega
      · exact i3 b q
    · rcases i4 with i4 | ⟨b, b1, b2⟩
      · by_cases q : a ≤ nuB G x
        · exact Or.inl (by omega)
        · exact Or.inr ⟨x, List.mem_cons_self, by omega⟩
      · exact Or.inr ⟨b, List.mem_cons_of_mem _ b1, b2⟩
theorem nuB_0 {G : pG} (hP : rPart G) {b : vBk} (hb : okB G b) : 0 ≤ nuB G b := by
  obtain ⟨w1, w2⟩ := cWw_bd hP
  obtain ⟨w3, w4⟩ := cDw_bd hP
  obtain ⟨o1, o2, o3, o4, o5⟩ := hb
  have m1 : 0 ≤ (b.1 + 2) * cWw G := Int.mul_nonneg (by omega) (by omega)
  have m2 : 0 ≤ (if b.2.2.1 = -1 then 0 else wN b.2.2.1 b.2.2.2.1 b.2.2.2.2.2.1) := by
    split
    · omega
    · unfold wN; omega
  have m3 : 0 ≤ ((b.1 + 2) * cWw G + (if b.2.2.1 = -1 then 0 else wN b.2.2.1 b.2.2.2.1 b.2.2.2.2.2.1)) * cDw G := Int.mul_nonneg (by omega) (by omega)
  unfold nuB
  omega
theorem lf_pr (f : Nat → Bool) : ∀ N : Nat, (lf f N = -1 ∧ ∀ n, n < N → f n = false) ∨ (∃ n : Nat, n < N ∧ lf f N = (n : Int) ∧ f n = true ∧ ∀ m, m < n → f m = false)
  | 0 => Or.inl ⟨rfl, fun n hn => by omega⟩
  | N + 1 => by
    show ((if f N = true ∧ lf f N = -1 then (N : Int) else lf f N) = -1 ∧ _) ∨ (∃ n : Nat, n < N + 1 ∧ (if f N = true ∧ lf f N = -1 then (N : Int) else lf f N) = (n : Int) ∧ _)
    rcases lf_pr f N with ⟨h1, h2⟩ | ⟨n, n1, n2, n3, n4⟩
    · by_cases q : f N = true
      · rw [if_pos ⟨q, h1⟩]
        exact Or.inr ⟨N, by omega, rfl, q, h2⟩
      · rw [if_neg (fun z => q z.1)]
        refine Or.inl ⟨h1, fun n hn => ?_⟩
        by_cases e : n = N
        · subst e; exact Bool.eq_false_iff.mpr q
        · exact h2 n (by omega)
    · rw [if_neg (fun z => by omega)]
      exact Or.inr ⟨n, by omega, n2, n3, n4⟩
/-- the least number -/
theorem least_eq {G : pG} (hP : rPart G) (hG : rGau G) (K : Int) (hok : ∀ b ∈ vAllG G K, okB G b) : lsB G (vAllG G K) = lf (fN G K) (vCau G).toNat := by
  obtain ⟨w1, w2⟩ := cWw_bd hP
  obtain ⟨w3, w4⟩ := cDw_bd hP
  have n_of : ∀ b ∈ vAllG G K, ∃ n : Nat, n < (vCau G).toNat ∧ fN G K n = true ∧ (n : Int) = nuB G b := by
    intro b hb
    obtain ⟨-, -, -, -, o⟩ := hok b hb
    have hw : (b.2.2.1 = -1 ∧ (if b.2.2.1 = -1 then 0 else wN b.2.2.1 b.2.2.2.1 b.2.2.2.2.2.1) = 0) ∨ (b.2.2.1 ≠ -1 ∧ ∃ f c : Nat, f < 12 ∧ c < 5 ∧ (b.2.2.2.1 ≤ (f : Int) ∧ (f : Int) ≤ b.2.2.2.2.1 ∧ b.2.2.2.2.2.1 ≤ (c : Int) + 1 ∧ (c : Int) + 1 ≤ b.2.2.2.2.2.2) ∧ (if b.2.2.1 = -1 then 0 else wN b.2.2.1 b.2.2.2.1 b.2.2.2.2.2.1) = wN b.2.2.1 (f : Int) ((c : Int) + 1)) := by
      rcases o with o | o
      · exact Or.inl ⟨o.1, by rw [if_pos o.1]⟩
      · refine Or.inr ⟨by omega, b.2.2.2.1.toNat, (b.2.2.2.2.2.1 - 1).toNat, by omega, by omega, by omega, ?_⟩
        rw [if_neg (by omega), show ((b.2.2.2.1.toNat : Nat) : Int) = b.2.2.2.1 by omega, show (((b.2.2.2.2.2.1 - 1).toNat : Nat) : Int) + 1 = b.2.2.2.2.2.1 by omega]
    obtain ⟨n, n1, n2, n3, n4, n5⟩ := mem2 hP hG K hb hw
    refine ⟨n, n1, n2, ?_⟩
    have := cau_num (G := G) (n : Int)
    rw [n3, n4, n5] at this
    exact this
  have le_of : ∀ n : Nat, n < (vCau G).toNat → fN G K n = true → ∃ b ∈ vAllG G K, nuB G b ≤ (n : Int) := by
    intro n hn hf
    obtain ⟨b, b1, b2, b3, b4⟩ := mem1 hP hG K hn hf
    refine ⟨b, b1, ?_⟩
    have e := cau_num (G := G) (n : Int)
    rw [← b2, ← b3] at e
    have wle : (if b.2.2.1 = -1 then 0 else wN b.2.2.1 b.2.2.2.1 b.2.2.2.2.2.1) ≤ vW G (n : Int) := by
      rcases b4 with ⟨q, z⟩ | ⟨q, f, c, f1, c1, z, y⟩
      · rw [if_pos q, z]; omega
      · obtain ⟨-, -, -, -, o⟩ := hok b b1
        rw [if_neg q, y]
        unfold wN
        omega
    have m : ((b.1 + 2) * cWw G + (if b.2.2.1 = -1 then 0 else wN b.2.2.1 b.2.2.2.1 b.2.2.2.2.2.1)) * cDw G ≤ ((b.1 + 2) * cWw G + vW G (n : Int)) * cDw G := Int.mul_le_mul_of_nonneg_right (by omega) (by omega)
    unfold nuB
    omega
  rcases lf_pr (fN G K) (vCau G).toNat with ⟨h1, h2⟩ | ⟨n, n1, n2, n3, n4⟩
  · rw [h1]
    cases c : vAllG G K with
    | nil => rfl
    | cons b l =>
      obtain ⟨n, n1, n2, -⟩ := n_of b (by rw [c]; exact List.mem_cons_self)
      rw [h2 n n1] at n2
      exact absurd n2 (by decide)
  · rw [n2]
    cases c : vAllG G K with
    | nil =>
      obtain ⟨b, b1, -⟩ := le_of n n1 n3
      rw [c] at b1
      simp at b1
    | cons b l =>
      have hb0 := nuB_0 hP (hok b (by rw [c]; exact List.mem_cons_self))
      have e : lsB G (b :: l) = l.foldl (fun a b => if a = -1 then nuB G b else min a (nuB G b)) (nuB G b) := by
        unfold lsB
        rw [List.foldl_cons, if_pos rfl]
      obtain ⟨i1, i2, i3, i4⟩ := lsB_fold l (nuB G b) hb0 (fun x hx => nuB_0 hP (hok x (by rw [c]; exact List.mem_cons_of_mem _ hx)))
      rw [e]
      have ge : (n : Int) ≤ l.foldl (fun a b => if a = -1 then nuB G b else min a (nuB G b)) (nuB G b) := by
        have g1 : ∀ x ∈ vAllG G K, (n : Int) ≤ nuB G x := by
          intro x hx
          obtain ⟨m, m1, m2, m3⟩ := n_of x hx
          by_cases q : m < n
          · rw [n4 m q] at m2; exact absurd m2 (by decide)
          · omega
        rcases i4 with i4 | ⟨x, x1, x2⟩
        · rw [i4]; exact g1 b (by rw [c]; exact List.mem_cons_self)
        · rw [x2]; exact g1 x (by rw [c]; exact List.mem_cons_of_mem _ x1)
      obtain ⟨x, x1, x2⟩ := le_of n n1 n3
      rw [c] at x1
      have : l.foldl (fun a b => if a = -1 then nuB G b else min a (nuB G b)) (nuB G b) ≤ nuB G x := by
        rcases List.mem_cons.mp x1 with q | q
        · rw [q]; exact i2
        · exact i3 x q
      omega
theorem total_eq {G : pG} (hP : rPart G) (hG : rGau G) (K : Int) (hok : ∀ b ∈ vAllG G K, okB G b) : lSm szB (vAllG G K) = cN (fN G K) (vCau G).toNat := by
  have t := tot hP hG K (fun _ _ _ => 1)
  unfold cN
  rw [t]
  exact lSm_c _ (fun b hb => by rw [bSm_k (V := 1) (hok b hb) (fun _ => rfl) (fun _ _ _ _ _ => rfl)]; omega)
