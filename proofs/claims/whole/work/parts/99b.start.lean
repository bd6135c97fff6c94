/-! what holds behind both constructors -/
def stB (g : pG) : Bool := decide (g 1 2 = 0) && decide (g 109 1 = 0) && (List.range 800).all (fun i => decide (g 2 i = 0) && decide (g 110 i = 0)) && decide (g 12 3 = g 109 8) && decide (g 12 4 = g 109 9) && decide (g 109 10 = 0) && decide (g 109 11 = 0) && decide (0 ≤ g 109 12) && decide (g 109 12 ≤ 40) && decide (g 3 1 = 0) && decide (g 3 2 = 0) && decide (g 3 3 = g 109 12) && decide (g 3 0 = g 109 13) && decide (g 109 34 = 0) && decide (g 22 2 = 0) && (List.range 4).all (fun k => (List.range 100).all (fun m => decide (g (45 + k) m = 0) && decide (g 155 (100 * k + m) = 0))) && decide (g 109 49 = 0) && decide (g 73 1 = 0) && decide (g 109 50 = 0) && decide (g 73 5 = 0) && decide (g 73 6 = 0) && decide (g 73 7 = -1) && decide (g 109 60 = 0) && decide (g 80 0 = 0) && decide (g 109 61 = 0) && decide (g 80 1 = 0) && decide (g 109 62 = 0) && decide (g 80 2 = 0) && decide (g 92 2 = -1)
def st1c : Bool := match pst0 with
  | none => false
  | some q => stB q.2.2.2
set_option maxRecDepth 1000000 in
theorem st1_ok : st1c = true := by decide +kernel
theorem st1_G : stB pG1 = true := by
  have h := st1_ok
  unfold st1c at h
  unfold pG1
  cases hq : pst0 with
  | none => rw [hq] at h; cases h
  | some q => rw [hq] at h; exact h
theorem Rel_start {G : pG} (hG : ∀ i, i < 174 → G i = pG1 i) : Rel G := by
  have h := st1_G
  unfold stB at h
  simp only [Bool.and_eq_true, decide_eq_true_eq] at h
  have e : ∀ c : Nat, c < 174 → pG1 c = G c := fun c hc => (hG c hc).symm
  obtain ⟨⟨⟨⟨⟨⟨⟨⟨⟨⟨⟨⟨⟨⟨⟨⟨⟨⟨⟨⟨⟨⟨⟨⟨⟨⟨⟨⟨a1, a2⟩, a3⟩, a4⟩, a5⟩, a6⟩, a7⟩, a8⟩, a9⟩, a10⟩, a11⟩, a12⟩, a13⟩, a14⟩, a15⟩, a16⟩, a17⟩, a18⟩, a19⟩, a20⟩, a21⟩, a22⟩, a23⟩, a24⟩, a25⟩, a26⟩, a27⟩, a28⟩, a29⟩ := h
  rw [e 1 (by omega)] at a1
  rw [e 109 (by omega)] at a2 a4 a5 a6 a7 a8 a9 a12 a13 a14 a17 a19 a23 a25 a27
  rw [e 12 (by omega)] at a4 a5
  rw [e 3 (by omega)] at a10 a11 a12 a13
  rw [e 22 (by omega)] at a15
  rw [e 73 (by omega)] at a18 a20 a21 a22
  rw [e 80 (by omega)] at a24 a26 a28
  rw [e 92 (by omega)] at a29
  have b3 : ∀ i : Nat, i < 800 → G 2 i = 0 ∧ G 110 i = 0 := fun i hi => by
    have q := List.all_eq_true.mp a3 i (List.mem_range.mpr hi)
    simp only [Bool.and_eq_true, decide_eq_true_eq] at q
    rw [e 2 (by omega), e 110 (by omega)] at q
    exact q
  have b16 : ∀ k m : Nat, k < 4 → m < 100 → G (45 + k) m = 0 ∧ G 155 (100 * k + m) = 0 := fun k m hk hm => by
    have q := List.all_eq_true.mp (List.all_eq_true.mp a16 k (List.mem_range.mpr hk)) m (List.mem_range.mpr hm)
    simp only [Bool.and_eq_true, decide_eq_true_eq] at q
    rw [e (45 + k) (by omega), e 155 (by omega)] at q
    exact q
  refine ⟨⟨by omega, by omega, by omega, fun i hi => by obtain ⟨q1, q2⟩ := b3 i hi; omega⟩, ⟨a4, a5⟩, ⟨by omega, by omega, by omega, by omega, a8, a9, by omega, by omega, a12, a13, fun t ht => by omega, fun k hk => by omega⟩, ⟨by omega, by omega, fun k hk => by omega⟩, ⟨by omega, fun k hk => by omega⟩, fun k hk => by omega, fun k hk => by omega, fun k l hk hl => by omega, fun k m hk hm => by obtain ⟨q1, q2⟩ := b16 k m hk hm; omega, fun t k _ ht _ => by omega, fun t ht => by omega, ⟨by omega, by omega, by omega, fun i hi => by omega⟩, ⟨Or.inl a19, by omega, fun i hi => by omega, fun q => by omega, fun _ => ⟨a21, a22⟩, fun q => absurd a19 q⟩, ⟨by omega, by omega, by omega, fun k hk => by omega, fun k hk => by omega⟩, Or.inl a29⟩
theorem pMain_ok : pMain := fun G L hG h8 hL hin => loop_ok (L + 7) G L 0 (Rel_start hG) h8 hL (fun j hj => hin j hj) (by omega) (by omega) (by omega)
