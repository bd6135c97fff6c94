/-- the box, as both hold it -/
def rWh (G : pG) : Prop := 0 ≤ G 109 49 ∧ G 109 49 ≤ 10 ∧ G 73 1 = G 109 49 ∧ ∀ i : Nat, (i : Int) < G 109 49 → G 74 i = G 160 i ∧ 10 ≤ G 160 i ∧ G 160 i ≤ 200
/-- the train that is -/
def rTr (G : pG) : Prop := (G 109 50 = 0 ∨ G 109 50 = 2 ∨ G 109 50 = 4) ∧ G 73 5 = G 109 50 ∧ (∀ i : Nat, (i : Int) < G 109 50 → G 76 i = G 162 i ∧ G 77 i = G 163 i ∧ 10 ≤ G 163 i ∧ G 163 i ≤ 200) ∧ (G 109 50 = 2 → G 77 2 = 1 ∧ G 77 3 = 1) ∧ (G 109 50 = 0 → G 73 6 = 0 ∧ G 73 7 = -1) ∧ (G 109 50 ≠ 0 → G 73 6 = G 109 56 ∧ G 73 7 = G 109 57)
theorem s228 {d : Nat} {G : pG} {x : Int} (hW : rWh G) (hd : 1 ≤ d) : pRuns pMT d 228 [pR 109, pI x] Yc G (some (pI (b2i (0 ≤ x ∧ x ≤ G 109 49 - 1)))) G := by
  have := hW.1
  have := hW.2.1
  refine pRuns.of rfl rfl (v228_0 ?_)
  rw [w64_id (x := G 109 49 - 1) (by omega) (by omega)]
  exact pC1.of hd s166 ⟨b2i_01, rfl, rfl⟩
theorem pr_teeth {Rel : pG → Prop} (h : ∀ G, Rel G → rWh G) (x : Int) : pPr Rel 148 229 [pI x] := pPr.ro fun G hR => by
  obtain ⟨w1, w2, w3, w4⟩ := h G hR
  refine ⟨if 0 ≤ x ∧ x ≤ G 109 49 - 1 then G 160 x.toNat else -2, pRuns.of rfl rfl (v148_0 ?_), pRuns.of rfl rfl (v229_0 ?_)⟩
  · rw [w3, w32_id (by omega) (by omega)]
    refine pC1.of (by omega) s118 ⟨fun h => rI (by rw [if_neg (b2i_0.mp h)]) rfl, fun h => ?_⟩
    have h := b2i_n0.mp h
    exact ⟨by omega, by omega, rI (by rw [if_pos h, (w4 x.toNat (by omega)).1]) rfl⟩
  · refine pC1.of (by omega) (s228 (h G hR) (by omega)) ⟨fun h => rI (by rw [if_neg (b2i_0.mp h)]) rfl, fun h => ?_⟩
    have h := b2i_n0.mp h
    exact ⟨by omega, by omega, rI (by rw [if_pos h]) rfl⟩
theorem pr_wheel {Rel : pG → Prop} (h : ∀ G, Rel G → rTr G) (x : Int) : pPr Rel 151 235 [pI x] := pPr.ro fun G hR => by
  obtain ⟨w1, w2, w3, -⟩ := h G hR
  refine ⟨if 0 ≤ x ∧ x ≤ G 109 50 - 1 then G 162 x.toNat else -1, pRuns.of rfl rfl (v151_0 ?_), pRuns.of rfl rfl (v235_0 ?_)⟩
  · rw [w2, w32_id (by omega) (by omega)]
    refine pC1.of (by omega) s118 ⟨fun h => rI (by rw [if_neg (b2i_0.mp h)]) rfl, fun h => ?_⟩
    have h := b2i_n0.mp h
    exact ⟨by omega, by omega, rI (by rw [if_pos h, (w3 x.toNat (by omega)).1]) rfl⟩
  · rw [w64_id (by omega) (by omega)]
    refine pC1.of (by omega) s166 ⟨fun h => rI (by rw [if_neg (b2i_0.mp h)]) rfl, fun h => ?_⟩
    have h := b2i_n0.mp h
    exact ⟨by omega, by omega, rI (by rw [if_pos h]) rfl⟩
theorem pr_off {Rel : pG → Prop} (h : ∀ G, Rel G → rTr G) (x : Int) : pPrL Rel 152 236 [pI x] := pPrL.ro fun G hR => by
  obtain ⟨-, -, -, -, w5, w6⟩ := h G hR
  refine ⟨if x = 0 then G 73 6 else G 73 7, pRuns.of rfl rfl (v152_0 ⟨fun h => rL (by rw [if_pos h]) rfl, fun h => rL (by rw [if_neg h]) rfl⟩), pRuns.of rfl rfl (v236_0 ⟨fun h => ⟨fun g => ?_, fun g => ?_⟩, fun h => ⟨fun g => ?_, fun g => ?_⟩⟩)⟩
  · exact rL (by rw [if_pos g, (w6 h).1]) rfl
  · exact rL (by rw [if_neg g, (w6 h).2]) rfl
  · exact rL (by rw [if_pos g, (w5 h).1]) rfl
  · exact rL (by rw [if_neg g, (w5 h).2]) rfl
/-- worn: a product of every second -/
def vPr (f : Nat → Int) (p : Nat) : Nat → Int
  | 0 => 1
  | n + 1 => if n % 2 = p then vPr f p n * f n else vPr f p n
theorem vPr_bd {f : Nat → Int} {p : Nat} : ∀ n : Nat, (∀ k, k < n → 1 ≤ f k ∧ f k ≤ 200) → 1 ≤ vPr f p n ∧ vPr f p n ≤ 200 ^ n
  | 0, _ => by unfold vPr; omega
  | n + 1, h => by
    obtain ⟨h1, h2⟩ := vPr_bd (p := p) n (fun k hk => h k (by omega))
    obtain ⟨h3, h4⟩ := h n (by omega)
    have e : (200 : Int) ^ (n + 1) = 200 ^ n * 200 := Int.pow_succ _ _
    have m2 : vPr f p n * f n ≤ 200 ^ n * 200 := Int.mul_le_mul h2 h4 (by omega) (by omega)
    have m1 : 1 * 1 ≤ vPr f p n * f n := Int.mul_le_mul h1 h3 (by omega) (by omega)
    unfold vPr
    split <;> omega
def vWn (up lo wu wl : Int) : Int := ((wu * lo - up * wl) * 1000000).tdiv (wl * lo)
theorem wn_e {up lo wu wl : Int} (h1 : 1 ≤ up) (h2 : up ≤ 40000) (h3 : 1 ≤ lo) (h4 : lo ≤ 40000) (h5 : 1 ≤ wu) (h6 : wu ≤ 40000) (h7 : 1 ≤ wl) (h8 : wl ≤ 40000) : ¬ w64 (wl * lo) = 0 ∧ pldiv (w64 (w64 (w64 (wu * lo) - w64 (up * wl)) * 1000000)) (w64 (wl * lo)) = vWn up lo wu wl := by
  have m1 := mulb (A := 40000) (B := 40000) (show 0 ≤ wu by omega) h6 (show 0 ≤ lo by omega) h4
  have m2 := mulb (A := 40000) (B := 40000) (show 0 ≤ up by omega) h2 (show 0 ≤ wl by omega) h8
  have m3 := mulb (A := 40000) (B := 40000) (show 0 ≤ wl by omega) h8 (show 0 ≤ lo by omega) h4
  have m4 : 1 * 1 ≤ wl * lo := Int.mul_le_mul h7 h3 (by omega) (by omega)
  rw [w64_id (x := wu * lo) (by omega) (by omega), w64_id (x := up * wl) (by omega) (by omega), w64_id (x := wl * lo) (by omega) (by omega), w64_id (x := wu * lo - up * wl) (by omega) (by omega), w64_id (x := (wu * lo - up * wl) * 1000000) (by omega) (by omega), pldiv_id (by omega) (by omega) (by omega) (by omega)]
  exact ⟨by omega, rfl⟩
/-- the teeth, worn by n at wheel i -/
def vThen (G : pG) (i : Nat) (n : Int) (k : Nat) : Int := if k = i then G 163 k - n else G 163 k
def vWorn (G : pG) (i n : Int) : Int := if 1 ≤ n ∧ n ≤ 9 then (if G 109 50 = 0 then -4 else if (0 ≤ i ∧ i ≤ G 109 50 - 1) ∧ 1 ≤ G 163 i.toNat - n then vWn (vPr (G 163) 0 (G 109 50).toNat) (vPr (G 163) 1 (G 109 50).toNat) (vPr (vThen G i.toNat n) 0 (G 109 50).toNat) (vPr (vThen G i.toNat n) 1 (G 109 50).toNat) else -2) else -2
theorem s238 {d : Nat} {G : pG} {i n : Int} (hT : rTr G) (hd : 1 ≤ d) : pRuns pMT d 238 [pR 109, pI i, pI n] Yc G (some (pL (vWorn G i n))) G := by
  obtain ⟨w1, w2, w3, -⟩ := hT
  refine pRuns.of rfl rfl (v238_0 ?_)
  unfold vWorn
  refine pC1.of hd s166 ⟨fun h => ?_, fun h => rL (by rw [if_neg (b2i_0.mp h)]) rfl⟩
  have h := b2i_n0.mp h
  rw [if_pos h]
  refine ⟨fun g => ?_, fun g => rL (by rw [if_pos g]) rfl⟩
  rw [if_neg g, w64_id (by omega) (by omega)]
  refine pC1.of hd s166 ⟨fun h => rL (by rw [if_neg (fun q => b2i_0.mp h q.1)]) rfl, fun h => ?_⟩
  have h := b2i_n0.mp h
  obtain ⟨a1, a2, a3, a4⟩ := w3 i.toNat (by omega)
  refine ⟨by omega, by omega, ?_⟩
  rw [w32_id (by omega) (by omega)]
  refine ⟨fun k1 => ?_, fun k1 => rL (by rw [if_neg (by omega)]) rfl⟩
  rw [if_pos ⟨h, k1⟩]
  obtain ⟨m, rfl⟩ : ∃ m : Nat, i = (m : Int) := ⟨i.toNat, by omega⟩
  rw [Int.toNat_natCast] at *
  have T1 : ∀ k : Nat, (k : Int) < G 109 50 → 1 ≤ G 163 k ∧ G 163 k ≤ 200 := fun k hk => by have := w3 k hk; omega
  have T2 : ∀ k : Nat, (k : Int) < G 109 50 → 1 ≤ vThen G m n k ∧ vThen G m n k ≤ 200 := fun k hk => by
    have := w3 k hk
    unfold vThen
    split
    · next e => subst e; omega
    · omega
  suffices H : ∀ (j c : Nat), (c : Int) + j = G 109 50 → pEnds pMT d 238 Yc (fun r' g => r' = some (pL (vWn (vPr (G 163) 0 (G 109 50).toNat) (vPr (G 163) 1 (G 109 50).toNat) (vPr (vThen G m n) 0 (G 109 50).toNat) (vPr (vThen G m n) 1 (G 109 50).toNat))) ∧ g = G) 73 [pR 109, pI (m : Int), pI n, pL (vPr (G 163) 0 c), pU, pL (vPr (G 163) 1 c), pU, pL (vPr (vThen G m n) 0 c), pU, pL (vPr (vThen G m n) 1 c), pU, pI (c : Int), pU] [] G by
    rintro _ rfl _ rfl _ rfl _ rfl _ rfl
    exact H (G 109 50).toNat 0 (by omega)
  have p4 : ∀ c : Nat, c ≤ 4 → (200 : Int) ^ c ≤ 1600000000 := by decide
  intro j
  induction j with
  | zero =>
    intro c hc
    refine v238_73 ⟨fun _ => ?_, fun q => by omega⟩
    have e1 : (G 109 50).toNat = c := by omega
    rw [e1]
    have F : ∀ (f : Nat → Int) (p : Nat), p < 2 → (∀ k : Nat, (k : Int) < G 109 50 → 1 ≤ f k ∧ f k ≤ 200) → 1 ≤ vPr f p c ∧ vPr f p c ≤ 40000 := by
      intro f p hp hf
      have hc2 : c = 2 ∨ c = 4 := by omega
      have z0 := hf 0 (by omega)
      have z1 := hf 1 (by omega)
      have hp2 : p = 0 ∨ p = 1 := by omega
      rcases hc2 with rfl | rfl
      · rcases hp2 with rfl | rfl <;> simp [vPr] <;> omega
      · have z2 := hf 2 (by omega)
        have z3 := hf 3 (by omega)
        have y1 := mulb (A := 200) (B := 200) (show 0 ≤ f 0 by omega) z0.2 (show 0 ≤ f 2 by omega) z2.2
        have y2 := mulb (A := 200) (B := 200) (show 0 ≤ f 1 by omega) z1.2 (show 0 ≤ f 3 by omega) z3.2
        have y3 : 1 * 1 ≤ f 0 * f 2 := Int.mul_le_mul z0.1 z2.1 (by omega) (by omega)
        have y4 : 1 * 1 ≤ f 1 * f 3 := Int.mul_le_mul z1.1 z3.1 (by omega) (by omega)
        rcases hp2 with rfl | rfl <;> simp [vPr] <;> omega
    have A := F (G 163) 0 (by omega) T1
    have B := F (G 163) 1 (by omega) T1
    have C := F (vThen G m n) 0 (by omega) T2
    have D := F (vThen G m n) 1 (by omega) T2
    obtain ⟨y1, y2⟩ := wn_e A.1 A.2 B.1 B.2 C.1 C.2 D.1 D.2
    rw [Int.mul_comm (vPr (G 163) 1 c) (vPr (vThen G m n) 1 c)]
    exact ⟨y1, rL y2 rfl⟩
  | succ j ih =>
    intro c hc
    have nx := ih (c + 1) (by omega)
    have A := vPr_bd (f := G 163) (p := 0) c (fun k hk => T1 k (by omega))
    have B := vPr_bd (f := G 163) (p := 1) c (fun k hk => T1 k (by omega))
    have C := vPr_bd (f := vThen G m n) (p := 0) c (fun k hk => T2 k (by omega))
    have D := vPr_bd (f := vThen G m n) (p := 1) c (fun k hk => T2 k (by omega))
    have pc := p4 c (by omega)
    have z1 := T1 c (by omega)
    have z2 := T2 c (by omega)
    have e : w32 ((c : Int) + 1) = ((c + 1 : Nat) : Int) := by rw [w32_id (by omega) (by omega)]; rfl
    have em : prem (c : Int) 2 = ((c % 2 : Nat) : Int) := by rw [prem_id (by omega) (by omega) (by omega) (by omega), Int.tmod_eq_emod_of_nonneg (by omega)]; omega
    have wb : ∀ a b : Int, 1 ≤ a → a ≤ 1600000000 → 1 ≤ b → b ≤ 200 → w64 (a * b) = a * b := by
      intro a b ha1 ha2 hb1 hb2
      have := mulb (A := 1600000000) (B := 200) (show 0 ≤ a by omega) ha2 (show 0 ≤ b by omega) hb2
      exact w64_id (by omega) (by omega)
    have key : ∀ x12 : Int, x12 = vThen G m n c → (¬ (2 : Int) = 0 ∧ ((¬ prem (c : Int) 2 = 0 → (0 ≤ (c : Int) ∧ (c : Int) < 4 ∧ ∀ x5_2 : Int, x5_2 = w64 (vPr (G 163) 1 c * G 163 (Int.toNat (c : Int))) → ∀ x9_2 : Int, x9_2 = w64 (vPr (vThen G m n) 1 c * x12) → ∀ x11_2 : Int, x11_2 = w32 ((c : Int) + 1) → pEnds pMT d 238 Yc (fun r' g => r' = some (pL (vWn (vPr (G 163) 0 (G 109 50).toNat) (vPr (G 163) 1 (G 109 50).toNat) (vPr (vThen G m n) 0 (G 109 50).toNat) (vPr (vThen G m n) 1 (G 109 50).toNat))) ∧ g = G) 73 [pR 109, pI (m : Int), pI n, pL (vPr (G 163) 0 c), pU, pL x5_2, pU, pL (vPr (vThen G m n) 0 c), pU, pL x9_2, pU, pI x11_2, pU] [] G)) ∧ (prem (c : Int) 2 = 0 → (0 ≤ (c : Int) ∧ (c : Int) < 4 ∧ ∀ x3_2 : Int, x3_2 = w64 (vPr (G 163) 0 c * G 163 (Int.toNat (c : Int))) → ∀ x7_2 : Int, x7_2 = w64 (vPr (vThen G m n) 0 c * x12) → ∀ x11_2 : Int, x11_2 = w32 ((c : Int) + 1) → pEnds pMT d 238 Yc (fun r' g => r' = some (pL (vWn (vPr (G 163) 0 (G 109 50).toNat) (vPr (G 163) 1 (G 109 50).toNat) (vPr (vThen G m n) 0 (G 109 50).toNat) (vPr (vThen G m n) 1 (G 109 50).toNat))) ∧ g = G) 73 [pR 109, pI (m : Int), pI n, pL x3_2, pU, pL (vPr (G 163) 1 c), pU, pL x7_2, pU, pL (vPr (vThen G m n) 1 c), pU, pI x11_2, pU] [] G)))) := by
      rintro _ rfl
      rw [em, e, Int.toNat_natCast]
      refine ⟨by omega, fun q => ⟨by omega, by omega, ?_⟩, fun q => ⟨by omega, by omega, ?_⟩⟩
      · rw [wb _ _ B.1 (by omega) z1.1 z1.2, wb _ _ D.1 (by omega) z2.1 z2.2]
        rintro _ rfl _ rfl _ rfl
        have q0' : ¬ c % 2 = 0 := by omega
        have q1' : c % 2 = 1 := by omega
        rwa [show vPr (G 163) 0 (c + 1) = vPr (G 163) 0 c by rw [vPr, if_neg q0'], show vPr (G 163) 1 (c + 1) = vPr (G 163) 1 c * G 163 c by rw [vPr, if_pos q1'], show vPr (vThen G m n) 0 (c + 1) = vPr (vThen G m n) 0 c by rw [vPr, if_neg q0'], show vPr (vThen G m n) 1 (c + 1) = vPr (vThen G m n) 1 c * vThen G m n c by rw [vPr, if_pos q1']] at nx
      · rw [wb _ _ A.1 (by omega) z1.1 z1.2, wb _ _ C.1 (by omega) z2.1 z2.2]
        rintro _ rfl _ rfl _ rfl
        have q0' : c % 2 = 0 := by omega
        have q1' : ¬ c % 2 = 1 := by omega
        rwa [show vPr (G 163) 0 (c + 1) = vPr (G 163) 0 c * G 163 c by rw [vPr, if_pos q0'], show vPr (G 163) 1 (c + 1) = vPr (G 163) 1 c by rw [vPr, if_neg q1'], show vPr (vThen G m n) 0 (c + 1) = vPr (vThen G m n) 0 c * vThen G m n c by rw [vPr, if_pos q0'], show vPr (vThen G m n) 1 (c + 1) = vPr (vThen G m n) 1 c by rw [vPr, if_neg q1']] at nx
    refine v238_73 ⟨fun q => by omega, fun q => ⟨by omega, by omega, fun g2 x12 hx => key x12 ?_, fun g2 x12 hx => key x12 ?_⟩⟩
    · rw [hx, Int.toNat_natCast, w32_id (by omega) (by omega)]; unfold vThen; rw [if_neg (by omega)]; omega
    · rw [hx, Int.toNat_natCast, w32_id (by omega) (by omega)]; unfold vThen; rw [if_pos (by omega)]
set_option maxHeartbeats 4000000 in
theorem s116 {d : Nat} {G : pG} {m : Nat} {n : Int} (hT : rTr G) (hm : (m : Int) < G 109 50) (hn : 1 ≤ n) (hn2 : n ≤ 9) (hw : 1 ≤ G 163 m - n) : pRuns pMT d 116 [pR 73, pI (m : Int), pI n] Yc G (some (pL (vWn (vPr (G 163) 0 (G 109 50).toNat) (vPr (G 163) 1 (G 109 50).toNat) (vPr (vThen G m n) 0 (G 109 50).toNat) (vPr (vThen G m n) 1 (G 109 50).toNat)))) G := by
  obtain ⟨w1, w2, w3, w4, -⟩ := hT
  have z0 := w3 0 (by omega)
  have z1 := w3 1 (by omega)
  have zm := w3 m (by omega)
  have B : 1 ≤ G 77 2 ∧ G 77 2 ≤ 200 ∧ 1 ≤ G 77 3 ∧ G 77 3 ≤ 200 := by
    rcases w1 with h | h | h
    · omega
    · have := w4 h; omega
    · have := w3 2 (by omega); have := w3 3 (by omega); omega
  obtain ⟨B1, B2, B3, B4⟩ := B
  have hm4 : m = 0 ∨ m = 1 ∨ m = 2 ∨ m = 3 := by omega
  have m1 := mulb (A := 200) (B := 200) (show 0 ≤ G 77 0 by omega) (by omega) (show 0 ≤ G 77 2 by omega) B2
  have m2 := mulb (A := 200) (B := 200) (show 0 ≤ G 77 1 by omega) (by omega) (show 0 ≤ G 77 3 by omega) B4
  have m3 : 1 * 1 ≤ G 77 0 * G 77 2 := Int.mul_le_mul (by omega) B1 (by omega) (by omega)
  have m4 : 1 * 1 ≤ G 77 1 * G 77 3 := Int.mul_le_mul (by omega) B3 (by omega) (by omega)
  have E : vPr (G 163) 0 (G 109 50).toNat = G 77 0 * G 77 2 ∧ vPr (G 163) 1 (G 109 50).toNat = G 77 1 * G 77 3 ∧ (m = 0 → vPr (vThen G m n) 0 (G 109 50).toNat = G 77 2 * (G 77 0 - n)) ∧ (m = 2 → vPr (vThen G m n) 0 (G 109 50).toNat = G 77 0 * (G 77 2 - n)) ∧ (m = 1 ∨ m = 3 → vPr (vThen G m n) 0 (G 109 50).toNat = G 77 0 * G 77 2) ∧ (m = 1 → vPr (vThen G m n) 1 (G 109 50).toNat = G 77 3 * (G 77 1 - n)) ∧ (m = 3 → vPr (vThen G m n) 1 (G 109 50).toNat = G 77 1 * (G 77 3 - n)) ∧ (m = 0 ∨ m = 2 → vPr (vThen G m n) 1 (G 109 50).toNat = G 77 1 * G 77 3) := by
    rcases w1 with h | h | h
    · omega
    · have e : (G 109 50).toNat = 2 := by omega
      obtain ⟨y2, y3⟩ := w4 h
      rw [e, y2, y3, z0.2.1, z1.2.1]
      refine ⟨by simp [vPr], by simp [vPr], ?_, ?_, ?_, ?_, ?_, ?_⟩
      · rintro rfl; simp [vPr, vThen]
      · rintro rfl; omega
      · rintro (rfl | rfl)
        · simp [vPr, vThen]
        · omega
      · rintro rfl; simp [vPr, vThen]
      · rintro rfl; omega
      · rintro (rfl | rfl)
        · simp [vPr, vThen]
        · omega
    · have e : (G 109 50).toNat = 4 := by omega
      have y2 := w3 2 (by omega)
      have y3 := w3 3 (by omega)
      rw [e, z0.2.1, z1.2.1, y2.2.1, y3.2.1]
      refine ⟨by simp [vPr], by simp [vPr], ?_, ?_, ?_, ?_, ?_, ?_⟩
      · rintro rfl; simp [vPr, vThen, Int.mul_comm]
      · rintro rfl; simp [vPr, vThen]
      · rintro (rfl | rfl) <;> simp [vPr, vThen]
      · rintro rfl; simp [vPr, vThen, Int.mul_comm]
      · rintro rfl; simp [vPr, vThen]
      · rintro (rfl | rfl) <;> simp [vPr, vThen]
  obtain ⟨E1, E2, E3, E4, E5, E6, E7, E8⟩ := E
  have fin : ∀ wu wl : Int, wu = vPr (vThen G m n) 0 (G 109 50).toNat → wl = vPr (vThen G m n) 1 (G 109 50).toNat → 1 ≤ wu → wu ≤ 40000 → 1 ≤ wl → wl ≤ 40000 → ∀ x14 : Int, x14 = w64 (wl * (G 77 1 * G 77 3)) → ((¬ plcmp x14 0 = 0 → (¬ x14 = 0 ∧ ((some (pL (pldiv (w64 (w64 (w64 (wu * (G 77 1 * G 77 3)) - w64 (G 77 0 * G 77 2 * wl)) * 1000000)) x14)) : Option pV) = some (pL (vWn (vPr (G 163) 0 (G 109 50).toNat) (vPr (G 163) 1 (G 109 50).toNat) (vPr (vThen G m n) 0 (G 109 50).toNat) (vPr (vThen G m n) 1 (G 109 50).toNat))) ∧ G = G))) ∧ (plcmp x14 0 = 0 → ((some (pL 0) : Option pV) = some (pL (vWn (vPr (G 163) 0 (G 109 50).toNat) (vPr (G 163) 1 (G 109 50).toNat) (vPr (vThen G m n) 0 (G 109 50).toNat) (vPr (vThen G m n) 1 (G 109 50).toNat))) ∧ G = G))) := by
    intro wu wl h1 h2 h3 h4 h5 h6 x14 h14
    obtain ⟨y1, y2⟩ := wn_e (show 1 ≤ G 77 0 * G 77 2 by omega) (by omega) (show 1 ≤ G 77 1 * G 77 3 by omega) (by omega) h3 h4 h5 h6
    subst h14
    rw [cmp_eq]
    exact ⟨fun _ => ⟨y1, rL (by rw [y2, E1, E2, ← h1, ← h2]) rfl⟩, fun z => absurd z y1⟩
  have ep : prem (w32 ((m : Int) + 2)) 4 = (((m + 2) % 4 : Nat) : Int) := by
    rw [w32_id (by omega) (by omega), prem_id (by omega) (by omega) (by omega) (by omega), Int.tmod_eq_emod_of_nonneg (by omega)]
    omega
  have em : prem (m : Int) 2 = ((m % 2 : Nat) : Int) := by
    rw [prem_id (by omega) (by omega) (by omega) (by omega), Int.tmod_eq_emod_of_nonneg (by omega)]
    omega
  have EV : m = 0 ∨ m = 2 → w64 ((G 77 m - n) * G 77 ((m + 2) % 4)) = vPr (vThen G m n) 0 (G 109 50).toNat ∧ 1 ≤ vPr (vThen G m n) 0 (G 109 50).toNat ∧ vPr (vThen G m n) 0 (G 109 50).toNat ≤ 40000 := by
    intro hm2
    rcases hm2 with h | h
    · rw [E3 h]
      subst h
      have y1 := mulb (A := 200) (B := 200) (show 0 ≤ G 77 2 by omega) B2 (show 0 ≤ G 77 0 - n by omega) (by omega)
      have y2 : 1 * 1 ≤ G 77 2 * (G 77 0 - n) := Int.mul_le_mul B1 (by omega) (by omega) (by omega)
      rw [show (0 + 2) % 4 = 2 from rfl, Int.mul_comm (G 77 0 - n) (G 77 2)]
      exact ⟨w64_id (by omega) (by omega), by omega, by omega⟩
    · rw [E4 h]
      subst h
      have y1 := mulb (A := 200) (B := 200) (show 0 ≤ G 77 0 by omega) (by omega) (show 0 ≤ G 77 2 - n by omega) (by omega)
      have y2 : 1 * 1 ≤ G 77 0 * (G 77 2 - n) := Int.mul_le_mul (by omega) (by omega) (by omega) (by omega)
      rw [show (2 + 2) % 4 = 0 from rfl, Int.mul_comm (G 77 2 - n) (G 77 0)]
      exact ⟨w64_id (by omega) (by omega), by omega, by omega⟩
  have OD : m = 1 ∨ m = 3 → w64 ((G 77 m - n) * G 77 ((m + 2) % 4)) = vPr (vThen G m n) 1 (G 109 50).toNat ∧ 1 ≤ vPr (vThen G m n) 1 (G 109 50).toNat ∧ vPr (vThen G m n) 1 (G 109 50).toNat ≤ 40000 := by
    intro hm2
    rcases hm2 with h | h
    · rw [E6 h]
      subst h
      have y1 := mulb (A := 200) (B := 200) (show 0 ≤ G 77 3 by omega) B4 (show 0 ≤ G 77 1 - n by omega) (by omega)
      have y2 : 1 * 1 ≤ G 77 3 * (G 77 1 - n) := Int.mul_le_mul B3 (by omega) (by omega) (by omega)
      rw [show (1 + 2) % 4 = 3 from rfl, Int.mul_comm (G 77 1 - n) (G 77 3)]
      exact ⟨w64_id (by omega) (by omega), by omega, by omega⟩
    · rw [E7 h]
      subst h
      have y1 := mulb (A := 200) (B := 200) (show 0 ≤ G 77 1 by omega) (by omega) (show 0 ≤ G 77 3 - n by omega) (by omega)
      have y2 : 1 * 1 ≤ G 77 1 * (G 77 3 - n) := Int.mul_le_mul (by omega) (by omega) (by omega) (by omega)
      rw [show (3 + 2) % 4 = 1 from rfl, Int.mul_comm (G 77 3 - n) (G 77 1)]
      exact ⟨w64_id (by omega) (by omega), by omega, by omega⟩
  refine pRuns.of rfl rfl (v116_0 ?_)
  rw [show Int.toNat 0 = 0 from rfl, show Int.toNat 1 = 1 from rfl, show Int.toNat 2 = 2 from rfl, show Int.toNat 3 = 3 from rfl, w64_id (x := G 77 0 * G 77 2) (by omega) (by omega), w64_id (x := G 77 1 * G 77 3) (by omega) (by omega), ep, Int.toNat_natCast, Int.toNat_natCast, w32_id (x := G 77 m - n) (by omega) (by omega)]
  refine ⟨by omega, by omega, by omega, by omega, ?_⟩
  rintro _ rfl
  refine ⟨by omega, by omega, by omega, by omega, ?_⟩
  rintro _ rfl
  refine ⟨by omega, by omega, by omega, by omega, by omega, ?_⟩
  rintro _ rfl
  refine v116_56 ?_
  rw [em]
  refine ⟨by omega, fun g => ?_, fun g => ?_⟩
  · have hm2 : m = 1 ∨ m = 3 := by omega
    obtain ⟨o1, o2, o3⟩ := OD hm2
    rw [o1]
    rintro _ rfl
    refine ⟨fun _ => ?_, fun q => absurd rfl q⟩
    rintro _ rfl
    refine ⟨fun _ => ?_, fun q => absurd rfl q⟩
    rintro _ rfl
    exact v116_96 (fin _ _ (E5 hm2).symm rfl (by omega) (by omega) o2 o3)
  · have hm2 : m = 0 ∨ m = 2 := by omega
    obtain ⟨o1, o2, o3⟩ := EV hm2
    rw [o1]
    rintro _ rfl
    refine ⟨fun q => absurd q (by decide), fun _ => ?_⟩
    rintro _ rfl
    refine ⟨fun q => absurd q (by decide), fun _ => ?_⟩
    rintro _ rfl
    exact v116_96 (fin _ _ rfl (E8 hm2).symm o2 o3 (by omega) (by omega))
theorem s154 {d : Nat} {G : pG} {i n : Int} (hT : rTr G) (hd : 1 ≤ d) : pRuns pMT d 154 [pR 0, pI i, pI n] Yc G (some (pL (vWorn G i n))) G := by
  have hT' := hT
  obtain ⟨w1, w2, w3, -⟩ := hT
  refine pRuns.of rfl rfl (v154_0 ?_)
  unfold vWorn
  refine pC1.of hd s118 ⟨fun h => ?_, fun h => rL (by rw [if_neg (b2i_0.mp h)]) rfl⟩
  have h := b2i_n0.mp h
  rw [if_pos h, w2]
  refine ⟨fun g => ?_, fun g => rL (by rw [if_pos g]) rfl⟩
  rw [if_neg g, w32_id (by omega) (by omega)]
  refine pC1.of hd s118 ⟨fun h => rL (by rw [if_neg (fun q => b2i_0.mp h q.1)]) rfl, fun h => ?_⟩
  have h := b2i_n0.mp h
  obtain ⟨a1, a2, a3, a4⟩ := w3 i.toNat (by omega)
  refine ⟨by omega, by omega, ?_⟩
  rw [a2, w32_id (by omega) (by omega)]
  refine ⟨fun k1 => ?_, fun k1 => rL (by rw [if_neg (by omega)]) rfl⟩
  rw [if_pos ⟨h, k1⟩]
  obtain ⟨m, rfl⟩ : ∃ m : Nat, i = (m : Int) := ⟨i.toNat, by omega⟩
  rw [Int.toNat_natCast] at *
  exact pC2.of hd (s116 hT' (by omega) (by omega) (by omega) (by omega)) (rL rfl rfl)
theorem pr_worn {Rel : pG → Prop} (h : ∀ G, Rel G → rTr G) (i n : Int) : pPrL Rel 154 238 [pI i, pI n] := pPrL.ro fun G hR => ⟨_, s154 (h G hR) (by omega), s238 (h G hR) (by omega)⟩
