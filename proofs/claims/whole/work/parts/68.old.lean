/-! rows of rows -/
theorem row44 : ∀ k : Nat, k < 4 → Yc.2.2 44 k = some (45 + k) ∧ Nat.beq (Yc.2.1 (45 + k)).1 100 = true ∧ (Yc.2.1 (45 + k)).2 = 100 := by decide +kernel
theorem row51 : ∀ k : Nat, k < 6 → Yc.2.2 51 k = some (52 + k) ∧ Nat.beq (Yc.2.1 (52 + k)).1 100 = true ∧ (Yc.2.1 (52 + k)).2 = 4 := by decide +kernel
theorem row58 : ∀ k : Nat, k < 6 → Yc.2.2 58 k = some (59 + k) ∧ Nat.beq (Yc.2.1 (59 + k)).1 100 = true ∧ (Yc.2.1 (59 + k)).2 = 4 := by decide +kernel
theorem row65 : ∀ k : Nat, k < 6 → Yc.2.2 65 k = some (66 + k) ∧ Nat.beq (Yc.2.1 (66 + k)).1 100 = true ∧ (Yc.2.1 (66 + k)).2 = 4 := by decide +kernel
theorem row30 : ∀ k : Nat, k < 8 → Yc.2.2 30 k = some (31 + k) ∧ Nat.beq (Yc.2.1 (31 + k)).1 100 = true ∧ (Yc.2.1 (31 + k)).2 = 7 := by decide +kernel
theorem row126 : ∀ k : Nat, k < 24 → Yc.2.2 126 k = some (127 + k) ∧ Nat.beq (Yc.2.1 (127 + k)).1 100 = true ∧ (Yc.2.1 (127 + k)).2 = 7 := by decide +kernel
theorem bif_t {b : Bool} {P Q : Prop} (h : b = true) (hp : P) : (bif b then P else Q) := by rw [h]; exact hp
theorem u8_e {x : Int} (h1 : -128 ≤ x) (h2 : x ≤ 127) : pand x 255 = x % 256 := by
  have key : ∀ n : Nat, n < 256 → pand ((n : Int) - 128) 255 = ((n : Int) - 128) % 256 := by decide +kernel
  have := key (x + 128).toNat (by omega)
  rwa [show (((x + 128).toNat : Nat) : Int) - 128 = x by omega] at this
theorem u8_bd {x : Int} (h1 : -128 ≤ x) (h2 : x ≤ 127) : 0 ≤ pand x 255 ∧ pand x 255 ≤ 255 := by
  rw [u8_e h1 h2]
  omega
theorem s44 {d : Nat} {G : pG} {k : Nat} (hk : k < 4) : ∃ G', pRuns pMT d 44 [pR 43, pI (k : Int)] Yc G none G' ∧ fr [52, 53, 54, 55, 56, 57] [] G G' ∧ ∀ t : Nat, t < 6 → G' (52 + t) k = -2 ∧ ∀ j : Nat, j ≠ k → G' (52 + t) j = G (52 + t) j := by
  refine pX0 rfl rfl (v44_0 ?_)
  suffices H : ∀ (n i : Nat) (g : pG), i + n = 6 → fr [52, 53, 54, 55, 56, 57] [] G g → (∀ t : Nat, t < i → g (52 + t) k = -2) → (∀ t : Nat, t < 6 → ∀ j : Nat, j ≠ k → g (52 + t) j = G (52 + t) j) → pEnds pMT d 44 Yc (fun r g => r = none ∧ fr [52, 53, 54, 55, 56, 57] [] G g ∧ ∀ t : Nat, t < 6 → g (52 + t) k = -2 ∧ ∀ j : Nat, j ≠ k → g (52 + t) j = G (52 + t) j) 2 [pR 43, pI (k : Int), pI (i : Int)] [] g by
    rintro _ rfl
    exact H 6 0 G rfl (fr.refl _ _ _) (fun t ht => by omega) (fun t ht j hj => rfl)
  intro n
  induction n with
  | zero =>
    intro i g hi f1 f2 f3
    obtain rfl : i = 6 := by omega
    exact v44_2 ⟨fun _ => ⟨rfl, f1, fun t ht => ⟨f2 t ht, f3 t ht⟩⟩, fun h => by omega⟩
  | succ n ih =>
    intro i g hi f1 f2 f3
    obtain ⟨r1, r2, r3⟩ := row51 i (by omega)
    refine v44_2 ⟨fun h => by omega, fun h => ⟨by omega, by omega, 52 + i, by rw [Int.toNat_natCast]; exact r1, bif_t r2 ⟨by omega, by rw [r3]; omega, ?_⟩⟩⟩
    rw [w32_id (by omega) (by omega), Int.toNat_natCast]
    rintro _ rfl
    refine ih (i + 1) _ (by omega) (f1.trans (fr.set (by simp; omega) (by omega) _ _ _)) (fun t ht => ?_) (fun t ht j hj => ?_)
    · by_cases e : t = i
      · subst e; rw [pset_eq]
      · rw [pset_cl _ _ (by omega)]; exact f2 t (by omega)
    · by_cases e : t = i
      · subst e; rw [pset_ne _ _ hj]; exact f3 t ht j hj
      · rw [pset_cl _ _ (by omega)]; exact f3 t ht j hj
/-- a height as it stands on the tape -/
def vHo (b : Nat → Int) (m : Nat) : Int := 100 * pand (b (2 * m)) 255 - 4800 + pand (b (2 * m + 1)) 255 - 48
theorem s46 {d : Nat} {G : pG} {m : Nat} (hT : rTape G) (hl : G 109 1 = 200) (hm : m < 100) (hd : 1 ≤ d) : pRuns pMT d 46 [pR 1, pI (m : Int)] Yc G (some (pI (vHo (G 110) m))) G := by
  obtain ⟨t1, t2, t3, t4⟩ := hT
  have a1 := t4 (2 * m) (by omega)
  have a2 := t4 (2 * m + 1) (by omega)
  have b1 := u8_bd a1.2.1 a1.2.2
  have b2 := u8_bd a2.2.1 a2.2.2
  refine pRuns.of rfl rfl (v46_0 ?_)
  have e1 : w32 (2 * (m : Int)) = ((2 * m : Nat) : Int) := by rw [w32_id (by omega) (by omega)]; omega
  have e2 : w32 (((2 * m : Nat) : Int) + 1) = ((2 * m + 1 : Nat) : Int) := by rw [w32_id (by omega) (by omega)]; omega
  rw [e1, e2]
  refine pC1.of hd s99 (pC1.of hd s99 ?_)
  rw [if_pos (by omega), if_pos (by omega), Int.toNat_natCast, Int.toNat_natCast, a1.1, a2.1, w32_id (x := 100 * pand (G 110 (2 * m)) 255) (by omega) (by omega), w32_id (x := 100 * pand (G 110 (2 * m)) 255 - 4800) (by omega) (by omega), w32_id (x := 100 * pand (G 110 (2 * m)) 255 - 4800 + pand (G 110 (2 * m + 1)) 255) (by omega) (by omega), w32_id (by omega) (by omega)]
  exact rI rfl rfl
def vHok (b : Nat → Int) (m : Nat) : Prop := 0 ≤ vHo b m ∧ vHo b m ≤ 999
theorem rTape_dep : dep [1, 2, 110] [1] rTape := by
  intro G G' h1 h2 h
  unfold rTape at *
  rw [h1 1 (by decide), h1 2 (by decide), h1 110 (by decide), h2 1 (by decide)]
  exact h
theorem s45n {d : Nat} {G : pG} {k : Nat} (hT : rTape G) (hl : G 109 1 = 200) (hn : ¬ ∀ m : Nat, m < 100 → vHok (G 110) m) (hd : 2 ≤ d) : pRuns pMT d 45 [pR 43, pI (k : Int), pR 1] Yc G (some (pI (-1))) G := by
  refine pRuns.of rfl rfl (v45_0 ⟨fun _ => ?_, fun h => absurd (by rw [hT.1, hl]) h⟩)
  suffices H : ∀ (n i : Nat), i + n = 100 → (∀ m : Nat, m < i → vHok (G 110) m) → pEnds pMT d 45 Yc (fun r' g => r' = some (pI (-1)) ∧ g = G) 14 [pR 43, pI (k : Int), pR 1, pI (i : Int)] [] G by
    rintro _ rfl
    exact H 100 0 rfl (fun m hm => by omega)
  intro n
  induction n with
  | zero =>
    intro i hi h
    exact absurd (fun m hm => h m (by omega)) hn
  | succ n ih =>
    intro i hi h
    refine v45_14 ⟨fun q => by omega, fun _ => pC1.of (by omega) (s46 hT hl (by omega) (by omega)) (pC1.of (by omega) s118 ⟨fun q => ?_, fun q => rI rfl rfl⟩)⟩
    have q := b2i_n0.mp q
    rw [w32_id (by omega) (by omega)]
    rintro _ rfl
    refine ih (i + 1) (by omega) (fun m hm => ?_)
    by_cases e : m = i
    · subst e; exact q
    · exact h m (by omega)
theorem s45y {d : Nat} {G : pG} {k : Nat} (hk : k < 4) (hT : rTape G) (hl : G 109 1 = 200) (hy : ∀ m : Nat, m < 100 → vHok (G 110) m) (hd : 2 ≤ d) : ∃ G', pRuns pMT d 45 [pR 43, pI (k : Int), pR 1] Yc G (some (pI 1)) G' ∧ fr [45, 46, 47, 48, 52, 53, 54, 55, 56, 57] [] G G' ∧ (∀ t : Nat, t < 6 → G' (52 + t) k = -2 ∧ ∀ j : Nat, j ≠ k → G' (52 + t) j = G (52 + t) j) ∧ (∀ j : Nat, j < 4 → j ≠ k → G' (45 + j) = G (45 + j)) ∧ ∀ m : Nat, m < 100 → G' (45 + k) m = vHo (G 110) m := by
  suffices H2 : ∀ (n i : Nat) (g : pG), i + n = 100 → fr [45, 46, 47, 48] [] G g → (∀ j : Nat, j < 4 → j ≠ k → g (45 + j) = G (45 + j)) → (∀ m : Nat, m < i → g (45 + k) m = vHo (G 110) m) → pEnds pMT d 45 Yc (fun r g => ∃ v : Int, r = some (pI v) ∧ (v = 1 ∧ fr [45, 46, 47, 48, 52, 53, 54, 55, 56, 57] [] G g ∧ (∀ t : Nat, t < 6 → g (52 + t) k = -2 ∧ ∀ j : Nat, j ≠ k → g (52 + t) j = G (52 + t) j) ∧ (∀ j : Nat, j < 4 → j ≠ k → g (45 + j) = G (45 + j)) ∧ ∀ m : Nat, m < 100 → g (45 + k) m = vHo (G 110) m)) 46 [pR 43, pI (k : Int), pR 1, pI (i : Int)] [] g by
    suffices H1 : ∀ (n i : Nat), i + n = 100 → pEnds pMT d 45 Yc (fun r g => ∃ v : Int, r = some (pI v) ∧ (v = 1 ∧ fr [45, 46, 47, 48, 52, 53, 54, 55, 56, 57] [] G g ∧ (∀ t : Nat, t < 6 → g (52 + t) k = -2 ∧ ∀ j : Nat, j ≠ k → g (52 + t) j = G (52 + t) j) ∧ (∀ j : Nat, j < 4 → j ≠ k → g (45 + j) = G (45 + j)) ∧ ∀ m : Nat, m < 100 → g (45 + k) m = vHo (G 110) m)) 14 [pR 43, pI (k : Int), pR 1, pI (i : Int)] [] G by
      obtain ⟨v, G', h1, rfl, h2⟩ := pX1 (MT := pMT) (d := d) (m := 45) (as := [pR 43, pI (k : Int), pR 1]) (Y := Yc) (G := G) rfl rfl (v45_0 ⟨fun _ => by
        rintro _ rfl
        exact H1 100 0 rfl, fun h => absurd (by rw [hT.1, hl]) h⟩)
      exact ⟨G', h1, h2⟩
    intro n
    induction n with
    | zero =>
      intro i hi
      refine v45_14 ⟨fun _ => ?_, fun h => by omega⟩
      rintro _ rfl
      exact H2 100 0 G rfl (fr.refl _ _ _) (fun _ _ _ => rfl) (fun m hm => by omega)
    | succ n ih =>
      intro i hi
      refine v45_14 ⟨fun q => by omega, fun _ => pC1.of (by omega) (s46 hT hl (by omega) (by omega)) (pC1.of (by omega) s118 ⟨fun q => ?_, fun q => (b2i_0.mp q (hy i (by omega))).elim⟩)⟩
      rw [w32_id (by omega) (by omega)]
      rintro _ rfl
      exact ih (i + 1) (by omega)
  intro n
  induction n with
  | zero =>
    intro i g hi f1 f2 f3
    refine v45_46 ⟨fun _ => pC0.ox (by omega) (s44 hk) fun A hA => ⟨1, rfl, rfl, (f1.mono (by decide) (by decide)).trans (hA.1.mono (by decide) (by decide)), fun t ht => ⟨(hA.2 t ht).1, fun j hj => ?_⟩, fun j hj hj2 => ?_, fun m hm => ?_⟩, fun h => by omega⟩
    · rw [(hA.2 t ht).2 j hj, f1.c (52 + t) ⟨by simp; omega, by omega⟩]
    · rw [hA.1.c (45 + j) ⟨by simp; omega, by omega⟩, f2 j hj hj2]
    · rw [hA.1.c (45 + k) ⟨by simp; omega, by omega⟩, f3 m (by omega)]
  | succ n ih =>
    intro i g hi f1 f2 f3
    obtain ⟨r1, r2, r3⟩ := row44 k hk
    have hTg : rTape g := f1.mv rTape_dep (by decide) (by decide) hT
    refine v45_46 ⟨fun h => by omega, fun h => ⟨by omega, by omega, 45 + k, by rw [Int.toNat_natCast]; exact r1, pC1.of (by omega) (s46 hTg (by rw [f1.f 1 (by decide), hl]) (by omega) (by omega)) (bif_t r2 ⟨by omega, by rw [r3]; omega, ?_⟩)⟩⟩
    rw [w32_id (by omega) (by omega), Int.toNat_natCast, f1.c 110 (by decide)]
    rintro _ rfl
    refine ih (i + 1) _ (by omega) (f1.trans (fr.set (by simp; omega) (by omega) _ _ _)) (fun j hj hj2 => ?_) (fun m hm => ?_)
    · rw [pset_cl _ _ (by omega)]; exact f2 j hj hj2
    · by_cases e : m = i
      · subst e; rw [pset_eq]
      · rw [pset_ne _ _ e]; exact f3 m (by omega)
/-- the old discs change, and what is kept of them is forgotten -/
def caMv (G G' : pG) : Prop := (G' 155 = G 155 ∧ ∀ t : Nat, t < 6 → G' (52 + t) = G (52 + t)) ∨ ∃ k : Nat, k < 4 ∧ (∀ t : Nat, t < 6 → G' (52 + t) k = -2 ∧ ∀ j : Nat, j ≠ k → G' (52 + t) j = G (52 + t) j) ∧ ∀ j m : Nat, j < 4 → m < 100 → j ≠ k → G' 155 (100 * j + m) = G 155 (100 * j + m)
theorem ho_e {b : Nat → Int} {m : Nat} (a1 : -128 ≤ b (2 * m) ∧ b (2 * m) ≤ 127) (a2 : -128 ≤ b (2 * m + 1) ∧ b (2 * m + 1) ≤ 127) : w32 (w32 (w32 (100 * w32 (pand (b (2 * m)) 255 - 48)) + pand (b (2 * m + 1)) 255) - 48) = vHo b m := by
  have b1 := u8_bd a1.1 a1.2
  have b2 := u8_bd a2.1 a2.2
  rw [w32_id (x := pand (b (2 * m)) 255 - 48) (by omega) (by omega), w32_id (x := 100 * (pand (b (2 * m)) 255 - 48)) (by omega) (by omega), w32_id (x := 100 * (pand (b (2 * m)) 255 - 48) + pand (b (2 * m + 1)) 255) (by omega) (by omega), w32_id (by omega) (by omega)]
  unfold vHo
  omega
/-- the reference reads the row -/
theorem l218 {d : Nat} {G : pG} {k : Nat} (hk : k < 4) (hT : ∀ i : Nat, i < 800 → -128 ≤ G 110 i ∧ G 110 i ≤ 127) (hd : 1 ≤ d) {R : Option pV → pG → Prop} (hn : (¬ ∀ m : Nat, m < 100 → vHok (G 110) m) → ∀ g, fr [156] [] G g → R (some (pI (-1))) g) (hy : (∀ m : Nat, m < 100 → vHok (G 110) m) → ∀ g, fr [155, 156] [] G g → (∀ j m : Nat, j < 4 → m < 100 → j ≠ k → g 155 (100 * j + m) = G 155 (100 * j + m)) → (∀ m : Nat, m < 100 → g 155 (100 * k + m) = vHo (G 110) m) → R (some (pI 1)) g) : pEnds pMT d 218 Yc R 31 [pR 109, pI (k : Int), pU, pI 0, pU] [] G := by
  have H2 : (∀ m : Nat, m < 100 → vHok (G 110) m) → ∀ (n i : Nat) (g : pG), i + n = 100 → fr [155, 156] [] G g → (∀ m : Nat, m < 100 → g 156 m = vHo (G 110) m) → (∀ j m : Nat, j < 4 → m < 100 → j ≠ k → g 155 (100 * j + m) = G 155 (100 * j + m)) → (∀ m : Nat, m < i → g 155 (100 * k + m) = vHo (G 110) m) → pEnds pMT d 218 Yc R 106 [pR 109, pI (k : Int), pU, pI (i : Int), pU] [] g := by
    intro hall n
    induction n with
    | zero =>
      intro i g hi f1 f2 f3 f4
      exact v218_106 ⟨fun _ => hy hall g f1 f3 (fun m hm => f4 m (by omega)), fun h => by omega⟩
    | succ n ih =>
      intro i g hi f1 f2 f3 f4
      have e1 : w32 (w32 (100 * (k : Int)) + (i : Int)) = ((100 * k + i : Nat) : Int) := by rw [w32_id (x := 100 * (k : Int)) (by omega) (by omega), w32_id (by omega) (by omega)]; omega
      refine v218_106 ⟨fun h => by omega, fun h => ⟨by omega, by omega, ?_⟩⟩
      rw [e1, w32_id (by omega) (by omega), Int.toNat_natCast, Int.toNat_natCast, f2 i (by omega)]
      refine ⟨by omega, by omega, ?_⟩
      rintro _ rfl
      refine ih (i + 1) _ (by omega) (f1.trans (fr.set (by decide) (by omega) _ _ _)) (fun m hm => by rw [pset_cl _ _ (by decide)]; exact f2 m hm) (fun j m hj hm hj2 => by rw [pset_ne _ _ (by omega)]; exact f3 j m hj hm hj2) (fun m hm => ?_)
      by_cases e : m = i
      · subst e; rw [pset_eq]
      · rw [pset_ne _ _ (by omega)]; exact f4 m (by omega)
  have H1 : ∀ (n i : Nat) (g : pG), i + n = 100 → fr [156] [] G g → (∀ m : Nat, m < i → vHok (G 110) m) → (∀ m : Nat, m < i → g 156 m = vHo (G 110) m) → pEnds pMT d 218 Yc R 31 [pR 109, pI (k : Int), pU, pI (i : Int), pU] [] g := by
    intro n
    induction n with
    | zero =>
      intro i g hi f1 f2 f3
      refine v218_31 ⟨fun _ => ?_, fun h => by omega⟩
      rintro _ rfl
      exact H2 (fun m hm => f2 m (by omega)) 100 0 g rfl (f1.mono (by decide) (by decide)) (fun m hm => f3 m (by omega)) (fun j m _ _ _ => by rw [f1.c 155 (by decide)]) (fun m hm => by omega)
    | succ n ih =>
      intro i g hi f1 f2 f3
      have e1 : w32 (2 * (i : Int)) = ((2 * i : Nat) : Int) := by rw [w32_id (by omega) (by omega)]; omega
      have e2 : w32 (((2 * i : Nat) : Int) + 1) = ((2 * i + 1 : Nat) : Int) := by rw [w32_id (by omega) (by omega)]; omega
      refine v218_31 ⟨fun h => by omega, fun h => ?_⟩
      rw [e1, e2, Int.toNat_natCast, Int.toNat_natCast, f1.c 110 (by decide), ho_e (hT _ (by omega)) (hT _ (by omega))]
      refine ⟨by omega, by omega, by omega, by omega, ?_⟩
      rintro _ rfl
      refine pC1.of hd s166 ⟨fun q => ⟨by omega, by omega, ?_⟩, fun q => hn (fun z => b2i_0.mp q (z i (by omega))) g f1⟩
      have q := b2i_n0.mp q
      rw [w32_id (by omega) (by omega), Int.toNat_natCast]
      rintro _ rfl
      refine ih (i + 1) _ (by omega) (f1.trans (fr.set (by decide) (by decide) _ _ _)) (fun m hm => ?_) (fun m hm => ?_)
      · by_cases e : m = i
        · subst e; exact q
        · exact f2 m (by omega)
      · by_cases e : m = i
        · subst e; rw [pset_eq]
        · rw [pset_ne _ _ e]; exact f3 m (by omega)
  exact H1 100 0 G rfl (fr.refl _ _ _) (fun m hm => by omega) (fun m hm => by omega)
theorem pr_old (x : Int) : pPx [1, 45, 46, 47, 48, 52, 53, 54, 55, 56, 57, 155, 156] [1] (fun G => rTape G ∧ rOld G) (fun G G' => rTape G' ∧ rOld G' ∧ caMv G G') 141 218 [pI x] := by
  rintro G ⟨hT, hO⟩
  have hT' := hT
  obtain ⟨t1, t2, t3, t4⟩ := hT
  have tape0 : ∀ g : pG, g 1 2 = 0 → g 109 1 = 0 → g 2 = G 2 → g 110 = G 110 → rTape g := fun g h1 h2 h3 h4 => ⟨by rw [h1, h2], by omega, by omega, fun i hi => by rw [h3, h4]; exact t4 i hi⟩
  by_cases hx : 0 ≤ x ∧ x ≤ 3
  · obtain ⟨k, rfl⟩ : ∃ k : Nat, x = (k : Int) := ⟨x.toNat, by omega⟩
    by_cases hl : G 109 1 = 200
    · by_cases hy : ∀ m : Nat, m < 100 → vHok (G 110) m
      · obtain ⟨A, a1, a2, a3, a4, a5⟩ := s45y (d := 58) (G := G) (k := k) (by omega) hT' hl hy (by omega)
        have F1 : fr [1, 45, 46, 47, 48, 52, 53, 54, 55, 56, 57] [] A (pset A 1 2 0) := fr.set (by decide) (by decide) _ _ _
        have FA : fr [1, 45, 46, 47, 48, 52, 53, 54, 55, 56, 57] [] G (pset A 1 2 0) := (a2.mono (by decide) (by decide)).trans F1
        have FB : fr [] [1] (pset A 1 2 0) (pset (pset A 1 2 0) 109 1 0) := fr.setF (by decide) _ _
        have FC : fr [1, 45, 46, 47, 48, 52, 53, 54, 55, 56, 57] [1] G (pset (pset A 1 2 0) 109 1 0) := (FA.mono (by decide) (by decide)).trans (FB.mono (by decide) (by decide))
        have c1 : pRuns pMT 59 141 [pR 0, pI (k : Int)] Yc G (some (pI 1)) (pset A 1 2 0) := pRuns.of rfl rfl (v141_0 (pC1.of (by omega) (s123 (by omega)) ⟨fun q => absurd hx (b2i_0.mp q), fun _ => pC1.of (by omega) a1 (fun v hv => rI hv rfl)⟩))
        generalize hB : pset (pset A 1 2 0) 109 1 0 = B at *
        have ea : ∀ c : Nat, c ≠ 1 → c ≠ 109 → B c = A c := fun c h1 h2 => by rw [← hB, pset_cl _ _ h2, pset_cl _ _ h1]
        have r2 : ∃ v G', pRuns pMT 59 218 [pR 109, pI (k : Int)] Yc (pset A 1 2 0) (some (pI v)) G' ∧ (v = 1 ∧ fr [155, 156] [] B G' ∧ (∀ j m : Nat, j < 4 → m < 100 → j ≠ k → G' 155 (100 * j + m) = B 155 (100 * j + m)) ∧ (∀ m : Nat, m < 100 → G' 155 (100 * k + m) = vHo (B 110) m)) := by
          refine pX1 rfl rfl (v218_0 ?_)
          intro x2 hx2
          rw [FA.f 1 (by decide), hl] at hx2
          subst hx2
          rw [hB]
          refine pC1.of (by omega) (s217 (by omega)) ⟨fun _ => ⟨fun _ => ?_, fun q => absurd rfl q⟩, fun q => absurd hx (b2i_0.mp q)⟩
          rintro _ rfl
          have e110 : B 110 = G 110 := FC.c 110 (by decide)
          refine l218 (by omega) (fun i hi => by rw [e110]; exact (t4 i hi).2) (by omega) (fun z => absurd (by rw [e110]; exact hy) z) (fun _ g h1 h2 h3 => ⟨1, rfl, rfl, h1, h2, h3⟩)
        obtain ⟨v, C, c2, rfl, f2, m1, m2⟩ := r2
        rw [FC.c 110 (by decide)] at m2
        have FD : fr [1, 45, 46, 47, 48, 52, 53, 54, 55, 56, 57, 155, 156] [1] G C := (FC.mono (by decide) (by decide)).trans (f2.mono (by decide) (by decide))
        refine ⟨1, pset A 1 2 0, C, c1, c2, FA.mono (by decide) (by decide), FD, ?_, ?_, Or.inr ⟨k, by omega, ?_, ?_⟩⟩
        · refine tape0 C ?_ ?_ (FD.c 2 (by decide)) (FD.c 110 (by decide))
          · rw [f2.c 1 (by decide), ← hB, pset_cl _ _ (by decide), pset_eq]
          · rw [f2.f 1 (by decide), ← hB, pset_eq]
        · intro j m hj hm
          rw [f2.c (45 + j) ⟨by simp; omega, by omega⟩, ea (45 + j) (by omega) (by omega)]
          by_cases e : j = k
          · subst e
            rw [a5 m hm, m2 m hm]
            exact ⟨rfl, hy m hm⟩
          · rw [a4 j hj e, m1 j m hj hm e, FC.c 155 (by decide)]
            exact hO j m hj hm
        · intro t ht
          rw [f2.c (52 + t) ⟨by simp; omega, by omega⟩, ea (52 + t) (by omega) (by omega)]
          exact a3 t ht
        · intro j m hj hm e
          rw [m1 j m hj hm e, FC.c 155 (by decide)]
      · have F1 : fr [1] [] G (pset G 1 2 0) := fr.set (by decide) (by decide) _ _ _
        have FB : fr [] [1] (pset G 1 2 0) (pset (pset G 1 2 0) 109 1 0) := fr.setF (by decide) _ _
        have FC : fr [1] [1] G (pset (pset G 1 2 0) 109 1 0) := (F1.mono (by decide) (by decide)).trans (FB.mono (by decide) (by decide))
        have c1 : pRuns pMT 59 141 [pR 0, pI (k : Int)] Yc G (some (pI (-1))) (pset G 1 2 0) := pRuns.of rfl rfl (v141_0 (pC1.of (by omega) (s123 (by omega)) ⟨fun q => absurd hx (b2i_0.mp q), fun _ => pC1.of (by omega) (s45n hT' hl hy (by omega)) (fun v hv => rI hv rfl)⟩))
        generalize hB : pset (pset G 1 2 0) 109 1 0 = B at *
        have r2 : ∃ v G', pRuns pMT 59 218 [pR 109, pI (k : Int)] Yc (pset G 1 2 0) (some (pI v)) G' ∧ (v = -1 ∧ fr [156] [] B G') := by
          refine pX1 rfl rfl (v218_0 ?_)
          intro x2 hx2
          rw [F1.f 1 (by decide), hl] at hx2
          subst hx2
          rw [hB]
          refine pC1.of (by omega) (s217 (by omega)) ⟨fun _ => ⟨fun _ => ?_, fun q => absurd rfl q⟩, fun q => absurd hx (b2i_0.mp q)⟩
          rintro _ rfl
          have e110 : B 110 = G 110 := FC.c 110 (by decide)
          refine l218 (by omega) (fun i hi => by rw [e110]; exact (t4 i hi).2) (by omega) (fun _ g h1 => ⟨-1, rfl, rfl, h1⟩) (fun z => absurd (by rw [e110] at z; exact z) hy)
        obtain ⟨v, C, c2, rfl, f2⟩ := r2
        have FD : fr [1, 156] [1] G C := (FC.mono (by decide) (by decide)).trans (f2.mono (by decide) (by decide))
        refine ⟨-1, pset G 1 2 0, C, c1, c2, F1.mono (by decide) (by decide), FD.mono (by decide) (by decide), ?_, ?_, Or.inl ⟨FD.c 155 (by decide), fun t ht => FD.c (52 + t) ⟨by simp; omega, by omega⟩⟩⟩
        · refine tape0 C ?_ ?_ (FD.c 2 (by decide)) (FD.c 110 (by decide))
          · rw [f2.c 1 (by decide), ← hB, pset_cl _ _ (by decide), pset_eq]
          · rw [f2.f 1 (by decide), ← hB, pset_eq]
        · intro j m hj hm
          rw [FD.c (45 + j) ⟨by simp; omega, by omega⟩, FD.c 155 (by decide)]
          exact hO j m hj hm
    · have F1 : fr [1] [] G (pset G 1 2 0) := fr.set (by decide) (by decide) _ _ _
      have FB : fr [] [1] (pset G 1 2 0) (pset (pset G 1 2 0) 109 1 0) := fr.setF (by decide) _ _
      have FC : fr [1] [1] G (pset (pset G 1 2 0) 109 1 0) := (F1.mono (by decide) (by decide)).trans (FB.mono (by decide) (by decide))
      have c45 : pRuns pMT 58 45 [pR 43, pI (k : Int), pR 1] Yc G (some (pI (-1))) G := pRuns.of rfl rfl (v45_0 ⟨fun q => absurd (by rw [← t1]; exact q) hl, fun _ => rI rfl rfl⟩)
      refine ⟨-1, pset G 1 2 0, _, pRuns.of rfl rfl (v141_0 (pC1.of (by omega) (s123 (by omega)) ⟨fun q => absurd hx (b2i_0.mp q), fun _ => pC1.of (by omega) c45 (fun v hv => rI hv rfl)⟩)), pRuns.of rfl rfl (v218_0 ?_), F1.mono (by decide) (by decide), FC.mono (by decide) (by decide), ?_, ?_, Or.inl ⟨FC.c 155 (by decide), fun t ht => FC.c (52 + t) ⟨by simp; omega, by omega⟩⟩⟩
      · intro x2 hx2
        rw [F1.f 1 (by decide)] at hx2
        exact pC1.of (by omega) (s217 (by omega)) ⟨fun _ => ⟨fun q => absurd (by rw [← hx2]; exact q) hl, fun _ => rI rfl rfl⟩, fun q => absurd hx (b2i_0.mp q)⟩
      · exact tape0 _ (by rw [pset_cl _ _ (by decide), pset_eq]) (by rw [pset_eq]) (FC.c 2 (by decide)) (FC.c 110 (by decide))
      · intro j m hj hm
        rw [FC.c (45 + j) ⟨by simp; omega, by omega⟩, FC.c 155 (by decide)]
        exact hO j m hj hm
  · have F1 : fr [1] [] G (pset G 1 2 0) := fr.set (by decide) (by decide) _ _ _
    have FB : fr [] [1] (pset G 1 2 0) (pset (pset G 1 2 0) 109 1 0) := fr.setF (by decide) _ _
    have FC : fr [1] [1] G (pset (pset G 1 2 0) 109 1 0) := (F1.mono (by decide) (by decide)).trans (FB.mono (by decide) (by decide))
    refine ⟨-2, pset G 1 2 0, _, pRuns.of rfl rfl (v141_0 (pC1.of (by omega) (s123 (by omega)) ⟨fun _ v hv => rI hv rfl, fun q => absurd (b2i_n0.mp q) hx⟩)), pRuns.of rfl rfl (v218_0 ?_), F1.mono (by decide) (by decide), FC.mono (by decide) (by decide), ?_, ?_, Or.inl ⟨FC.c 155 (by decide), fun t ht => FC.c (52 + t) ⟨by simp; omega, by omega⟩⟩⟩
    · intro x2 hx2
      exact pC1.of (by omega) (s217 (by omega)) ⟨fun q => absurd (b2i_n0.mp q) hx, fun q => rI rfl rfl⟩
    · exact tape0 _ (by rw [pset_cl _ _ (by decide), pset_eq]) (by rw [pset_eq]) (FC.c 2 (by decide)) (FC.c 110 (by decide))
    · intro j m hj hm
      rw [FC.c (45 + j) ⟨by simp; omega, by omega⟩, FC.c 155 (by decide)]
      exact hO j m hj hm
