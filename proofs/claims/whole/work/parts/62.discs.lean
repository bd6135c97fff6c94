/-- told(what) -/
def vTold (G : pG) (x : Int) : Int := if 10 ≤ x ∧ x ≤ 9 + G 109 11 then vTn G (x - 10).toNat else if 20 ≤ x ∧ x ≤ 19 + G 109 11 then G 115 (x - 20).toNat else if 30 ≤ x ∧ x ≤ 29 + G 109 11 then G 118 (x - 30).toNat else if 40 ≤ x ∧ x ≤ 39 + G 109 10 then G 114 (x - 40).toNat else if 50 ≤ x ∧ x ≤ 49 + G 109 10 then G 112 (x - 50).toNat else if 60 ≤ x ∧ x ≤ 59 + G 109 10 then G 113 (x - 60).toNat else if x = 0 then G 109 10 else if x = 1 then G 109 11 else if x = 2 then G 109 12 else if x = 3 then G 109 49 else if x = 4 then G 109 34 else -1
theorem s191 {d : Nat} {G : pG} {x : Int} (hP : rPart G) (hd : 2 ≤ d) : pRuns pMT d 191 [pR 109, pI x] Yc G (some (pI (vTold G x))) G := by
  have := hP.n0
  have := hP.n1
  have := hP.t0
  have := hP.t1
  refine pRuns.of rfl rfl (v191_0 ?_)
  unfold vTold
  rw [w64_id (x := 9 + G 109 11) (by omega) (by omega)]
  refine pC1.of (by omega) s166 ⟨fun h => ?_, fun h => ?_⟩
  · have h := b2i_0.mp h
    rw [if_neg h, w64_id (x := 19 + G 109 11) (by omega) (by omega)]
    refine pC1.of (by omega) s166 ⟨fun h => ?_, fun h => ?_⟩
    · have h := b2i_0.mp h
      rw [if_neg h, w64_id (x := 29 + G 109 11) (by omega) (by omega)]
      refine pC1.of (by omega) s166 ⟨fun h => ?_, fun h => ?_⟩
      · have h := b2i_0.mp h
        rw [if_neg h, w64_id (x := 39 + G 109 10) (by omega) (by omega)]
        refine pC1.of (by omega) s166 ⟨fun h => ?_, fun h => ?_⟩
        · have h := b2i_0.mp h
          rw [if_neg h, w64_id (x := 49 + G 109 10) (by omega) (by omega)]
          refine pC1.of (by omega) s166 ⟨fun h => ?_, fun h => ?_⟩
          · have h := b2i_0.mp h
            rw [if_neg h, w64_id (x := 59 + G 109 10) (by omega) (by omega)]
            refine pC1.of (by omega) s166 ⟨fun h => ?_, fun h => ?_⟩
            · have h := b2i_0.mp h
              rw [if_neg h]
              refine ⟨fun h => ?_, fun h => ⟨fun h0 => ?_, fun h0 => ⟨fun h1 => ?_, fun h1 => ⟨fun h2 => ?_, fun h2 => ⟨fun h3 => ?_, fun h3 => ⟨fun h4 => ?_, fun h4 => by omega⟩⟩⟩⟩⟩⟩
              · exact rI (by rw [if_neg (by omega), if_neg (by omega), if_neg (by omega), if_neg (by omega), if_neg (by omega)]) rfl
              · exact rI (by rw [if_pos h0]) rfl
              · exact rI (by rw [if_neg h0, if_pos h1]) rfl
              · exact rI (by rw [if_neg h0, if_neg h1, if_pos h2]) rfl
              · exact rI (by rw [if_neg h0, if_neg h1, if_neg h2, if_pos h3]) rfl
              · exact rI (by rw [if_neg h0, if_neg h1, if_neg h2, if_neg h3, if_pos h4]) rfl
            · have h := b2i_n0.mp h
              rw [if_pos h, w32_id (x := x - 60) (by omega) (by omega)]
              exact ⟨by omega, by omega, rfl, rfl⟩
          · have h := b2i_n0.mp h
            rw [if_pos h, w32_id (x := x - 50) (by omega) (by omega)]
            exact ⟨by omega, by omega, rfl, rfl⟩
        · have h := b2i_n0.mp h
          rw [if_pos h, w32_id (x := x - 40) (by omega) (by omega)]
          exact ⟨by omega, by omega, rfl, rfl⟩
      · have h := b2i_n0.mp h
        rw [if_pos h, w32_id (x := x - 30) (by omega) (by omega)]
        exact ⟨by omega, by omega, rfl, rfl⟩
    · have h := b2i_n0.mp h
      rw [if_pos h, w32_id (x := x - 20) (by omega) (by omega)]
      exact ⟨by omega, by omega, rfl, rfl⟩
  · have h := b2i_n0.mp h
    rw [if_pos h, w32_id (x := x - 10) (by omega) (by omega), show x - 10 = (((x - 10).toNat : Nat) : Int) by omega]
    exact pC1.of (by omega) (s192 hP (by omega)) (rI (by rw [Int.toNat_natCast]) rfl)
theorem s133 {d : Nat} {G : pG} {x a b : Int} (hP : rPart G) (hd : 2 ≤ d) (ha : 1 ≤ a ∧ a ≤ 6) (hb : 0 ≤ b ∧ b ≤ 9) (hx : x = 10 * a + b) : pRuns pMT d 133 [pR 0, pI a, pI b] Yc G (some (pI (vTold G x))) G := by
  have := hP.n0
  have := hP.n1
  have := hP.t0
  have := hP.t1
  subst hx
  refine pRuns.of rfl rfl (v133_0 ⟨fun h => ?_, fun h => ?_⟩)
  · refine pC1.of (by omega) (s120 hP (by omega)) ⟨fun h1 => ⟨fun h2 => by omega, fun h2 => ⟨fun h3 => by omega, fun _ => ⟨fun h3 => by omega, fun _ => ⟨fun h3 => by omega, fun _ => ⟨fun h3 => ?_, fun h4 => ⟨fun h5 => ?_, fun h5 => ⟨fun h6 => ?_, fun h6 => by omega⟩⟩⟩⟩⟩⟩⟩, fun h1 => ?_⟩
    · have h1 := b2i_n0.mp h1
      subst h3
      refine ⟨by omega, by omega, rI ?_ rfl⟩
      unfold vTold
      rw [if_neg (by omega), if_neg (by omega), if_neg (by omega), if_pos (by omega), (hP.tool b.toNat (by omega)).2.2.1, show 10 * 4 + b - 40 = b by omega]
    · have h1 := b2i_n0.mp h1
      subst h5
      refine ⟨by omega, by omega, rI ?_ rfl⟩
      unfold vTold
      rw [if_neg (by omega), if_neg (by omega), if_neg (by omega), if_neg (by omega), if_pos (by omega), (hP.tool b.toNat (by omega)).1, show 10 * 5 + b - 50 = b by omega]
    · have h1 := b2i_n0.mp h1
      subst h6
      refine ⟨by omega, by omega, rI ?_ rfl⟩
      unfold vTold
      rw [if_neg (by omega), if_neg (by omega), if_neg (by omega), if_neg (by omega), if_neg (by omega), if_pos (by omega), (hP.tool b.toNat (by omega)).2.1, show 10 * 6 + b - 60 = b by omega]
    · have h1 := b2i_0.mp h1
      refine rI ?_ rfl
      unfold vTold
      rw [if_neg (by omega), if_neg (by omega), if_neg (by omega), if_neg (by omega), if_neg (by omega), if_neg (by omega), if_neg (by omega), if_neg (by omega), if_neg (by omega), if_neg (by omega), if_neg (by omega)]
  · refine pC1.of (by omega) (s121 hP (by omega)) ⟨fun h1 => ⟨fun h2 => by omega, fun h2 => ⟨fun h3 => ?_, fun _ => ⟨fun h3 => ?_, fun _ => ⟨fun h3 => ?_, fun _ => by omega⟩⟩⟩⟩, fun h1 => ?_⟩
    · have h1 := b2i_n0.mp h1
      subst h3
      have eb : b = ((b.toNat : Nat) : Int) := by omega
      rw [eb]
      refine pC1.of (by omega) (s63 hP (by omega) (by omega)) (rI ?_ rfl)
      unfold vTold
      rw [if_pos (by omega), show (10 * 1 + (b.toNat : Int) - 10).toNat = b.toNat by omega]
    · have h1 := b2i_n0.mp h1
      subst h3
      refine ⟨by omega, by omega, rI ?_ rfl⟩
      unfold vTold
      rw [if_neg (by omega), if_pos (by omega), (hP.step b.toNat (by omega)).1, show 10 * 2 + b - 20 = b by omega]
    · have h1 := b2i_n0.mp h1
      subst h3
      refine ⟨by omega, by omega, rI ?_ rfl⟩
      unfold vTold
      rw [if_neg (by omega), if_neg (by omega), if_pos (by omega), (hP.step b.toNat (by omega)).2.2.2.1, show 10 * 3 + b - 30 = b by omega]
    · have h1 := b2i_0.mp h1
      refine rI ?_ rfl
      unfold vTold
      rw [if_neg (by omega), if_neg (by omega), if_neg (by omega), if_neg (by omega), if_neg (by omega), if_neg (by omega), if_neg (by omega), if_neg (by omega), if_neg (by omega), if_neg (by omega), if_neg (by omega)]
theorem s132 {d : Nat} {G : pG} {x : Int} (hP : rPart G) (h3 : G 73 1 = G 109 49) (h4 : G 22 2 = G 109 34) (hd : 3 ≤ d) : pRuns pMT d 132 [pR 0, pI x] Yc G (some (pI (vTold G x))) G := by
  have := hP.n0
  have := hP.n1
  have := hP.t0
  have := hP.t1
  refine pRuns.of rfl rfl (v132_0 ⟨fun h => ⟨fun h1 => ?_, fun h1 => ⟨fun h2 => ?_, fun h2 => ?_⟩⟩, fun h => ⟨fun h0 => ?_, fun h0 => ⟨fun h1 => ?_, fun h1 => ⟨fun h2 => ?_, fun h2 => ⟨fun h3' => ?_, fun h3' => ⟨fun h4' => ?_, fun h4' => by omega⟩⟩⟩⟩⟩⟩)
  · refine rI ?_ rfl
    unfold vTold
    rw [if_neg (by omega), if_neg (by omega), if_neg (by omega), if_neg (by omega), if_neg (by omega), if_neg (by omega), if_neg (by omega), if_neg (by omega), if_neg (by omega), if_neg (by omega), if_neg (by omega)]
  · refine ⟨by omega, by omega, ?_⟩
    rw [pdiv_id (by omega) (by omega) (by omega) (by omega), prem_id (by omega) (by omega) (by omega) (by omega), Int.tdiv_eq_ediv_of_nonneg (by omega), Int.tmod_eq_emod_of_nonneg (by omega)]
    exact pC1.of (by omega) (s133 (x := x) hP (by omega) (by omega) (by omega) (by omega)) (rI rfl rfl)
  · refine rI ?_ rfl
    unfold vTold
    rw [if_neg (by omega), if_neg (by omega), if_neg (by omega), if_neg (by omega), if_neg (by omega), if_neg (by omega), if_neg (by omega), if_neg (by omega), if_neg (by omega), if_neg (by omega), if_neg (by omega)]
  all_goals
    refine rI ?_ rfl
    unfold vTold
    rw [if_neg (by omega), if_neg (by omega), if_neg (by omega), if_neg (by omega), if_neg (by omega), if_neg (by omega)]
  · rw [if_pos h0, hP.tools]
  · rw [if_neg h0, if_pos h1, hP.steps]
  · rw [if_neg h0, if_neg h1, if_pos h2, hP.idle]
  · rw [if_neg h0, if_neg h1, if_neg h2, if_pos h3', h3]
  · rw [if_neg h0, if_neg h1, if_neg h2, if_neg h3', if_pos h4', h4]
theorem pr_told {Rel : pG → Prop} (hP : ∀ G, Rel G → rPart G) (hW : ∀ G, Rel G → G 73 1 = G 109 49 ∧ G 22 2 = G 109 34) (x : Int) : pPr Rel 132 191 [pI x] := pPr.ro fun G hR => ⟨_, s132 (hP G hR) (hW G hR).1 (hW G hR).2 (by omega), s191 (hP G hR) (by omega)⟩
theorem mulb {a b A B : Int} (h1 : 0 ≤ a) (h2 : a ≤ A) (h3 : 0 ≤ b) (h4 : b ≤ B) : 0 ≤ a * b ∧ a * b ≤ A * B := ⟨Int.mul_nonneg h1 h3, Int.mul_le_mul h2 h4 h3 (by omega)⟩
/-- the plan's bounds -/
def rPl (G : pG) : Prop := 0 ≤ G 109 34 ∧ G 109 34 ≤ 140693 ∧ ∀ k : Nat, (k : Int) < G 109 11 → 0 ≤ G 152 k ∧ G 152 k + vTn G k ≤ G 109 34
/-- the mark of a turn -/
def vMk (G : pG) (x : Int) : Int := if G 109 34 = 0 then 0 else (x * (100 - G 109 12)) / G 109 34
def vUp (G : pG) (k : Nat) : Int := vMk G (G 152 k)
def vTop (G : pG) (k : Nat) : Int := vMk G (G 152 k + G 116 k * G 112 (G 115 k).toNat)
def vDn (G : pG) (k : Nat) : Int := vMk G (G 152 k + vTn G k)
theorem vMk_bd {G : pG} (hP : rPart G) (hL : rPl G) {x : Int} (h0 : 0 ≤ x) (h1 : x ≤ G 109 34) : 0 ≤ vMk G x ∧ vMk G x ≤ 100 := by
  have := hP.i0
  have := hP.i1
  have := hL.1
  unfold vMk
  split
  · omega
  · have hm := mulb h0 h1 (show 0 ≤ 100 - G 109 12 by omega) (show 100 - G 109 12 ≤ 100 by omega)
    refine ⟨Int.ediv_nonneg hm.1 (by omega), Int.ediv_le_of_le_mul (by omega) (by omega)⟩
theorem vMk_mono {G : pG} (hP : rPart G) (hL : rPl G) {x y : Int} (h1 : x ≤ y) : vMk G x ≤ vMk G y := by
  have := hP.i0
  have := hP.i1
  have := hL.1
  unfold vMk
  split
  · omega
  · exact Int.ediv_le_ediv (by omega) (Int.mul_le_mul_of_nonneg_right h1 (by omega))
theorem vMk_lt {G : pG} (hP : rPart G) (hL : rPl G) {x : Int} (h0 : 0 ≤ x) (h1 : x < G 109 34) : vMk G x ≤ 99 := by
  have := hP.i0
  have := hP.i1
  have := hL.1
  unfold vMk
  split
  · omega
  · have hm := mulb h0 (show x ≤ G 109 34 - 1 by omega) (show 0 ≤ 100 - G 109 12 by omega) (show 100 - G 109 12 ≤ 100 by omega)
    have := Int.ediv_lt_of_lt_mul (a := x * (100 - G 109 12)) (b := 100) (c := G 109 34) (by omega) (by omega)
    omega
theorem vMk_s {G : pG} (hP : rPart G) (hL : rPl G) {x : Int} (h0 : 0 ≤ x) (h1 : x ≤ G 109 34) : pdiv (w32 (x * w32 (100 - G 109 12))) (G 109 34) = (x * (100 - G 109 12)) / G 109 34 := by
  have := hP.i0
  have := hP.i1
  have := hL.1
  have := hL.2.1
  have hm := mulb h0 h1 (show 0 ≤ 100 - G 109 12 by omega) (show 100 - G 109 12 ≤ 100 by omega)
  rw [w32_id (x := 100 - G 109 12) (by omega) (by omega), w32_id (by omega) (by omega), pdiv_id (by omega) (by omega) (by omega) (by omega), Int.tdiv_eq_ediv_of_nonneg (by omega)]
theorem marks {G : pG} (hP : rPart G) (hL : rPl G) {k : Nat} (hk : (k : Int) < G 109 11) : 0 ≤ vUp G k ∧ vUp G k ≤ 99 ∧ vUp G k ≤ vTop G k ∧ vTop G k ≤ vDn G k ∧ vDn G k ≤ 100 := by
  obtain ⟨b1, b2, b3, b4⟩ := vTn_bd hP hk
  obtain ⟨p1, p2⟩ := hL.2.2 k hk
  obtain ⟨-, -, -, -, -, -, -, -, q, -⟩ := hP.step k hk
  have e : vTn G k = G 116 k * G 112 (G 115 k).toNat + G 117 k := rfl
  unfold vUp vTop vDn
  refine ⟨(vMk_bd hP hL p1 (by omega)).1, vMk_lt hP hL p1 (by omega), vMk_mono hP hL (by omega), vMk_mono hP hL (by omega), (vMk_bd hP hL (by omega) p2).2⟩
theorem s204 {d : Nat} {G : pG} {x : Int} (hP : rPart G) (hL : rPl G) (h0 : 0 ≤ x) (h1 : x ≤ G 109 34) : pRuns pMT d 204 [pR 109, pI x] Yc G (some (pI (vMk G x))) G := by
  refine pRuns.of rfl rfl (v204_0 ⟨fun h => ⟨h, rI ?_ rfl⟩, fun h => rI ?_ rfl⟩)
  · rw [vMk_s hP hL h0 h1]; unfold vMk; rw [if_neg h]
  · unfold vMk; rw [if_pos h]
theorem s12 {d : Nat} {G : pG} {x : Int} (hP : rPart G) (hL : rPl G) (hp : G 22 2 = G 109 34) (h0 : 0 ≤ x) (h1 : x ≤ G 109 34) : pRuns pMT d 12 [pR 39, pI x] Yc G (some (pI (vMk G x))) G := by
  have := hL.1
  refine pRuns.of rfl rfl (v12_0 ?_)
  rw [hp, hP.idle]
  refine ⟨fun h => ⟨by omega, rI ?_ rfl⟩, fun h => rI ?_ rfl⟩
  · rw [vMk_s hP hL h0 h1]; unfold vMk; rw [if_neg (by omega)]
  · unfold vMk; rw [if_pos (by omega)]
theorem s205 {d : Nat} {G : pG} {k : Nat} (hP : rPart G) (hL : rPl G) (hk : (k : Int) < G 109 11) (hd : 1 ≤ d) : pRuns pMT d 205 [pR 109, pI (k : Int)] Yc G (some (pI (vUp G k))) G := by
  have := hP.n1
  obtain ⟨b1, b2, b3, b4⟩ := vTn_bd hP hk
  obtain ⟨p1, p2⟩ := hL.2.2 k hk
  refine pRuns.of rfl rfl (v205_0 ⟨by omega, by omega, ?_⟩)
  rw [Int.toNat_natCast]
  exact pC1.of hd (s204 hP hL p1 (by omega)) (rI rfl rfl)
theorem s206 {d : Nat} {G : pG} {k : Nat} (hP : rPart G) (hL : rPl G) (hk : (k : Int) < G 109 11) (hd : 1 ≤ d) : pRuns pMT d 206 [pR 109, pI (k : Int)] Yc G (some (pI (vTop G k))) G := by
  have := hP.n1
  have := hP.t1
  have := hL.2.1
  obtain ⟨b1, b2, b3, b4⟩ := vTn_bd hP hk
  obtain ⟨p1, p2⟩ := hL.2.2 k hk
  obtain ⟨-, -, -, -, q1, q2, -, -, q, -⟩ := hP.step k hk
  have e : vTn G k = G 116 k * G 112 (G 115 k).toNat + G 117 k := rfl
  refine pRuns.of rfl rfl (v206_0 ?_)
  rw [Int.toNat_natCast]
  refine ⟨by omega, by omega, by omega, by omega, by omega, by omega, by omega, by omega, ?_⟩
  rw [w32_id (x := G 116 k * G 112 (G 115 k).toNat) (by omega) (by omega), w32_id (by omega) (by omega)]
  exact pC1.of hd (s204 hP hL (by omega) (by omega)) (rI rfl rfl)
theorem s207 {d : Nat} {G : pG} {k : Nat} (hP : rPart G) (hL : rPl G) (hk : (k : Int) < G 109 11) (hd : 1 ≤ d) : pRuns pMT d 207 [pR 109, pI (k : Int)] Yc G (some (pI (vDn G k))) G := by
  have := hP.n1
  have := hL.2.1
  obtain ⟨b1, b2, b3, b4⟩ := vTn_bd hP hk
  obtain ⟨p1, p2⟩ := hL.2.2 k hk
  refine pRuns.of rfl rfl (v207_0 ⟨by omega, by omega, ?_⟩)
  rw [Int.toNat_natCast]
  refine pC1.of hd (s192 hP hk) ?_
  rw [w32_id (by omega) (by omega)]
  exact pC1.of hd (s204 hP hL (by omega) (by omega)) (rI rfl rfl)
/-- the height of a step at a mark -/
def vHt (G : pG) (k : Nat) (m : Int) : Int := if (m - vUp G k) % 100 < vTop G k - vUp G k then G 116 k * ((m - vUp G k) % 100) / (vTop G k - vUp G k) else if (m - vUp G k) % 100 ≤ vDn G k - vUp G k then G 116 k else max 0 (G 116 k - G 113 (G 115 k).toNat * ((m - vUp G k) % 100 - (vDn G k - vUp G k)))
/-- what both compute, with x the marks behind -/
theorem ht_div {r x c : Int} (h1 : 1 ≤ r) (h2 : r ≤ 400) (h3 : 0 ≤ x) (h4 : x < c) (h5 : c ≤ 100) : pdiv (w32 (r * x)) c = r * x / c ∧ 0 ≤ r * x / c ∧ r * x / c ≤ r := by
  have hm := mulb (A := 400) (B := 100) (show 0 ≤ r by omega) h2 h3 (by omega)
  rw [w32_id (by omega) (by omega), pdiv_id (by omega) (by omega) (by omega) (by omega), Int.tdiv_eq_ediv_of_nonneg (by omega)]
  refine ⟨rfl, Int.ediv_nonneg hm.1 (by omega), Int.ediv_le_of_le_mul (by omega) ?_⟩
  exact Int.mul_le_mul_of_nonneg_left (by omega) (by omega)
theorem ht_dn {r s y : Int} (h1 : 1 ≤ r) (h2 : r ≤ 400) (h3 : 1 ≤ s) (h4 : s ≤ 60) (h5 : 0 ≤ y) (h6 : y ≤ 100) : pmx 0 (w32 (r - w32 (s * w32 y))) = max 0 (r - s * y) := by
  have hm := mulb (A := 60) (B := 100) (show 0 ≤ s by omega) h4 h5 h6
  rw [w32_id (x := y) (by omega) (by omega), w32_id (x := s * y) (by omega) (by omega), w32_id (by omega) (by omega), pmx_eq]
theorem vHt_bd {G : pG} (hP : rPart G) (hL : rPl G) {k : Nat} (hk : (k : Int) < G 109 11) (m : Int) : 0 ≤ vHt G k m ∧ vHt G k m ≤ 400 := by
  obtain ⟨a1, a2, a3, a4, a5⟩ := marks hP hL hk
  obtain ⟨-, -, -, -, q1, q2, q3, q4, -⟩ := hP.step k hk
  obtain ⟨-, -, -, -, -, t1, t2, -⟩ := hP.tool (G 115 k).toNat (by omega)
  unfold vHt
  split
  · next h =>
    have := ht_div q3 q4 (x := (m - vUp G k) % 100) (by omega) h (by omega)
    omega
  · split
    · omega
    · next h1 h2 =>
      have hm := mulb (A := 60) (B := 100) (show 0 ≤ G 113 (G 115 k).toNat by omega) t2 (show 0 ≤ (m - vUp G k) % 100 - (vDn G k - vUp G k) by omega) (by omega)
      omega
theorem s208 {d : Nat} {G : pG} {k : Nat} {m : Int} (hP : rPart G) (hL : rPl G) (hk : (k : Int) < G 109 11) (h0 : 0 ≤ m) (h1 : m ≤ 99) (hd : 2 ≤ d) : pRuns pMT d 208 [pR 109, pI (k : Int), pI m] Yc G (some (pI (vHt G k m))) G := by
  have := hP.n1
  have := hP.t1
  obtain ⟨a1, a2, a3, a4, a5⟩ := marks hP hL hk
  obtain ⟨-, -, -, -, q1, q2, q3, q4, -⟩ := hP.step k hk
  obtain ⟨-, -, -, -, -, t1, t2, -⟩ := hP.tool (G 115 k).toNat (by omega)
  refine pRuns.of rfl rfl (v208_0 ?_)
  refine pC1.of (by omega) (s205 hP hL hk (by omega)) ⟨by omega, ?_⟩
  rw [w32_id (x := m - vUp G k) (by omega) (by omega), w32_id (x := m - vUp G k + 100) (by omega) (by omega), w32_id (x := m - vUp G k + 100 + 100) (by omega) (by omega), prem_id (by omega) (by omega) (by omega) (by omega), Int.tmod_eq_emod_of_nonneg (by omega), show (m - vUp G k + 100 + 100) % 100 = (m - vUp G k) % 100 by omega]
  intro x hx
  refine pC1.of (by omega) (s206 hP hL hk (by omega)) (pC1.of (by omega) (s205 hP hL hk (by omega)) ?_)
  rw [w32_id (by omega) (by omega)]
  intro c hc
  refine pC1.of (by omega) (s207 hP hL hk (by omega)) (pC1.of (by omega) (s205 hP hL hk (by omega)) ?_)
  rw [w32_id (by omega) (by omega), Int.toNat_natCast]
  intro s hs
  unfold vHt
  rw [← hx, ← hc, ← hs]
  refine ⟨fun g1 => ⟨fun g2 => ⟨by omega, by omega, by omega, by omega, by omega, by omega, rI ?_ rfl⟩, fun g2 => ⟨by omega, by omega, rI ?_ rfl⟩⟩, fun g1 => ⟨by omega, by omega, by omega, rI ?_ rfl⟩⟩
  · rw [if_neg (by omega), if_neg (by omega), ht_dn q3 q4 t1 t2 (by omega) (by omega)]
  · rw [if_neg (by omega), if_pos (by omega)]
  · rw [if_pos g1, (ht_div q3 q4 (by omega) g1 (by omega)).1]
/-- the discs' marks, as the class keeps them -/
def rDisc (G : pG) : Prop := ∀ k : Nat, (k : Int) < G 109 11 → G 40 k = vUp G k ∧ G 41 k = vTop G k ∧ G 42 k = vDn G k
theorem s13 {d : Nat} {G : pG} {k : Nat} {m : Int} (hP : rPart G) (hL : rPl G) (hD : rDisc G) (hk : (k : Int) < G 109 11) (h0 : 0 ≤ m) (h1 : m ≤ 99) : pRuns pMT d 13 [pR 39, pI (k : Int), pI m] Yc G (some (pI (vHt G k m))) G := by
  have := hP.n1
  have := hP.t1
  obtain ⟨a1, a2, a3, a4, a5⟩ := marks hP hL hk
  obtain ⟨f1, f2, -, -, q1, q2, q3, q4, -⟩ := hP.step k hk
  obtain ⟨-, t0, -, -, -, t1, t2, -⟩ := hP.tool (G 115 k).toNat (by omega)
  obtain ⟨d1, d2, d3⟩ := hD k hk
  refine pRuns.of rfl rfl (v13_0 ?_)
  rw [Int.toNat_natCast, d1, d2, d3, f1, f2, t0]
  have e1 : w32 (vTop G k - vUp G k) = vTop G k - vUp G k := w32_id (by omega) (by omega)
  have e2 : w32 (vDn G k - vUp G k) = vDn G k - vUp G k := w32_id (by omega) (by omega)
  have e3 : w32 (m - vUp G k) = m - vUp G k := w32_id (by omega) (by omega)
  have e4 : w32 (m - vUp G k + 100) = m - vUp G k + 100 := w32_id (by omega) (by omega)
  rw [e1, e2, e3, e4]
  have key : ∀ x : Int, x = (m - vUp G k) % 100 → ∀ c : Int, c = vTop G k - vUp G k → ∀ s : Int, s = vDn G k - vUp G k → (c ≤ x → s < x → pmx 0 (w32 (G 116 k - w32 (G 113 (G 115 k).toNat * w32 (x - s)))) = vHt G k m) ∧ (c ≤ x → x ≤ s → G 116 k = vHt G k m) ∧ (x < c → pdiv (w32 (G 116 k * x)) c = vHt G k m) := by
    intro x hx c hc s hs
    unfold vHt
    rw [← hx, ← hc, ← hs]
    refine ⟨fun g1 g2 => ?_, fun g1 g2 => ?_, fun g1 => ?_⟩
    · rw [if_neg (by omega), if_neg (by omega), ht_dn q3 q4 t1 t2 (by omega) (by omega)]
    · rw [if_neg (by omega), if_pos (by omega)]
    · rw [if_pos g1, (ht_div q3 q4 (by omega) g1 (by omega)).1]
  have b0 : (0 : Int) ≤ (k : Int) := by omega
  have b1 : (k : Int) < 7 := by omega
  have c0 : (0 : Int) ≤ G 115 k := q1
  have c1 : G 115 k < 6 := by omega
  refine ⟨b0, b1, fun g => ⟨b0, b1, fun x hx => ⟨b0, b1, b0, b1, fun c hc => ⟨b0, b1, b0, b1, fun s hs => ?_⟩⟩⟩, fun g => ⟨b0, b1, fun x hx => ⟨b0, b1, b0, b1, fun c hc => ⟨b0, b1, b0, b1, fun s hs => ?_⟩⟩⟩⟩
  all_goals
    obtain ⟨k1, k2, k3⟩ := key x (by omega) c hc s hs
    exact ⟨fun g1 => ⟨fun g2 => ⟨b0, b1, b0, b1, c0, c1, rI (k1 (by omega) g2) rfl⟩, fun g2 => ⟨b0, b1, rI (k2 (by omega) g2) rfl⟩⟩, fun g1 => ⟨fun g2 => ⟨fun g3 => ⟨b0, b1, b0, b1, c0, c1, rI (k1 g2 g3) rfl⟩, fun g3 => ⟨b0, b1, rI (k2 g2 g3) rfl⟩⟩, fun g2 => ⟨b0, b1, by omega, rI (k3 g2) rfl⟩⟩⟩
/-- the height of a tool's disc at a mark, by its first n steps -/
def vDh (G : pG) (t m : Int) : Nat → Int
  | 0 => 0
  | n + 1 => if G 115 n = t then max (vDh G t m n) (vHt G n m) else vDh G t m n
theorem vDh_bd {G : pG} (hP : rPart G) (hL : rPl G) (t m : Int) : ∀ n : Nat, (n : Int) ≤ G 109 11 → 0 ≤ vDh G t m n ∧ vDh G t m n ≤ 400
  | 0, _ => by unfold vDh; omega
  | n + 1, h => by
    have h1 := vDh_bd hP hL t m n (by omega)
    have h2 := vHt_bd hP hL (k := n) (by omega) m
    unfold vDh
    split <;> omega
/-- the disc's height -/
def vDsc (G : pG) (t m : Int) : Int := vDh G t m (G 109 11).toNat
theorem s209 {d : Nat} {G : pG} {t m : Int} (hP : rPart G) (hL : rPl G) (h0 : 0 ≤ m) (h1 : m ≤ 99) (hd : 3 ≤ d) : pRuns pMT d 209 [pR 109, pI t, pI m] Yc G (some (pI (vDsc G t m))) G := by
  have n0 := hP.n0
  have n1 := hP.n1
  refine pRuns.of rfl rfl (v209_0 ?_)
  suffices H : ∀ (n i : Nat), (i : Int) + n = G 109 11 → pEnds pMT d 209 Yc (fun r' g => r' = some (pI (vDsc G t m)) ∧ g = G) 5 [pR 109, pI t, pI m, pI (vDh G t m i), pI (i : Int)] [] G by
    rintro _ rfl _ rfl
    exact H (G 109 11).toNat 0 (by omega)
  intro n
  induction n with
  | zero => exact fun i hi => v209_5 ⟨fun _ => rI (by unfold vDsc; rw [show (G 109 11).toNat = i by omega]) rfl, fun h => by omega⟩
  | succ n ih =>
    intro i hi
    have e : w32 ((i : Int) + 1) = ((i + 1 : Nat) : Int) := by rw [w32_id (by omega) (by omega)]; rfl
    refine v209_5 ⟨fun h => by omega, fun h => ⟨by omega, by omega, fun g => ?_, fun g => ?_⟩⟩
    · rw [Int.toNat_natCast] at g
      rw [e]
      rintro _ rfl
      have := ih (i + 1) (by omega)
      rwa [show vDh G t m (i + 1) = vDh G t m i by rw [vDh, if_neg g]] at this
    · rw [Int.toNat_natCast] at g
      refine pC1.of (by omega) (s208 hP hL h h0 h1 (by omega)) ?_
      rw [e, pmx_eq]
      rintro _ rfl _ rfl
      have := ih (i + 1) (by omega)
      rwa [show vDh G t m (i + 1) = max (vDh G t m i) (vHt G i m) by rw [vDh, if_pos g]] at this
theorem s14 {d : Nat} {G : pG} {t m : Int} (hP : rPart G) (hL : rPl G) (hD : rDisc G) (h0 : 0 ≤ m) (h1 : m ≤ 99) (hd : 1 ≤ d) : pRuns pMT d 14 [pR 39, pI t, pI m] Yc G (some (pI (vDsc G t m))) G := by
  have n0 := hP.n0
  have n1 := hP.n1
  refine pRuns.of rfl rfl (v14_0 ?_)
  suffices H : ∀ (n i : Nat), (i : Int) + n = G 109 11 → pEnds pMT d 14 Yc (fun r' g => r' = some (pI (vDsc G t m)) ∧ g = G) 5 [pR 39, pI t, pI m, pI (vDh G t m i), pI (i : Int)] [] G by
    rintro _ rfl _ rfl
    exact H (G 109 11).toNat 0 (by omega)
  intro n
  induction n with
  | zero => exact fun i hi => v14_5 (by rw [hP.steps]; exact ⟨fun _ => rI (by unfold vDsc; rw [show (G 109 11).toNat = i by omega]) rfl, fun h => by omega⟩)
  | succ n ih =>
    intro i hi
    have e : w32 ((i : Int) + 1) = ((i + 1 : Nat) : Int) := by rw [w32_id (by omega) (by omega)]; rfl
    refine v14_5 ?_
    rw [hP.steps]
    refine ⟨fun h => by omega, fun h => ⟨by omega, by omega, fun g => ?_, fun g => ?_⟩⟩
    · rw [Int.toNat_natCast, (hP.step i h).1] at g
      rw [e]
      rintro _ rfl
      have := ih (i + 1) (by omega)
      rwa [show vDh G t m (i + 1) = vDh G t m i by rw [vDh, if_neg g]] at this
    · rw [Int.toNat_natCast, (hP.step i h).1] at g
      refine pC1.of (by omega) (s13 hP hL hD h h0 h1) ?_
      rw [e, pmx_eq]
      rintro _ rfl _ rfl
      have := ih (i + 1) (by omega)
      rwa [show vDh G t m (i + 1) = max (vDh G t m i) (vHt G i m) by rw [vDh, if_pos g]] at this
theorem s137 {d : Nat} {G : pG} {x y : Int} (hP : rPart G) (hL : rPl G) (hD : rDisc G) (hd : 2 ≤ d) : pRuns pMT d 137 [pR 0, pI x, pI y] Yc G (some (pI (if (0 ≤ x ∧ x ≤ G 109 10 - 1) ∧ 0 ≤ y ∧ y ≤ 99 then vDsc G x y else -2))) G := by
  refine pRuns.of rfl rfl (v137_0 (pC1.of (by omega) (s120 hP (by omega)) ⟨fun h => ?_, fun h => ?_⟩))
  · exact rI (by rw [if_neg (fun q => b2i_0.mp h q.1)]) rfl
  · refine pC1.of (by omega) (s122 (by omega)) ⟨fun g => ?_, fun g => ?_⟩
    · exact rI (by rw [if_neg (fun q => b2i_0.mp g q.2)]) rfl
    · have h := b2i_n0.mp h
      have g := b2i_n0.mp g
      exact pC1.of (by omega) (s14 hP hL hD g.1 g.2 (by omega)) (rI (by rw [if_pos ⟨h, g⟩]) rfl)
theorem s211 {d : Nat} {G : pG} {x y : Int} (hP : rPart G) (hL : rPl G) (hd : 4 ≤ d) : pRuns pMT d 211 [pR 109, pI x, pI y] Yc G (some (pI (if (0 ≤ x ∧ x ≤ G 109 10 - 1) ∧ 0 ≤ y ∧ y ≤ 99 then vDsc G x y else -2))) G := by
  refine pRuns.of rfl rfl (v211_0 (pC1.of (by omega) (s199 hP (by omega)) ⟨fun h => ?_, fun h => ?_⟩))
  · exact rI (by rw [if_neg (fun q => b2i_0.mp h q.1)]) rfl
  · refine pC1.of (by omega) (s210 (by omega)) ⟨fun g => ?_, fun g => ?_⟩
    · exact rI (by rw [if_neg (fun q => b2i_0.mp g q.2)]) rfl
    · have h := b2i_n0.mp h
      have g := b2i_n0.mp g
      exact pC1.of (by omega) (s209 hP hL g.1 g.2 (by omega)) (rI (by rw [if_pos ⟨h, g⟩]) rfl)
theorem pr_height {Rel : pG → Prop} (hP : ∀ G, Rel G → rPart G ∧ rPl G ∧ rDisc G) (x y : Int) : pPr Rel 137 211 [pI x, pI y] := pPr.ro fun G hR => ⟨_, s137 (hP G hR).1 (hP G hR).2.1 (hP G hR).2.2 (by omega), s211 (hP G hR).1 (hP G hR).2.1 (by omega)⟩
theorem stp_e {G : pG} (hP : rPart G) (hL : rPl G) {k : Nat} (hk : (k : Int) < G 109 11) : w32 (G 113 (G 115 k).toNat * w32 (vTop G k - vUp G k)) = G 113 (G 115 k).toNat * (vTop G k - vUp G k) := by
  obtain ⟨a1, a2, a3, a4, a5⟩ := marks hP hL hk
  obtain ⟨-, -, -, -, u1, u2, u3, u4, -⟩ := hP.step k hk
  obtain ⟨-, -, -, -, -, t1, t2, -⟩ := hP.tool (G 115 k).toNat (by omega)
  have hm := mulb (A := 60) (B := 100) (show 0 ≤ G 113 (G 115 k).toNat by omega) t2 (show 0 ≤ vTop G k - vUp G k by omega) (by omega)
  rw [w32_id (x := vTop G k - vUp G k) (by omega) (by omega), w32_id (by omega) (by omega)]
/-- steep -/
def vStp (G : pG) (k : Nat) : Bool := decide (G 113 (G 115 k).toNat * (vTop G k - vUp G k) < G 116 k)
theorem s212 {d : Nat} {G : pG} {k : Nat} (hP : rPart G) (hL : rPl G) (hk : (k : Int) < G 109 11) (hd : 2 ≤ d) : pRuns pMT d 212 [pR 109, pI (k : Int)] Yc G (some (pI (b2i (vStp G k = true)))) G := by
  have := hP.n1
  have := hP.t1
  obtain ⟨-, -, -, -, u1, u2, -⟩ := hP.step k hk
  refine pRuns.of rfl rfl (v212_0 ?_)
  rw [Int.toNat_natCast]
  refine ⟨by omega, by omega, by omega, by omega, by omega, by omega, pC1.of (by omega) (s206 hP hL hk (by omega)) (pC1.of (by omega) (s205 hP hL hk (by omega)) ?_)⟩
  rw [stp_e hP hL hk]
  exact ⟨fun h => ⟨Or.inl rfl, q0 (fun q => by have := of_decide_eq_true q; omega), rfl⟩, fun h => ⟨Or.inr rfl, q1 (decide_eq_true h), rfl⟩⟩
theorem s15 {d : Nat} {G : pG} {k : Nat} (hP : rPart G) (hL : rPl G) (hD : rDisc G) (hk : (k : Int) < G 109 11) : pRuns pMT d 15 [pR 39, pI (k : Int)] Yc G (some (pI (b2i (vStp G k = true)))) G := by
  have := hP.n1
  have := hP.t1
  obtain ⟨f1, f2, -, -, u1, u2, -⟩ := hP.step k hk
  obtain ⟨-, t0, -, -, -, t1, t2, -⟩ := hP.tool (G 115 k).toNat (by omega)
  obtain ⟨d1, d2, d3⟩ := hD k hk
  refine pRuns.of rfl rfl (v15_0 ?_)
  rw [Int.toNat_natCast, f1, f2, t0, d1, d2, stp_e hP hL hk]
  refine ⟨by omega, by omega, by omega, by omega, by omega, by omega, by omega, by omega, by omega, by omega, ?_⟩
  exact ⟨fun h => ⟨Or.inl rfl, q0 (fun q => by have := of_decide_eq_true q; omega), rfl⟩, fun h => ⟨Or.inr rfl, q1 (decide_eq_true h), rfl⟩⟩
/-- one among the first n -/
def vAny (P : Nat → Bool) : Nat → Bool
  | 0 => false
  | n + 1 => vAny P n || P n
theorem vAny_ex (P : Nat → Bool) : ∀ n : Nat, vAny P n = true ↔ ∃ j, j < n ∧ P j = true
  | 0 => by simp [vAny]
  | n + 1 => by
    rw [vAny, Bool.or_eq_true, vAny_ex P n]
    constructor
    · rintro (⟨j, h1, h2⟩ | h)
      · exact ⟨j, by omega, h2⟩
      · exact ⟨n, by omega, h⟩
    · rintro ⟨j, h1, h2⟩
      by_cases e : j = n
      · subst e; exact Or.inr h2
      · exact Or.inl ⟨j, by omega, h2⟩
theorem vAny_no {P : Nat → Bool} {n : Nat} (h : ∀ j, j < n → P j = false) : vAny P n = false := by
  cases e : vAny P n with
  | false => rfl
  | true => obtain ⟨j, h1, h2⟩ := (vAny_ex P n).mp e; rw [h j h1] at h2; exact absurd h2 (by decide)
/-- late, by step j -/
def vLt1 (G : pG) (k j : Nat) : Bool := decide (j ≠ k ∧ G 115 j = G 115 k ∧ 0 < vHt G j (vUp G k))
def vLate (G : pG) (k : Nat) : Bool := vAny (vLt1 G k) (G 109 11).toNat
theorem s213 {d : Nat} {G : pG} {k : Nat} (hP : rPart G) (hL : rPl G) (hk : (k : Int) < G 109 11) (hd : 3 ≤ d) : pRuns pMT d 213 [pR 109, pI (k : Int)] Yc G (some (pI (b2i (vLate G k = true)))) G := by
  have n0 := hP.n0
  have n1 := hP.n1
  obtain ⟨a1, a2, -⟩ := marks hP hL hk
  refine pRuns.of rfl rfl (v213_0 ?_)
  suffices H : ∀ (n i : Nat), (i : Int) + n = G 109 11 → (∀ j, j < i → vLt1 G k j = false) → pEnds pMT d 213 Yc (fun r' g => r' = some (pI (b2i (vLate G k = true))) ∧ g = G) 2 [pR 109, pI (k : Int), pI (i : Int)] [] G by
    rintro _ rfl
    exact H (G 109 11).toNat 0 (by omega) (fun j hj => by omega)
  intro n
  induction n with
  | zero => exact fun i hi hn => v213_2 ⟨fun _ => ⟨Or.inl rfl, q0 (by unfold vLate; rw [show (G 109 11).toNat = i by omega, vAny_no hn]; decide), rfl⟩, fun h => by omega⟩
  | succ n ih =>
    intro i hi hn
    have e : w32 ((i : Int) + 1) = ((i + 1 : Nat) : Int) := by rw [w32_id (by omega) (by omega)]; rfl
    have nx : vLt1 G k i = false → pEnds pMT d 213 Yc (fun r' g => r' = some (pI (b2i (vLate G k = true))) ∧ g = G) 2 [pR 109, pI (k : Int), pI ((i + 1 : Nat) : Int)] [] G := fun q => ih (i + 1) (by omega) (fun j hj => by
      by_cases e : j = i
      · subst e; exact q
      · exact hn j (by omega))
    refine v213_2 ⟨fun h => by omega, fun h => ⟨fun g => ?_, fun g => ⟨by omega, by omega, by omega, by omega, fun g2 => ?_, fun g2 => ?_⟩⟩⟩
    · rw [e]
      rintro _ rfl
      exact nx (decide_eq_false (fun q => q.1 (by omega)))
    · rw [e]
      rintro _ rfl
      rw [Int.toNat_natCast, Int.toNat_natCast] at g2
      exact nx (decide_eq_false (fun q => g2 q.2.1))
    · rw [Int.toNat_natCast, Int.toNat_natCast] at g2
      refine pC1.of (by omega) (s205 hP hL hk (by omega)) ⟨by omega, ?_⟩
      rw [prem_id (by omega) (by omega) (by omega) (by omega), Int.tmod_eq_emod_of_nonneg (by omega), Int.emod_eq_of_lt (by omega) (by omega)]
      refine pC1.of (by omega) (s208 hP hL h (by omega) (by omega) (by omega)) ⟨fun g3 => ?_, fun g3 => ?_⟩
      · rw [e]
        rintro _ rfl
        exact nx (decide_eq_false (fun q => by have := q.2.2; omega))
      · exact ⟨Or.inr rfl, q1 ((vAny_ex _ _).mpr ⟨i, by omega, decide_eq_true ⟨by omega, g2, g3⟩⟩), rfl⟩
theorem s16 {d : Nat} {G : pG} {k : Nat} (hP : rPart G) (hL : rPl G) (hD : rDisc G) (hk : (k : Int) < G 109 11) (hd : 1 ≤ d) : pRuns pMT d 16 [pR 39, pI (k : Int)] Yc G (some (pI (b2i (vLate G k = true)))) G := by
  have n0 := hP.n0
  have n1 := hP.n1
  obtain ⟨a1, a2, -⟩ := marks hP hL hk
  refine pRuns.of rfl rfl (v16_0 ?_)
  suffices H : ∀ (n i : Nat), (i : Int) + n = G 109 11 → (∀ j, j < i → vLt1 G k j = false) → pEnds pMT d 16 Yc (fun r' g => r' = some (pI (b2i (vLate G k = true))) ∧ g = G) 2 [pR 39, pI (k : Int), pI (i : Int)] [] G by
    rintro _ rfl
    exact H (G 109 11).toNat 0 (by omega) (fun j hj => by omega)
  intro n
  induction n with
  | zero => exact fun i hi hn => v16_2 (by rw [hP.steps]; exact ⟨fun _ => ⟨Or.inl rfl, q0 (by unfold vLate; rw [show (G 109 11).toNat = i by omega, vAny_no hn]; decide), rfl⟩, fun h => by omega⟩)
  | succ n ih =>
    intro i hi hn
    have e : w32 ((i : Int) + 1) = ((i + 1 : Nat) : Int) := by rw [w32_id (by omega) (by omega)]; rfl
    have nx : vLt1 G k i = false → pEnds pMT d 16 Yc (fun r' g => r' = some (pI (b2i (vLate G k = true))) ∧ g = G) 2 [pR 39, pI (k : Int), pI ((i + 1 : Nat) : Int)] [] G := fun q => ih (i + 1) (by omega) (fun j hj => by
      by_cases e : j = i
      · subst e; exact q
      · exact hn j (by omega))
    refine v16_2 ?_
    rw [hP.steps]
    refine ⟨fun h => by omega, fun h => ⟨fun g => ?_, fun g => ⟨by omega, by omega, by omega, by omega, fun g2 => ?_, fun g2 => ⟨by omega, by omega, ?_⟩⟩⟩⟩
    · rw [e]
      rintro _ rfl
      exact nx (decide_eq_false (fun q => q.1 (by omega)))
    · rw [e]
      rintro _ rfl
      rw [Int.toNat_natCast, Int.toNat_natCast, (hP.step i h).1, (hP.step k hk).1] at g2
      exact nx (decide_eq_false (fun q => g2 q.2.1))
    · rw [Int.toNat_natCast, Int.toNat_natCast, (hP.step i h).1, (hP.step k hk).1] at g2
      rw [Int.toNat_natCast, (hD k hk).1]
      refine pC1.of (by omega) (s13 hP hL hD h (by omega) (by omega)) ⟨fun g3 => ?_, fun g3 => ?_⟩
      · rw [e]
        rintro _ rfl
        exact nx (decide_eq_false (fun q => by have := q.2.2; omega))
      · exact ⟨Or.inr rfl, q1 ((vAny_ex _ _).mpr ⟨i, by omega, decide_eq_true ⟨by omega, g2, g3⟩⟩), rfl⟩
/-- lobe(k, what) -/
def vLobe (G : pG) (k : Nat) (x : Int) : Int := if x = 0 then vUp G k else if x = 1 then vTop G k else if x = 2 then vDn G k else if x = 3 then b2i (vStp G k = true) else if x = 4 then b2i (vLate G k = true) else -2
theorem s138 {d : Nat} {G : pG} {x y : Int} (hP : rPart G) (hL : rPl G) (hD : rDisc G) (hd : 2 ≤ d) : pRuns pMT d 138 [pR 0, pI x, pI y] Yc G (some (pI (if 0 ≤ x ∧ x ≤ G 109 11 - 1 then vLobe G x.toNat y else -2))) G := by
  have n1 := hP.n1
  refine pRuns.of rfl rfl (v138_0 (pC1.of (by omega) (s121 hP (by omega)) ⟨fun h => ?_, fun h => ?_⟩))
  · have h := b2i_n0.mp h
    rw [if_pos h]
    have ex : x = ((x.toNat : Nat) : Int) := by omega
    obtain ⟨d1, d2, d3⟩ := hD x.toNat (by omega)
    unfold vLobe
    refine ⟨fun g => rI (by rw [if_neg (by omega), if_neg (by omega), if_neg (by omega), if_neg (by omega), if_neg (by omega)]) rfl, fun g => ⟨fun g0 => ?_, fun g0 => ⟨fun g1 => ?_, fun g1 => ⟨fun g2 => ?_, fun g2 => ⟨fun g3 => ?_, fun g3 => ⟨fun g4 => ?_, fun g4 => by omega⟩⟩⟩⟩⟩⟩
    · exact ⟨by omega, by omega, rI (by rw [if_pos g0, d1]) rfl⟩
    · exact ⟨by omega, by omega, rI (by rw [if_neg g0, if_pos g1, d2]) rfl⟩
    · exact ⟨by omega, by omega, rI (by rw [if_neg g0, if_neg g1, if_pos g2, d3]) rfl⟩
    · rw [if_neg g0, if_neg g1, if_neg g2, if_pos g3]
      generalize hq : x.toNat = q at *
      subst ex
      exact pC1.of (by omega) (s15 hP hL hD (by omega)) ⟨fun q => rI q.symm rfl, fun q => rI (by rw [b2i_t (b2i_n0.mp q)]) rfl⟩
    · rw [if_neg g0, if_neg g1, if_neg g2, if_neg g3, if_pos g4]
      generalize hq : x.toNat = q at *
      subst ex
      exact pC1.of (by omega) (s16 hP hL hD (by omega) (by omega)) ⟨fun q => rI q.symm rfl, fun q => rI (by rw [b2i_t (b2i_n0.mp q)]) rfl⟩
  · rw [if_neg (b2i_0.mp h)]
    exact rI rfl rfl
theorem s214 {d : Nat} {G : pG} {x y : Int} (hP : rPart G) (hL : rPl G) (hd : 4 ≤ d) : pRuns pMT d 214 [pR 109, pI x, pI y] Yc G (some (pI (if 0 ≤ x ∧ x ≤ G 109 11 - 1 then vLobe G x.toNat y else -2))) G := by
  have n1 := hP.n1
  refine pRuns.of rfl rfl (v214_0 (pC1.of (by omega) (s198 hP (by omega)) ⟨fun h => ?_, fun h => ?_⟩))
  · rw [if_neg (b2i_0.mp h)]
    exact rI rfl rfl
  · have h := b2i_n0.mp h
    rw [if_pos h]
    have ex : x = ((x.toNat : Nat) : Int) := by omega
    unfold vLobe
    generalize hq : x.toNat = q at *
    subst ex
    refine pC1.of (by omega) s166 ⟨fun g => ⟨fun g1 => ?_, fun g1 => ⟨fun k0 => ?_, fun k0 => ⟨fun k1 => ?_, fun k1 => ⟨fun k2 => ?_, fun k2 => ⟨fun k3 => ?_, fun k3 => by omega⟩⟩⟩⟩⟩, fun g => ?_⟩
    · have g := b2i_n0.mp g
      rw [if_neg (by omega), if_neg (by omega), if_neg (by omega), if_neg (by omega), if_pos (by omega)]
      exact pC1.of (by omega) (s213 hP hL (by omega) (by omega)) ⟨fun q => rI q.symm rfl, fun q => rI (by rw [b2i_t (b2i_n0.mp q)]) rfl⟩
    · rw [if_pos k0]
      exact pC1.of (by omega) (s205 hP hL (by omega) (by omega)) (rI rfl rfl)
    · rw [if_neg k0, if_pos k1]
      exact pC1.of (by omega) (s206 hP hL (by omega) (by omega)) (rI rfl rfl)
    · rw [if_neg k0, if_neg k1, if_pos k2]
      exact pC1.of (by omega) (s207 hP hL (by omega) (by omega)) (rI rfl rfl)
    · rw [if_neg k0, if_neg k1, if_neg k2, if_pos k3]
      exact pC1.of (by omega) (s212 hP hL (by omega) (by omega)) ⟨fun q => rI q.symm rfl, fun q => rI (by rw [b2i_t (b2i_n0.mp q)]) rfl⟩
    · have g := b2i_0.mp g
      rw [if_neg (by omega), if_neg (by omega), if_neg (by omega), if_neg (by omega), if_neg (by omega)]
      exact rI rfl rfl
theorem pr_lobe {Rel : pG → Prop} (hP : ∀ G, Rel G → rPart G ∧ rPl G ∧ rDisc G) (x y : Int) : pPr Rel 138 214 [pI x, pI y] := pPr.ro fun G hR => ⟨_, s138 (hP G hR).1 (hP G hR).2.1 (hP G hR).2.2 (by omega), s214 (hP G hR).1 (hP G hR).2.1 (by omega)⟩
/-- the bits of those that are -/
def vBits (P : Nat → Bool) : Nat → Int
  | 0 => 0
  | n + 1 => if P n = true then por (vBits P n) (pshl 1 (n : Int)) else vBits P n
theorem vBits_t {P : Nat → Bool} {n : Nat} (h : P n = true) : vBits P (n + 1) = por (vBits P n) (pshl 1 (n : Int)) := by rw [vBits, if_pos h]
theorem vBits_f {P : Nat → Bool} {n : Nat} (h : P n = false) : vBits P (n + 1) = vBits P n := by rw [vBits, if_neg (by rw [h]; decide)]
def vWr (G : pG) (x : Int) (k : Nat) : Bool := if x = 0 then vStp G k else vLate G k
theorem s139 {d : Nat} {G : pG} {x : Int} (hP : rPart G) (hL : rPl G) (hD : rDisc G) (hd : 2 ≤ d) : pRuns pMT d 139 [pR 0, pI x] Yc G (some (pI (if x = 0 ∨ x = 1 then vBits (vWr G x) (G 109 11).toNat else -1))) G := by
  have n0 := hP.n0
  have n1 := hP.n1
  suffices H : x = 0 ∨ x = 1 → ∀ (n i : Nat), (i : Int) + n = G 109 11 → pEnds pMT d 139 Yc (fun r' g => r' = some (pI (if x = 0 ∨ x = 1 then vBits (vWr G x) (G 109 11).toNat else -1)) ∧ g = G) 15 [pR 0, pI x, pI (vBits (vWr G x) i), pI (i : Int)] [] G by
    refine pRuns.of rfl rfl (v139_0 ⟨fun h => ?_, fun h => ⟨fun h1 => ?_, fun h1 => rI (by rw [if_neg (by omega)]) rfl⟩⟩)
    · rintro _ rfl _ rfl
      exact H (Or.inl h) (G 109 11).toNat 0 (by omega)
    · rintro _ rfl _ rfl
      exact H (Or.inr h1) (G 109 11).toNat 0 (by omega)
  intro hx n
  induction n with
  | zero => exact fun i hi => v139_15 (by rw [hP.steps]; exact ⟨fun _ => rI (by rw [if_pos hx, show (G 109 11).toNat = i by omega]) rfl, fun h => by omega⟩)
  | succ n ih =>
    intro i hi
    have e : w32 ((i : Int) + 1) = ((i + 1 : Nat) : Int) := by rw [w32_id (by omega) (by omega)]; rfl
    have nx := ih (i + 1) (by omega)
    refine v139_15 ?_
    rw [hP.steps, e]
    refine ⟨fun h => by omega, fun h => ⟨fun g => ?_, fun g => ?_⟩⟩
    · refine pC1.of (by omega) (s16 hP hL hD h (by omega)) ⟨fun k1 => ?_, fun k1 => ?_⟩
      · have k1 := b2i_0.mp k1
        rintro _ rfl
        rwa [vBits_f (by unfold vWr; rw [if_neg g]; exact Bool.eq_false_iff.mpr k1)] at nx
      · have k1 := b2i_n0.mp k1
        rintro _ rfl _ rfl
        rwa [vBits_t (by unfold vWr; rwa [if_neg g])] at nx
    · refine pC1.of (by omega) (s15 hP hL hD h) ⟨fun k1 => ?_, fun k1 => ?_⟩
      · have k1 := b2i_0.mp k1
        rintro _ rfl
        rwa [vBits_f (by unfold vWr; rw [if_pos g]; exact Bool.eq_false_iff.mpr k1)] at nx
      · have k1 := b2i_n0.mp k1
        rintro _ rfl _ rfl
        rwa [vBits_t (by unfold vWr; rwa [if_pos g])] at nx
theorem s215 {d : Nat} {G : pG} {x : Int} (hP : rPart G) (hL : rPl G) (hd : 4 ≤ d) : pRuns pMT d 215 [pR 109, pI x] Yc G (some (pI (if x = 0 ∨ x = 1 then vBits (vWr G x) (G 109 11).toNat else -1))) G := by
  have n0 := hP.n0
  have n1 := hP.n1
  suffices H : x = 0 ∨ x = 1 → ∀ (n i : Nat), (i : Int) + n = G 109 11 → pEnds pMT d 215 Yc (fun r' g => r' = some (pI (if x = 0 ∨ x = 1 then vBits (vWr G x) (G 109 11).toNat else -1)) ∧ g = G) 16 [pR 109, pI x, pI (vBits (vWr G x) i), pI (i : Int)] [] G by
    refine pRuns.of rfl rfl (v215_0 (pC1.of (by omega) s166 ⟨fun h => ?_, fun h => rI (by have := b2i_0.mp h; rw [if_neg (by omega)]) rfl⟩))
    rintro _ rfl _ rfl
    exact H (by have := b2i_n0.mp h; omega) (G 109 11).toNat 0 (by omega)
  intro hx n
  induction n with
  | zero => exact fun i hi => v215_16 ⟨fun _ => rI (by rw [if_pos hx, show (G 109 11).toNat = i by omega]) rfl, fun h => by omega⟩
  | succ n ih =>
    intro i hi
    have e : w32 ((i : Int) + 1) = ((i + 1 : Nat) : Int) := by rw [w32_id (by omega) (by omega)]; rfl
    have nx := ih (i + 1) (by omega)
    refine v215_16 ?_
    rw [e]
    refine ⟨fun h => by omega, fun h => ⟨fun g => ?_, fun g => ?_⟩⟩
    · refine pC1.of (by omega) (s213 hP hL h (by omega)) ⟨fun k1 => ?_, fun k1 => ?_⟩
      · have k1 := b2i_0.mp k1
        rintro _ rfl
        rwa [vBits_f (by unfold vWr; rw [if_neg g]; exact Bool.eq_false_iff.mpr k1)] at nx
      · have k1 := b2i_n0.mp k1
        rintro _ rfl _ rfl
        rwa [vBits_t (by unfold vWr; rwa [if_neg g])] at nx
    · refine pC1.of (by omega) (s212 hP hL h (by omega)) ⟨fun k1 => ?_, fun k1 => ?_⟩
      · have k1 := b2i_0.mp k1
        rintro _ rfl
        rwa [vBits_f (by unfold vWr; rw [if_pos g]; exact Bool.eq_false_iff.mpr k1)] at nx
      · have k1 := b2i_n0.mp k1
        rintro _ rfl _ rfl
        rwa [vBits_t (by unfold vWr; rwa [if_pos g])] at nx
theorem pr_wrong {Rel : pG → Prop} (hP : ∀ G, Rel G → rPart G ∧ rPl G ∧ rDisc G) (x : Int) : pPr Rel 139 215 [pI x] := pPr.ro fun G hR => ⟨_, s139 (hP G hR).1 (hP G hR).2.1 (hP G hR).2.2 (by omega), s215 (hP G hR).1 (hP G hR).2.1 (by omega)⟩
/-- slope(t): a fold that may stop -/
def vSl (G : pG) (t : Int) : Nat → Option Int
  | 0 => some 1
  | n + 1 => match vSl G t n with
    | none => none
    | some v => if G 115 n = t then (if vTop G n - vUp G n = 0 then none else some (max v ((G 116 n + (vTop G n - vUp G n) - 1) / (vTop G n - vUp G n)))) else some v
def vSlp (G : pG) (t : Int) : Int := match vSl G t (G 109 11).toNat with
  | none => -1
  | some v => if v ≤ 60 then v else -1
theorem vSl_none {G : pG} {t : Int} {i : Nat} (h : vSl G t i = none) : ∀ n : Nat, i ≤ n → vSl G t n = none := by
  intro n
  induction n with
  | zero => intro h2; rwa [show i = 0 by omega] at h
  | succ n ih =>
    intro h2
    by_cases e : i = n + 1
    · rwa [← e]
    · rw [vSl, ih (by omega)]
theorem sl_e {r c : Int} (h1 : 1 ≤ r) (h2 : r ≤ 400) (h3 : 0 < c) (h4 : c ≤ 100) : pdiv (w32 (w32 (r + c) - 1)) c = (r + c - 1) / c := by
  rw [w32_id (x := r + c) (by omega) (by omega), w32_id (by omega) (by omega), pdiv_id (by omega) (by omega) (by omega) (by omega), Int.tdiv_eq_ediv_of_nonneg (by omega)]
theorem s216 {d : Nat} {G : pG} {x : Int} (hP : rPart G) (hL : rPl G) (hd : 4 ≤ d) : pRuns pMT d 216 [pR 109, pI x] Yc G (some (pI (if 0 ≤ x ∧ x ≤ G 109 10 - 1 then vSlp G x else -2))) G := by
  have n0 := hP.n0
  have n1 := hP.n1
  suffices H : 0 ≤ x ∧ x ≤ G 109 10 - 1 → ∀ (n i : Nat) (v : Int), (i : Int) + n = G 109 11 → vSl G x i = some v → pEnds pMT d 216 Yc (fun r' g => r' = some (pI (if 0 ≤ x ∧ x ≤ G 109 10 - 1 then vSlp G x else -2)) ∧ g = G) 15 [pR 109, pI x, pI v, pI (i : Int), pU] [] G by
    refine pRuns.of rfl rfl (v216_0 (pC1.of (by omega) (s199 hP (by omega)) ⟨fun h => ?_, fun h => rI (by rw [if_neg (b2i_0.mp h)]) rfl⟩))
    rintro _ rfl _ rfl
    exact H (b2i_n0.mp h) (G 109 11).toNat 0 1 (by omega) rfl
  intro hx n
  induction n with
  | zero =>
    intro i v hi hv
    refine v216_15 ⟨fun _ => ?_, fun h => by omega⟩
    have e1 : vSlp G x = if v ≤ 60 then v else -1 := by unfold vSlp; rw [show (G 109 11).toNat = i by omega, hv]
    exact ⟨fun h => rI (by rw [if_pos hx, e1, if_pos h]) rfl, fun h => rI (by rw [if_pos hx, e1, if_neg (by omega)]) rfl⟩
  | succ n ih =>
    intro i v hi hv
    have e : w32 ((i : Int) + 1) = ((i + 1 : Nat) : Int) := by rw [w32_id (by omega) (by omega)]; rfl
    refine v216_15 ?_
    rw [e]
    refine ⟨fun h => by omega, fun h => ⟨by omega, by omega, fun g => ?_, fun g => ?_⟩⟩
    · rw [Int.toNat_natCast] at g
      obtain ⟨a1, a2, a3, a4, a5⟩ := marks hP hL h
      obtain ⟨-, -, -, -, u1, u2, u3, u4, -⟩ := hP.step i h
      refine pC1.of (by omega) (s206 hP hL h (by omega)) (pC1.of (by omega) (s205 hP hL h (by omega)) ?_)
      rw [w32_id (by omega) (by omega), Int.toNat_natCast]
      rintro c hc
      refine ⟨fun k1 => ⟨by omega, by omega, k1, ?_⟩, fun k1 => rI ?_ rfl⟩
      · rw [sl_e u3 u4 (by omega) (by omega), pmx_eq]
        rintro _ rfl _ rfl
        exact ih (i + 1) _ (by omega) (by rw [vSl, hv]; show (if _ then _ else _) = _; rw [if_pos g, ← hc, if_neg k1])
      · rw [if_pos hx]
        have : vSl G x (i + 1) = none := by rw [vSl, hv]; show (if _ then _ else _) = _; rw [if_pos g, ← hc, if_pos k1]
        unfold vSlp
        rw [vSl_none this (G 109 11).toNat (by omega)]
    · rw [Int.toNat_natCast] at g
      rintro _ rfl
      exact ih (i + 1) _ (by omega) (by rw [vSl, hv]; show (if _ then _ else _) = _; rw [if_neg g])
theorem s17 {d : Nat} {G : pG} {x : Int} (hP : rPart G) (hL : rPl G) (hD : rDisc G) : pRuns pMT d 17 [pR 39, pI x] Yc G (some (pI (vSlp G x))) G := by
  have n0 := hP.n0
  have n1 := hP.n1
  suffices H : ∀ (n i : Nat) (v : Int), (i : Int) + n = G 109 11 → vSl G x i = some v → pEnds pMT d 17 Yc (fun r' g => r' = some (pI (vSlp G x)) ∧ g = G) 4 [pR 39, pI x, pI v, pI (i : Int), pU] [] G by
    refine pRuns.of rfl rfl (v17_0 ?_)
    rintro _ rfl _ rfl
    exact H (G 109 11).toNat 0 1 (by omega) rfl
  intro n
  induction n with
  | zero =>
    intro i v hi hv
    refine v17_4 ?_
    rw [hP.steps]
    refine ⟨fun _ => ?_, fun h => by omega⟩
    have e1 : vSlp G x = if v ≤ 60 then v else -1 := by unfold vSlp; rw [show (G 109 11).toNat = i by omega, hv]
    exact ⟨fun h => rI (by rw [e1, if_pos h]) rfl, fun h => rI (by rw [e1, if_neg (by omega)]) rfl⟩
  | succ n ih =>
    intro i v hi hv
    have e : w32 ((i : Int) + 1) = ((i + 1 : Nat) : Int) := by rw [w32_id (by omega) (by omega)]; rfl
    refine v17_4 ?_
    rw [e, hP.steps]
    refine ⟨fun h => by omega, fun h => ⟨by omega, by omega, fun g => ⟨by omega, by omega, by omega, by omega, ?_⟩, fun g => ?_⟩⟩
    · rw [Int.toNat_natCast, (hP.step i h).1] at g
      obtain ⟨a1, a2, a3, a4, a5⟩ := marks hP hL h
      obtain ⟨-, f2, -, -, u1, u2, u3, u4, -⟩ := hP.step i h
      obtain ⟨d1, d2, d3⟩ := hD i h
      rw [Int.toNat_natCast, d1, d2, f2, w32_id (by omega) (by omega)]
      rintro c hc
      refine ⟨fun k1 => ⟨by omega, by omega, by omega, ?_⟩, fun k1 => rI ?_ rfl⟩
      · rw [sl_e u3 u4 (by omega) (by omega), pmx_eq]
        rintro _ rfl _ rfl
        exact ih (i + 1) _ (by omega) (by rw [vSl, hv]; show (if _ then _ else _) = _; rw [if_pos g, ← hc, if_neg (by omega)])
      · have : vSl G x (i + 1) = none := by rw [vSl, hv]; show (if _ then _ else _) = _; rw [if_pos g, ← hc, if_pos (by omega)]
        unfold vSlp
        rw [vSl_none this (G 109 11).toNat (by omega)]
    · rw [Int.toNat_natCast, (hP.step i h).1] at g
      rintro _ rfl
      exact ih (i + 1) _ (by omega) (by rw [vSl, hv]; show (if _ then _ else _) = _; rw [if_neg g])
theorem s140 {d : Nat} {G : pG} {x : Int} (hP : rPart G) (hL : rPl G) (hD : rDisc G) (hd : 2 ≤ d) : pRuns pMT d 140 [pR 0, pI x] Yc G (some (pI (if 0 ≤ x ∧ x ≤ G 109 10 - 1 then vSlp G x else -2))) G := by
  refine pRuns.of rfl rfl (v140_0 (pC1.of (by omega) (s120 hP (by omega)) ⟨fun h => rI (by rw [if_neg (b2i_0.mp h)]) rfl, fun h => ?_⟩))
  exact pC1.of (by omega) (s17 hP hL hD) (rI (by rw [if_pos (b2i_n0.mp h)]) rfl)
theorem pr_slope {Rel : pG → Prop} (hP : ∀ G, Rel G → rPart G ∧ rPl G ∧ rDisc G) (x : Int) : pPr Rel 140 216 [pI x] := pPr.ro fun G hR => ⟨_, s140 (hP G hR).1 (hP G hR).2.1 (hP G hR).2.2 (by omega), s216 (hP G hR).1 (hP G hR).2.1 (by omega)⟩
