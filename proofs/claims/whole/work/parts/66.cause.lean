/-! causes by their numbers -/
def cDw (G : pG) : Int := 1 + 4 * G 109 11
def cWw (G : pG) : Int := 1 + 60 * G 109 10
def wTool (w : Int) : Int := if w = 0 then -1 else (w - 1) / 60
def wFrom (w : Int) : Int := if w = 0 then 0 else (w - 1) % 60 / 5
def wBy (w : Int) : Int := if w = 0 then 0 else (w - 1) % 5 + 1
def dStep (w : Int) : Int := if w = 0 then -1 else (w - 1) / 4
def dBy (w : Int) : Int := if w = 0 then 0 else (w - 1) % 4 + 1
def vH (G : pG) (n : Int) : Int := n / cDw G / cWw G - 2
def vW (G : pG) (n : Int) : Int := n / cDw G % cWw G
def vD (G : pG) (n : Int) : Int := n % cDw G
/-- what heat h, worn w, dull q tell of part i, step s -/
def vTell (G : pG) (h w q i : Int) (s : Nat) : Int := (h * i).tdiv 5 + (if wTool w = G 115 s ∧ wFrom w ≤ i then wBy w else 0) + (if dStep q = (s : Int) then dBy q * i / 5 else 0)
def vTel (G : pG) (n i : Int) (s : Nat) : Int := vTell G (vH G n) (vW G n) (vD G n) i s
theorem cDw_bd {G : pG} (hP : rPart G) : 1 ≤ cDw G ∧ cDw G ≤ 29 := by
  have := hP.n0
  have := hP.n1
  unfold cDw
  omega
theorem cWw_bd {G : pG} (hP : rPart G) : 1 ≤ cWw G ∧ cWw G ≤ 361 := by
  have := hP.t0
  have := hP.t1
  unfold cWw
  omega
theorem vCau_e {G : pG} (hP : rPart G) : vCau G = 5 * (cDw G * cWw G) ∧ 1 ≤ cDw G * cWw G ∧ cDw G * cWw G ≤ 10469 := by
  obtain ⟨a1, a2⟩ := cDw_bd hP
  obtain ⟨b1, b2⟩ := cWw_bd hP
  have m1 := mulb (A := 29) (B := 361) (show 0 ≤ cDw G by omega) a2 (show 0 ≤ cWw G by omega) b2
  have m2 : 1 * 1 ≤ cDw G * cWw G := Int.mul_le_mul a1 b1 (by omega) (by omega)
  have m3 : 5 * cWw G * cDw G = 5 * (cDw G * cWw G) := by rw [Int.mul_assoc, Int.mul_comm (cWw G)]
  refine ⟨?_, by omega, by omega⟩
  unfold vCau
  show w32 (w32 (5 * cWw G) * cDw G) = _
  rw [w32_id (x := 5 * cWw G) (by omega) (by omega), m3, w32_id (by omega) (by omega)]
theorem cau_bd {G : pG} (hP : rPart G) {n : Int} (h0 : 0 ≤ n) (h1 : n ≤ vCau G - 1) : -2 ≤ vH G n ∧ vH G n ≤ 2 ∧ 0 ≤ vW G n ∧ vW G n < cWw G ∧ 0 ≤ vD G n ∧ vD G n < cDw G := by
  obtain ⟨a1, a2⟩ := cDw_bd hP
  obtain ⟨b1, b2⟩ := cWw_bd hP
  obtain ⟨c1, c2, c3⟩ := vCau_e hP
  have e : n / cDw G / cWw G = n / (cDw G * cWw G) := Int.ediv_ediv_of_nonneg (by omega)
  have k1 : 0 ≤ n / (cDw G * cWw G) := Int.ediv_nonneg h0 (by omega)
  have k2 : n / (cDw G * cWw G) < 5 := Int.ediv_lt_of_lt_mul (by omega) (by omega)
  unfold vH vW vD
  rw [e]
  exact ⟨by omega, by omega, Int.emod_nonneg _ (by omega), Int.emod_lt_of_pos _ (by omega), Int.emod_nonneg _ (by omega), Int.emod_lt_of_pos _ (by omega)⟩
theorem heat_bd {h i : Int} (h1 : -2 ≤ h) (h2 : h ≤ 2) (h3 : 0 ≤ i) (h4 : i ≤ 39) : -78 ≤ h * i ∧ h * i ≤ 78 := by
  have : h = -2 ∨ h = -1 ∨ h = 0 ∨ h = 1 ∨ h = 2 := by omega
  rcases this with rfl | rfl | rfl | rfl | rfl <;> omega
theorem td5 (x : Int) : (0 ≤ x ∧ x.tdiv 5 = x / 5) ∨ (x < 0 ∧ x.tdiv 5 = -((-x) / 5)) := by
  by_cases h : 0 ≤ x
  · exact Or.inl ⟨h, Int.tdiv_eq_ediv_of_nonneg h⟩
  · refine Or.inr ⟨by omega, ?_⟩
    have h2 := Int.neg_tdiv (-x) 5
    rw [Int.neg_neg, Int.tdiv_eq_ediv_of_nonneg (a := -x) (by omega)] at h2
    exact h2
theorem heat_e {h i : Int} (h1 : -2 ≤ h) (h2 : h ≤ 2) (h3 : 0 ≤ i) (h4 : i ≤ 39) : pdiv (w32 (h * i)) 5 = (h * i).tdiv 5 ∧ -15 ≤ (h * i).tdiv 5 ∧ (h * i).tdiv 5 ≤ 15 := by
  have := heat_bd h1 h2 h3 h4
  have := td5 (h * i)
  rw [w32_id (by omega) (by omega), pdiv_id (by omega) (by omega) (by omega) (by omega)]
  exact ⟨rfl, by omega, by omega⟩
theorem s2 {d : Nat} {G : pG} {h i : Int} (h1 : -2 ≤ h) (h2 : h ≤ 2) (h3 : 0 ≤ i) (h4 : i ≤ 39) : pRuns pMT d 2 [pI h, pI i] Yc G (some (pI ((h * i).tdiv 5))) G := pRuns.of rfl rfl (v2_0 ⟨by omega, rI (heat_e h1 h2 h3 h4).1 rfl⟩)
theorem dl_e {q i : Int} (h1 : 1 ≤ q) (h2 : q ≤ 40) (h3 : 0 ≤ i) (h4 : i ≤ 39) : pdiv (w32 (((q - 1) % 4 + 1) * i)) 5 = ((q - 1) % 4 + 1) * i / 5 ∧ 0 ≤ ((q - 1) % 4 + 1) * i / 5 ∧ ((q - 1) % 4 + 1) * i / 5 ≤ 31 := by
  have m := mulb (A := 4) (B := 39) (show 0 ≤ (q - 1) % 4 + 1 by omega) (by omega) h3 h4
  rw [w32_id (by omega) (by omega), pdiv_id (by omega) (by omega) (by omega) (by omega), Int.tdiv_eq_ediv_of_nonneg (by omega)]
  exact ⟨rfl, by omega, by omega⟩
theorem r1_e {q m : Int} (h1 : 1 ≤ q) (h2 : q ≤ 400) (hm : 1 ≤ m) (hm2 : m ≤ 60) : pdiv (w32 (q - 1)) m = (q - 1) / m ∧ prem (w32 (q - 1)) m = (q - 1) % m := by
  rw [w32_id (by omega) (by omega), pdiv_id (by omega) (by omega) (by omega) (by omega), prem_id (by omega) (by omega) (by omega) (by omega), Int.tdiv_eq_ediv_of_nonneg (by omega), Int.tmod_eq_emod_of_nonneg (by omega)]
  exact ⟨rfl, rfl⟩
theorem s247 {d : Nat} {G : pG} {n : Int} (hP : rPart G) (h0 : 0 ≤ n) (h1 : n ≤ vCau G - 1) (hd : 1 ≤ d) : pRuns pMT d 247 [pR 109, pI n] Yc G (some (pI (vH G n))) G := by
  obtain ⟨a1, a2⟩ := cDw_bd hP
  obtain ⟨b1, b2⟩ := cWw_bd hP
  obtain ⟨c1, c2, c3⟩ := vCau_e hP
  obtain ⟨k1, k2, -⟩ := cau_bd hP h0 h1
  have q1 : 0 ≤ n / cDw G := Int.ediv_nonneg h0 (by omega)
  have q2 : n / cDw G ≤ n := Int.ediv_le_self _ h0
  refine pRuns.of rfl rfl (v247_0 (pC1.of hd (s245 hP) ⟨?_, pC1.of hd (s244 hP) ⟨?_, ?_⟩⟩))
  · show ¬ cDw G = 0; omega
  · show ¬ cWw G = 0; omega
  · show _ = some (pI (vH G n)) ∧ _
    have e : pdiv (pdiv n (cDw G)) (cWw G) = n / cDw G / cWw G := by
      rw [pdiv_id (x := n) (by omega) (by omega) (by omega) (by omega), Int.tdiv_eq_ediv_of_nonneg h0, pdiv_id (by omega) (by omega) (by omega) (by omega), Int.tdiv_eq_ediv_of_nonneg q1]
    refine rI ?_ rfl
    show w32 (pdiv (pdiv n (cDw G)) (cWw G) - 2) = _
    rw [e, show n / cDw G / cWw G - 2 = vH G n from rfl, w32_id (by omega) (by omega)]
theorem s248 {d : Nat} {G : pG} {n : Int} (hP : rPart G) (h0 : 0 ≤ n) (h1 : n ≤ vCau G - 1) (hd : 1 ≤ d) : pRuns pMT d 248 [pR 109, pI n] Yc G (some (pI (vW G n))) G := by
  obtain ⟨a1, a2⟩ := cDw_bd hP
  obtain ⟨b1, b2⟩ := cWw_bd hP
  obtain ⟨c1, c2, c3⟩ := vCau_e hP
  have q1 : 0 ≤ n / cDw G := Int.ediv_nonneg h0 (by omega)
  have q2 : n / cDw G ≤ n := Int.ediv_le_self _ h0
  refine pRuns.of rfl rfl (v248_0 (pC1.of hd (s245 hP) ⟨?_, pC1.of hd (s244 hP) ⟨?_, ?_⟩⟩))
  · show ¬ cDw G = 0; omega
  · show ¬ cWw G = 0; omega
  · have e : prem (pdiv n (cDw G)) (cWw G) = n / cDw G % cWw G := by
      rw [pdiv_id (x := n) (by omega) (by omega) (by omega) (by omega), Int.tdiv_eq_ediv_of_nonneg h0, prem_id (by omega) (by omega) (by omega) (by omega), Int.tmod_eq_emod_of_nonneg q1]
    exact rI e rfl
theorem s249 {d : Nat} {G : pG} {n : Int} (hP : rPart G) (h0 : 0 ≤ n) (h1 : n ≤ vCau G - 1) (hd : 1 ≤ d) : pRuns pMT d 249 [pR 109, pI n] Yc G (some (pI (vD G n))) G := by
  obtain ⟨a1, a2⟩ := cDw_bd hP
  obtain ⟨c1, c2, c3⟩ := vCau_e hP
  refine pRuns.of rfl rfl (v249_0 (pC1.of hd (s245 hP) ⟨?_, ?_⟩))
  · show ¬ cDw G = 0; omega
  · have e : prem n (cDw G) = n % cDw G := by
      rw [prem_id (by omega) (by omega) (by omega) (by omega), Int.tmod_eq_emod_of_nonneg h0]
    exact rI e rfl
theorem s251 {d : Nat} {G : pG} {n : Int} (hP : rPart G) (hd : 2 ≤ d) : pRuns pMT d 251 [pR 109, pI n] Yc G (some (pI (b2i (0 ≤ n ∧ n ≤ vCau G - 1)))) G := by
  obtain ⟨c1, c2, c3⟩ := vCau_e hP
  refine pRuns.of rfl rfl (v251_0 (pC1.of (by omega) (s246 hP (by omega)) ?_))
  rw [w64_id (by omega) (by omega)]
  exact pC1.of (by omega) s166 ⟨b2i_01, rfl, rfl⟩
/-- the dull part of what a cause tells -/
theorem s250 {d : Nat} {G : pG} {n i : Int} {s : Nat} (hP : rPart G) (h0 : 0 ≤ n) (h1 : n ≤ vCau G - 1) (h3 : 0 ≤ i) (h4 : i ≤ 39) (hs : (s : Int) < G 109 11) (hd : 2 ≤ d) : pRuns pMT d 250 [pR 109, pI n, pI i, pI (s : Int)] Yc G (some (pI (vTel G n i s))) G := by
  have := hP.n1
  obtain ⟨a1, a2⟩ := cDw_bd hP
  obtain ⟨b1, b2⟩ := cWw_bd hP
  obtain ⟨k1, k2, k3, k4, k5, k6⟩ := cau_bd hP h0 h1
  obtain ⟨e1, e2, e3⟩ := heat_e k1 k2 h3 h4
  refine pRuns.of rfl rfl (v250_0 (pC1.of (by omega) (s248 hP h0 h1 (by omega)) ?_))
  intro w hw
  refine pC1.of (by omega) (s249 hP h0 h1 (by omega)) ?_
  intro q hq
  refine pC1.of (by omega) (s247 hP h0 h1 (by omega)) ⟨by omega, ?_⟩
  intro x hx
  rw [e1] at hx
  rw [← hw] at k3 k4
  rw [← hq] at k5 k6
  have val : vTel G n i s = x + (if wTool w = G 115 s ∧ wFrom w ≤ i then wBy w else 0) + (if dStep q = (s : Int) then dBy q * i / 5 else 0) := by rw [hx, hw, hq]; rfl
  have fin : ∀ (y : Int) (b : Int), y = x + b → 0 ≤ b → b ≤ 5 → b = (if wTool w = G 115 s ∧ wFrom w ≤ i then wBy w else 0) → ((q ≤ 0 → (some (pI y) : Option pV) = some (pI (vTel G n i s)) ∧ G = G) ∧ (0 < q → (¬ (4 : Int) = 0 ∧ ((¬ pdiv (w32 (q - 1)) 4 = (s : Int) → (some (pI y) : Option pV) = some (pI (vTel G n i s)) ∧ G = G) ∧ (pdiv (w32 (q - 1)) 4 = (s : Int) → (¬ (4 : Int) = 0 ∧ (¬ (5 : Int) = 0 ∧ ∀ z : Int, z = w32 (y + pdiv (w32 (w32 (prem (w32 (q - 1)) 4 + 1) * i)) 5) → (some (pI z) : Option pV) = some (pI (vTel G n i s)) ∧ G = G))))))) := by
    intro y b hy hb1 hb2 hb
    rw [← hb] at val
    refine ⟨fun g => rI ?_ rfl, fun g => ⟨by omega, fun g2 => rI ?_ rfl, fun g2 => ⟨by omega, by omega, ?_⟩⟩⟩
    · rw [val, if_neg (by unfold dStep; rw [if_pos (by omega)]; omega)]; omega
    · rw [(r1_e (by omega) (by omega) (by omega) (by omega)).1] at g2
      rw [val, if_neg (by unfold dStep; rw [if_neg (by omega)]; exact g2)]; omega
    · obtain ⟨r1, r2⟩ := r1_e (q := q) (m := 4) (by omega) (by omega) (by omega) (by omega)
      obtain ⟨l1, l2, l3⟩ := dl_e (q := q) (by omega) (by omega) h3 h4
      rw [r1] at g2
      rw [r2, w32_id (x := (q - 1) % 4 + 1) (by omega) (by omega), l1, w32_id (by omega) (by omega)]
      rintro _ rfl
      exact rI (by rw [val, if_pos (by unfold dStep; rw [if_neg (by omega)]; exact g2), show dBy q = (q - 1) % 4 + 1 by unfold dBy; rw [if_neg (by omega)]]; omega) rfl
  refine ⟨fun g => ?_, fun g => ⟨by omega, by omega, by omega, ?_⟩⟩
  · refine fin x 0 (by omega) (by omega) (by omega) ?_
    rw [show wBy w = 0 by unfold wBy; rw [if_pos (by omega)]]; split <;> rfl
  · obtain ⟨r1, r2⟩ := r1_e (q := w) (m := 60) (by omega) (by omega) (by omega) (by omega)
    obtain ⟨-, r3⟩ := r1_e (q := w) (m := 5) (by omega) (by omega) (by omega) (by omega)
    have t1 : wTool w = (w - 1) / 60 := by unfold wTool; rw [if_neg (by omega)]
    have t2 : wFrom w = (w - 1) % 60 / 5 := by unfold wFrom; rw [if_neg (by omega)]
    have t3 : wBy w = (w - 1) % 5 + 1 := by unfold wBy; rw [if_neg (by omega)]
    have t4 : pdiv ((w - 1) % 60) 5 = (w - 1) % 60 / 5 := by rw [pdiv_id (by omega) (by omega) (by omega) (by omega), Int.tdiv_eq_ediv_of_nonneg (by omega)]
    rw [r1, r2, r3, t4, Int.toNat_natCast, w32_id (x := (w - 1) % 5 + 1) (by omega) (by omega), w32_id (x := x + ((w - 1) % 5 + 1)) (by omega) (by omega)]
    refine ⟨fun g2 => fin x 0 (by omega) (by omega) (by omega) (by rw [if_neg (fun p => g2 (by rw [← t1]; exact p.1))]), fun g2 => ⟨by omega, by omega, fun g3 => fin x 0 (by omega) (by omega) (by omega) (by rw [if_neg (fun p => by have := p.2; omega)]), fun g3 => ⟨by omega, ?_⟩⟩⟩
    rintro _ rfl
    exact fin _ ((w - 1) % 5 + 1) rfl (by omega) (by omega) (by rw [if_pos ⟨by omega, by omega⟩, t3])
/-- the cause's object, loaded -/
def vLd (G : pG) (n : Int) : pG := pset (pset (pset (pset (pset (pset G 91 5 (dStep (vD G n))) 91 6 (dBy (vD G n))) 91 2 (wTool (vW G n))) 91 3 (wFrom (vW G n))) 91 4 (wBy (vW G n))) 91 1 (vH G n)
theorem vLd_fr (G : pG) (n : Int) : fr [91] [] G (vLd G n) := (fr.set (by decide) (by decide) _ _ _).trans ((fr.set (by decide) (by decide) _ _ _).trans ((fr.set (by decide) (by decide) _ _ _).trans ((fr.set (by decide) (by decide) _ _ _).trans ((fr.set (by decide) (by decide) _ _ _).trans (fr.set (by decide) (by decide) _ _ _)))))
theorem pset_at (G : pG) (a i : Nat) (v : Int) (b j : Nat) : pset G a i v b j = if b = a then (if j = i then v else G b j) else G b j := by
  unfold pset
  split <;> rfl
theorem vLd_v (G : pG) (n : Int) : vLd G n 91 1 = vH G n ∧ vLd G n 91 2 = wTool (vW G n) ∧ vLd G n 91 3 = wFrom (vW G n) ∧ vLd G n 91 4 = wBy (vW G n) ∧ vLd G n 91 5 = dStep (vD G n) ∧ vLd G n 91 6 = dBy (vD G n) := by
  unfold vLd
  simp [pset_at]
theorem s6 {d : Nat} {G : pG} {q : Int} (h1 : 0 ≤ q) (h2 : q ≤ 40) : pRuns pMT d 6 [pR 91, pI q] Yc G none (pset (pset G 91 5 (dStep q)) 91 6 (dBy q)) := by
  refine pRuns.of rfl rfl (v6_0 ⟨fun g => ⟨by omega, fun _ => ⟨by omega, rfl, ?_⟩, fun g2 => absurd g2 g⟩, fun g => ⟨fun g2 => absurd g g2, fun _ => ⟨rfl, ?_⟩⟩⟩)
  · obtain ⟨r1, r2⟩ := r1_e (q := q) (m := 4) (by omega) (by omega) (by omega) (by omega)
    rw [r1, r2, w32_id (by omega) (by omega)]
    unfold dStep dBy
    rw [if_neg g, if_neg g]
  · unfold dStep dBy
    rw [if_pos g, if_pos g]
theorem s7 {d : Nat} {G : pG} {w : Int} (h1 : 0 ≤ w) (h2 : w ≤ 400) : pRuns pMT d 7 [pR 91, pI w] Yc G none (pset (pset (pset G 91 2 (wTool w)) 91 3 (wFrom w)) 91 4 (wBy w)) := by
  refine pRuns.of rfl rfl (v7_0 ⟨fun g => ⟨by omega, fun _ => ⟨by omega, by omega, fun _ => ⟨by omega, rfl, ?_⟩, fun g2 => absurd g2 g⟩, fun g2 => absurd g2 g⟩, fun g => ⟨fun g2 => absurd g g2, fun _ => ⟨fun g2 => absurd g g2, fun _ => ⟨rfl, ?_⟩⟩⟩⟩)
  · obtain ⟨r1, r2⟩ := r1_e (q := w) (m := 60) (by omega) (by omega) (by omega) (by omega)
    obtain ⟨r3, r4⟩ := r1_e (q := w) (m := 5) (by omega) (by omega) (by omega) (by omega)
    have t4 : prem ((w - 1) / 5) 12 = (w - 1) % 60 / 5 := by rw [prem_id (by omega) (by omega) (by omega) (by omega), Int.tmod_eq_emod_of_nonneg (by omega)]; omega
    rw [r1, r3, r4, t4, w32_id (by omega) (by omega)]
    unfold wTool wFrom wBy
    rw [if_neg g, if_neg g, if_neg g]
  · unfold wTool wFrom wBy
    rw [if_pos g, if_pos g, if_pos g]
theorem s5 {d : Nat} {G : pG} {n : Int} (hP : rPart G) (hd : 2 ≤ d) : pRuns pMT d 5 [pR 91, pI n] Yc G (some (pI (b2i (0 ≤ n ∧ n ≤ vCau G - 1)))) (if 0 ≤ n ∧ n ≤ vCau G - 1 then vLd G n else G) := by
  obtain ⟨a1, a2⟩ := cDw_bd hP
  obtain ⟨b1, b2⟩ := cWw_bd hP
  obtain ⟨c1, c2, c3⟩ := vCau_e hP
  refine pRuns.of rfl rfl (v5_0 (pC1.of (by omega) (s66 hP) ?_))
  intro x2 hx2
  refine pC1.of (by omega) (s65 hP) ?_
  intro x3 hx3
  have e2 : x2 = cDw G := hx2
  have e3 : x3 = cWw G := hx3
  subst e2 e3
  refine pC1.of (by omega) (s67 hP (by omega)) ?_
  rw [w32_id (x := vCau G - 1) (by omega) (by omega)]
  refine pC1.of (by omega) s118 ⟨fun h => ⟨Or.inl rfl, q0 (b2i_0.mp h), by rw [if_neg (b2i_0.mp h)]⟩, fun h => ⟨fun g => absurd g (by omega), fun _ => ⟨fun _ => ?_, fun g => absurd g (by omega)⟩⟩⟩
  have h := b2i_n0.mp h
  rw [if_pos h, b2i_t h]
  obtain ⟨k1, k2, k3, k4, k5, k6⟩ := cau_bd hP h.1 h.2
  have u1 : 0 ≤ n / cDw G := Int.ediv_nonneg h.1 (by omega)
  have u2 : n / cDw G ≤ n := Int.ediv_le_self _ h.1
  have p1 : prem n (cDw G) = vD G n := by rw [prem_id (by omega) (by omega) (by omega) (by omega), Int.tmod_eq_emod_of_nonneg h.1]; rfl
  have p0 : pdiv n (cDw G) = n / cDw G := by rw [pdiv_id (x := n) (by omega) (by omega) (by omega) (by omega), Int.tdiv_eq_ediv_of_nonneg h.1]
  have p2 : prem (n / cDw G) (cWw G) = vW G n := by
    rw [prem_id (by omega) (by omega) (by omega) (by omega), Int.tmod_eq_emod_of_nonneg u1]
    rfl
  have p3 : w32 (pdiv (n / cDw G) (cWw G) - 2) = vH G n := by
    rw [pdiv_id (by omega) (by omega) (by omega) (by omega), Int.tdiv_eq_ediv_of_nonneg u1, show n / cDw G / cWw G - 2 = vH G n from rfl, w32_id (by omega) (by omega)]
  rw [p1, p0, p2, p3]
  exact ⟨by omega, pC0.of (by omega) (s6 k5 (by omega)) ⟨by omega, by omega, pC0.of (by omega) (s7 k3 (by omega)) ⟨by omega, by omega, Or.inr rfl, rfl, rfl⟩⟩⟩
def vCause (G : pG) (n y : Int) : Int := if (0 ≤ n ∧ n ≤ vCau G - 1) ∧ 0 ≤ y ∧ y ≤ 5 then (if y = 0 then vH G n else if y = 1 then wTool (vW G n) else if y = 2 then wFrom (vW G n) else if y = 3 then wBy (vW G n) else if y = 4 then dStep (vD G n) else dBy (vD G n)) else -9
theorem s158 {d : Nat} {G : pG} {n y : Int} (hP : rPart G) (hd : 3 ≤ d) : pRuns pMT d 158 [pR 0, pI n, pI y] Yc G (some (pI (vCause G n y))) (if 0 ≤ n ∧ n ≤ vCau G - 1 then vLd G n else G) := by
  refine pRuns.of rfl rfl (v158_0 (pC1.of (by omega) (s5 hP (by omega)) ⟨fun h => ?_, fun h => rI (by unfold vCause; rw [if_neg (fun q => b2i_0.mp h q.1)]) rfl⟩))
  have h := b2i_n0.mp h
  rw [if_pos h]
  obtain ⟨l1, l2, l3, l4, l5, l6⟩ := vLd_v G n
  unfold vCause
  refine ⟨fun g => rI (by rw [if_neg (by omega)]) rfl, fun g => ?_⟩
  rw [if_pos ⟨h, by omega⟩]
  refine ⟨fun g0 => ?_, fun g0 => ⟨fun g1 => ?_, fun g1 => ⟨fun g2 => ?_, fun g2 => ⟨fun g3 => ?_, fun g3 => ⟨fun g4 => ?_, fun g4 => ⟨fun g5 => ?_, fun g5 => by omega⟩⟩⟩⟩⟩⟩
  · exact rI (by rw [if_pos g0, l1]) rfl
  · exact rI (by rw [if_neg g0, if_pos g1, l2]) rfl
  · exact rI (by rw [if_neg g0, if_neg g1, if_pos g2, l3]) rfl
  · exact rI (by rw [if_neg g0, if_neg g1, if_neg g2, if_pos g3, l4]) rfl
  · exact rI (by rw [if_neg g0, if_neg g1, if_neg g2, if_neg g3, if_pos g4, l5]) rfl
  · exact rI (by rw [if_neg g0, if_neg g1, if_neg g2, if_neg g3, if_neg g4, l6]) rfl
theorem s252 {d : Nat} {G : pG} {n y : Int} (hP : rPart G) (hd : 3 ≤ d) : pRuns pMT d 252 [pR 109, pI n, pI y] Yc G (some (pI (vCause G n y))) G := by
  obtain ⟨a1, a2⟩ := cDw_bd hP
  obtain ⟨b1, b2⟩ := cWw_bd hP
  refine pRuns.of rfl rfl (v252_0 (pC1.of (by omega) (s251 hP (by omega)) ⟨fun h => rI (by unfold vCause; rw [if_neg (fun q => b2i_0.mp h q.1)]) rfl, fun h => ?_⟩))
  have h := b2i_n0.mp h
  obtain ⟨k1, k2, k3, k4, k5, k6⟩ := cau_bd hP h.1 h.2
  refine pC1.of (by omega) s166 ⟨fun g => ?_, fun g => rI (by unfold vCause; rw [if_neg (fun q => b2i_0.mp g q.2)]) rfl⟩
  have g := b2i_n0.mp g
  unfold vCause
  rw [if_pos ⟨h, g⟩]
  refine pC1.of (by omega) (s248 hP h.1 h.2 (by omega)) ?_
  intro w hw
  refine pC1.of (by omega) (s249 hP h.1 h.2 (by omega)) ?_
  intro q hq
  rw [← hw] at k3 k4 ⊢
  rw [← hq] at k5 k6 ⊢
  refine ⟨fun g1 => ?_, fun g1 => ⟨fun y0 => ?_, fun y0 => ⟨fun y1 => ?_, fun y1 => ⟨fun y2 => ?_, fun y2 => ⟨fun y3 => ?_, fun y3 => ⟨fun y4 => ?_, fun y4 => by omega⟩⟩⟩⟩⟩⟩
  · rw [if_neg (by omega), if_neg (by omega), if_neg (by omega), if_neg (by omega), if_neg (by omega)]
    unfold dBy
    refine ⟨fun z => ⟨by omega, rI ?_ rfl⟩, fun z => rI (by rw [if_pos z]) rfl⟩
    rw [if_neg z, (r1_e (by omega) (by omega) (by omega) (by omega)).2, w32_id (by omega) (by omega)]
  · rw [if_pos y0]
    exact pC1.of (by omega) (s247 hP h.1 h.2 (by omega)) (rI rfl rfl)
  · rw [if_neg y0, if_pos y1]
    unfold wTool
    exact ⟨fun z => ⟨by omega, rI (by rw [if_neg z, (r1_e (by omega) (by omega) (by omega) (by omega)).1]) rfl⟩, fun z => rI (by rw [if_pos z]) rfl⟩
  · rw [if_neg y0, if_neg y1, if_pos y2]
    unfold wFrom
    refine ⟨fun z => ⟨by omega, by omega, rI ?_ rfl⟩, fun z => rI (by rw [if_pos z]) rfl⟩
    rw [if_neg z, (r1_e (by omega) (by omega) (by omega) (by omega)).2, pdiv_id (by omega) (by omega) (by omega) (by omega), Int.tdiv_eq_ediv_of_nonneg (by omega)]
  · rw [if_neg y0, if_neg y1, if_neg y2, if_pos y3]
    unfold wBy
    refine ⟨fun z => ⟨by omega, rI ?_ rfl⟩, fun z => rI (by rw [if_pos z]) rfl⟩
    rw [if_neg z, (r1_e (by omega) (by omega) (by omega) (by omega)).2, w32_id (by omega) (by omega)]
  · rw [if_neg y0, if_neg y1, if_neg y2, if_neg y3, if_pos y4]
    unfold dStep
    exact ⟨fun z => ⟨by omega, rI (by rw [if_neg z, (r1_e (by omega) (by omega) (by omega) (by omega)).1]) rfl⟩, fun z => rI (by rw [if_pos z]) rfl⟩
theorem rPart_dep : dep [3, 5, 6, 7, 8, 9, 10, 11, 112, 113, 114, 115, 116, 117, 118] [10, 11, 12, 13] rPart := by
  intro G G' h1 h2 h
  unfold rPart at *
  rw [h1 3 (by decide), h1 5 (by decide), h1 6 (by decide), h1 7 (by decide), h1 8 (by decide), h1 9 (by decide), h1 10 (by decide), h1 11 (by decide), h1 112 (by decide), h1 113 (by decide), h1 114 (by decide), h1 115 (by decide), h1 116 (by decide), h1 117 (by decide), h1 118 (by decide), h2 10 (by decide), h2 11 (by decide), h2 12 (by decide), h2 13 (by decide)]
  exact h
theorem vCause_c {G G' : pG} (h1 : G' 109 10 = G 109 10) (h2 : G' 109 11 = G 109 11) (n y : Int) : vCause G' n y = vCause G n y := by
  unfold vCause vCau vH vW vD cDw cWw
  rw [h1, h2]
theorem pr_cause (n y : Int) : pPx [91] [] rPart (fun _ _ => True) 158 252 [pI n, pI y] := by
  intro G hP
  have f : fr [91] [] G (if 0 ≤ n ∧ n ≤ vCau G - 1 then vLd G n else G) := by
    split
    · exact vLd_fr G n
    · exact fr.refl _ _ _
  refine ⟨_, _, _, s158 hP (by omega), ?_, f, f, trivial⟩
  rw [← vCause_c (f.f 10 (by decide)) (f.f 11 (by decide)) n y]
  exact s252 (f.mv rPart_dep (by decide) (by decide) hP) (by omega)
theorem s8 {d : Nat} {G : pG} {h w q i : Int} {s : Nat} (hP : rPart G) (l1 : G 91 1 = h) (l2 : G 91 2 = wTool w) (l3 : G 91 3 = wFrom w) (l4 : G 91 4 = wBy w) (l5 : G 91 5 = dStep q) (l6 : G 91 6 = dBy q) (k1 : -2 ≤ h) (k2 : h ≤ 2) (k3 : 0 ≤ w) (k5 : 0 ≤ q) (k6 : q ≤ 29) (h3 : 0 ≤ i) (h4 : i ≤ 39) (hs : (s : Int) < G 109 11) (hd : 1 ≤ d) : pRuns pMT d 8 [pR 91, pI i, pI (s : Int)] Yc G (some (pI (vTell G h w q i s))) G := by
  have := hP.n1
  obtain ⟨f1, -⟩ := hP.step s hs
  obtain ⟨e1, e2, e3⟩ := heat_e k1 k2 h3 h4
  have dd : pdiv (w32 (dBy q * i)) 5 = dBy q * i / 5 ∧ 0 ≤ dBy q * i / 5 ∧ dBy q * i / 5 ≤ 31 := by
    unfold dBy
    split
    · rw [Int.zero_mul]; decide
    · exact dl_e (by omega) (by omega) h3 h4
  obtain ⟨d1, d2, d3⟩ := dd
  have wb : 0 ≤ wBy w ∧ wBy w ≤ 5 := by unfold wBy; split <;> omega
  refine pRuns.of rfl rfl (v8_0 ?_)
  rw [l1]
  refine pC1.of (by omega) (s2 k1 k2 h3 h4) ?_
  rw [Int.toNat_natCast, f1, l2, l3, l4, l5, l6, d1]
  intro x hx
  have val : vTell G h w q i s = x + (if wTool w = G 115 s ∧ wFrom w ≤ i then wBy w else 0) + (if dStep q = (s : Int) then dBy q * i / 5 else 0) := by rw [hx]; rfl
  have fin : ∀ (y : Int) (b : Int), y = x + b → 0 ≤ b → b ≤ 5 → b = (if wTool w = G 115 s ∧ wFrom w ≤ i then wBy w else 0) → ((¬ (s : Int) = dStep q → (some (pI y) : Option pV) = some (pI (vTell G h w q i s)) ∧ G = G) ∧ ((s : Int) = dStep q → (¬ (5 : Int) = 0 ∧ ∀ z : Int, z = w32 (y + dBy q * i / 5) → (some (pI z) : Option pV) = some (pI (vTell G h w q i s)) ∧ G = G))) := by
    intro y b hy hb1 hb2 hb
    rw [← hb] at val
    refine ⟨fun g => rI ?_ rfl, fun g => ⟨by omega, ?_⟩⟩
    · rw [val, if_neg (fun e => g e.symm)]; omega
    · rw [w32_id (by omega) (by omega)]
      rintro _ rfl
      exact rI (by rw [val, if_pos g.symm]; omega) rfl
  refine ⟨by omega, by omega, fun g => fin x 0 (by omega) (by omega) (by omega) (by rw [if_neg (fun p => g p.1.symm)]), fun g => ⟨fun g2 => fin x 0 (by omega) (by omega) (by omega) (by rw [if_neg (fun p => by have := p.2; omega)]), fun g2 => ?_⟩⟩
  rw [w32_id (by omega) (by omega)]
  rintro _ rfl
  exact fin _ (wBy w) rfl wb.1 wb.2 (by rw [if_pos ⟨g.symm, g2⟩])
theorem vTel_c {G G' : pG} (h1 : G' 109 10 = G 109 10) (h2 : G' 109 11 = G 109 11) (h3 : G' 115 = G 115) (n i : Int) (s : Nat) : vTel G' n i s = vTel G n i s := by
  unfold vTel vTell vH vW vD cDw cWw
  rw [h1, h2, h3]
theorem s8n {d : Nat} {G : pG} {n i : Int} {s : Nat} (hP : rPart G) (h0 : 0 ≤ n) (h1 : n ≤ vCau G - 1) (h3 : 0 ≤ i) (h4 : i ≤ 39) (hs : (s : Int) < G 109 11) (hd : 1 ≤ d) : pRuns pMT d 8 [pR 91, pI i, pI (s : Int)] Yc (vLd G n) (some (pI (vTel G n i s))) (vLd G n) := by
  obtain ⟨l1, l2, l3, l4, l5, l6⟩ := vLd_v G n
  obtain ⟨k1, k2, k3, k4, k5, k6⟩ := cau_bd hP h0 h1
  obtain ⟨a1, a2⟩ := cDw_bd hP
  have f := vLd_fr G n
  have := s8 (d := d) (G := vLd G n) (i := i) (s := s) (f.mv rPart_dep (by decide) (by decide) hP) l1 l2 l3 l4 l5 l6 k1 k2 k3 k5 (by omega) h3 h4 (by rw [f.f 11 (by decide)]; exact hs) hd
  rw [show vTell (vLd G n) (vH G n) (vW G n) (vD G n) i s = vTel G n i s by unfold vTel vTell; rw [f.c 115 (by decide)]] at this
  exact this
def vTells (G : pG) (n i s : Int) : Int := if (0 ≤ i ∧ i ≤ 39) ∧ (0 ≤ s ∧ s ≤ G 109 11 - 1) ∧ 0 ≤ n ∧ n ≤ vCau G - 1 then vTel G n i s.toNat else -9999
theorem pr_tells (n i s : Int) : pPx [91] [] rPart (fun _ _ => True) 159 253 [pI n, pI i, pI s] := by
  intro G hP
  have r1 : ∃ G', pRuns pMT 59 159 [pR 0, pI n, pI i, pI s] Yc G (some (pI (vTells G n i s))) G' ∧ fr [91] [] G G' := by
    by_cases h1 : 0 ≤ i ∧ i ≤ 39
    · by_cases h2 : 0 ≤ s ∧ s ≤ G 109 11 - 1
      · by_cases h3 : 0 ≤ n ∧ n ≤ vCau G - 1
        · obtain ⟨m, rfl⟩ : ∃ m : Nat, s = (m : Int) := ⟨s.toNat, by omega⟩
          have e5 := s5 (d := 58) (G := G) (n := n) hP (by omega)
          rw [b2i_t h3, if_pos h3] at e5
          refine ⟨vLd G n, pRuns.of rfl rfl (v159_0 (pC1.of (by omega) (s125 (by omega)) ⟨fun q => absurd h1 (b2i_0.mp q), fun _ => pC1.of (by omega) (s121 hP (by omega)) ⟨fun q => absurd h2 (b2i_0.mp q), fun _ => pC1.of (by omega) e5 ⟨fun _ => pC1.of (by omega) (s8n hP h3.1 h3.2 h1.1 h1.2 (by omega) (by omega)) (rI ?_ rfl), fun q => by omega⟩⟩⟩)), vLd_fr G n⟩
          unfold vTells
          rw [if_pos ⟨h1, h2, h3⟩, Int.toNat_natCast]
        · have e5 := s5 (d := 58) (G := G) (n := n) hP (by omega)
          rw [b2i_f h3, if_neg h3] at e5
          refine ⟨G, pRuns.of rfl rfl (v159_0 (pC1.of (by omega) (s125 (by omega)) ⟨fun q => absurd h1 (b2i_0.mp q), fun _ => pC1.of (by omega) (s121 hP (by omega)) ⟨fun q => absurd h2 (b2i_0.mp q), fun _ => pC1.of (by omega) e5 ⟨fun q => absurd rfl q, fun _ => rI ?_ rfl⟩⟩⟩)), fr.refl _ _ _⟩
          unfold vTells
          rw [if_neg (fun q => h3 q.2.2)]
      · refine ⟨G, pRuns.of rfl rfl (v159_0 (pC1.of (by omega) (s125 (by omega)) ⟨fun q => absurd h1 (b2i_0.mp q), fun _ => pC1.of (by omega) (s121 hP (by omega)) ⟨fun _ => rI ?_ rfl, fun q => absurd (b2i_n0.mp q) h2⟩⟩)), fr.refl _ _ _⟩
        unfold vTells
        rw [if_neg (fun q => h2 q.2.1)]
    · refine ⟨G, pRuns.of rfl rfl (v159_0 (pC1.of (by omega) (s125 (by omega)) ⟨fun _ => rI ?_ rfl, fun q => absurd (b2i_n0.mp q) h1⟩)), fr.refl _ _ _⟩
      unfold vTells
      rw [if_neg (fun q => h1 q.1)]
  obtain ⟨G1, r1, f⟩ := r1
  have hP1 := f.mv rPart_dep (by decide) (by decide) hP
  have ev : vTells G1 n i s = vTells G n i s := by
    unfold vTells
    rw [vTel_c (f.f 10 (by decide)) (f.f 11 (by decide)) (f.c 115 (by decide)), f.f 11 (by decide)]
    unfold vCau
    rw [f.f 10 (by decide), f.f 11 (by decide)]
  refine ⟨_, G1, G1, r1, ?_, f, f, trivial⟩
  rw [← ev]
  unfold vTells
  refine pRuns.of rfl rfl (v253_0 (pC1.of (by omega) (s251 hP1 (by omega)) ⟨fun q => rI (by rw [if_neg (fun z => b2i_0.mp q z.2.2)]) rfl, fun q => pC1.of (by omega) (s239 (by omega)) ⟨fun q => rI (by rw [if_neg (fun z => b2i_0.mp q z.1)]) rfl, fun q2 => pC1.of (by omega) (s198 hP1 (by omega)) ⟨fun q => rI (by rw [if_neg (fun z => b2i_0.mp q z.2.1)]) rfl, fun q3 => ?_⟩⟩⟩))
  have q := b2i_n0.mp q
  have q2 := b2i_n0.mp q2
  have q3 := b2i_n0.mp q3
  obtain ⟨m, rfl⟩ : ∃ m : Nat, s = (m : Int) := ⟨s.toNat, by omega⟩
  rw [if_pos ⟨q2, q3, q⟩, Int.toNat_natCast]
  exact pC1.of (by omega) (s250 hP1 q.1 q.2 q2.1 q2.2 (by omega) (by omega)) (rI rfl rfl)
