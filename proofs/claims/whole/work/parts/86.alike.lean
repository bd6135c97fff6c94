/-! what to gauge next: most alike, and the pick -/
def nW5 : List Nat := [104, 105, 106, 108]
theorem s41 {d : Nat} {G : pG} {l : List vBk} {s : Nat} {T : Int} {i : Nat} (hT : G 115 s = T) (hT0 : 0 ≤ T) (ok : ∀ b ∈ l, okB G b) (hl : l.length ≤ 1015) (hi : i < 20) (hM : nM G s T l (i : Int) 0) (hd : 1 ≤ d) : ∃ r G', pRuns pMT d 41 [pR 103, pI (i : Int)] Yc G (some (pI r)) G' ∧ (fr nW5 [] G G' ∧ nM G' s T l (i : Int) 125 ∧ r = mxN (fun v => lSm (bSm (fun h w q => if vTell G h w q (i : Int) s = (v : Int) - 8 then 1 else 0)) l) 40) := by
  have TLb : ∀ (x : Int) (k : Nat), -12180 ≤ lSm (tlN s T x k) l ∧ lSm (tlN s T x k) l ≤ 12180 := fun x k => by
    have := lSm_bd (f := tlN s T x k) (B := 12) l (fun b hb => (tl_b (ok b hb) s T x k).1)
    omega
  have Jb : ∀ (x : Int) (k : Nat), -1015 ≤ lSm (jN s T x k) l ∧ lSm (jN s T x k) l ≤ 1015 := fun x k => by
    have := lSm_bd (f := jN s T x k) (B := 1) l (fun b hb => (tl_b (ok b hb) s T x k).2)
    omega
  have Ob : ∀ c : Nat, -60900 ≤ lSm (oN s c) l ∧ lSm (oN s c) l ≤ 60900 := fun c => by
    have := lSm_bd (f := oN s c) (B := 60) l (fun b hb => oN_bd (ok b hb) s c)
    omega
  have Js : ∀ k : Nat, lSm (jN s T (i : Int) k) l = lSm (jN s T ((i : Int) - 1) k) l + (if i < 13 then lSm (eN s T i k) l else 0) := fun k => by
    by_cases q : i < 13
    · rw [if_pos q, ← lSm_add]
      refine lSm_c l (fun b hb => ?_)
      rw [jN_s (ok b hb), if_pos q]
    · rw [if_neg q, Int.add_zero]
      refine lSm_c l (fun b hb => ?_)
      rw [jN_s (ok b hb), if_neg q, Int.add_zero]
  have Ts : ∀ k : Nat, lSm (tlN s T (i : Int) k) l = lSm (tlN s T ((i : Int) - 1) k) l + lSm (jN s T (i : Int) k) l := fun k => by
    rw [← lSm_add]
    exact lSm_c l (fun b hb => tlN_s (ok b hb) s T (i : Int) k)
  obtain ⟨A, hA⟩ : ∃ A : Int → Nat → Nat → Int, A = aV (bsC (i : Int)) (fun k => lSm (tlN s T (i : Int) k) l) (fun c => lSm (oN s c) l) := ⟨_, rfl⟩
  have Ab : ∀ (v : Int) (k c : Nat), k ≤ 125 → c ≤ 25 → -5000000 ≤ A v k c ∧ A v k c ≤ 5000000 := fun v k c hk hc => by
    rw [hA]
    exact aV_bd hk hc (fun j => TLb _ _) Ob
  have A1 : ∀ (v : Int) (k c : Nat), A v (k + 1) c = A v k c + (if bsC (i : Int) (k / 5) + (((k % 5 : Nat) : Int) + 1) = v then lSm (tlN s T (i : Int) k) l else 0) := fun v k c => by
    rw [hA]
    exact Int.add_right_comm _ _ _
  have A2 : ∀ (v : Int) (k c : Nat), A v k (c + 1) = A v k c + (if bsC (i : Int) c = v then lSm (oN s c) l - vSm (fun y => lSm (tlN s T (i : Int) (c * 5 + y)) l) 5 else 0) := fun v k c => by
    rw [hA]
    exact (Int.add_assoc _ _ _).symm
  refine pX1 rfl rfl (v41_0 (pC0.ox hd (s267 (n := 40) (r := 108) rfl (by omega) (by omega)) (fun B hB => ?_)))
  have fB : fr nW5 [] G B := hB.1.mono (by decide) (by decide)
  have MB : nM B s T l (i : Int) 0 := by
    unfold nM at *
    rw [hB.1.c 104 (by decide), hB.1.c 105 (by decide), hB.1.c 106 (by decide), hB.1.c 107 (by decide)]
    exact hM
  have LAST : ∀ g : pG, fr nW5 [] G g → nM g s T l (i : Int) 125 → (∀ v : Nat, v < 40 → g 108 v = A (v : Int) 125 25) → ∀ (n v : Nat), v + n = 40 → pEnds pMT d 41 Yc (fun r g => ∃ x : Int, r = some (pI x) ∧ (fr nW5 [] G g ∧ nM g s T l (i : Int) 125 ∧ x = mxN (fun v => lSm (bSm (fun h w q => if vTell G h w q (i : Int) s = (v : Int) - 8 then 1 else 0)) l) 40)) 176 [pR 103, pU, pI (mxN (fun v => lSm (bSm (fun h w q => if vTell G h w q (i : Int) s = (v : Int) - 8 then 1 else 0)) l) v), pI (v : Int), pU, pU, pU] [] g := by
    intro g h1 h2 h3 n
    induction n with
    | zero =>
      intro v hv
      obtain rfl : v = 40 := by omega
      exact v41_176 ⟨fun _ => ⟨_, rfl, h1, h2, rfl⟩, fun z => by omega⟩
    | succ n ihn =>
      intro v hv
      refine v41_176 ⟨fun z => by omega, fun _ => ⟨by omega, by omega, ?_⟩⟩
      rw [w32_id (by omega) (by omega), Int.toNat_natCast, pmx_eq, h3 v (by omega), hA, aV_l hT hT0 (by omega) l ok]
      rintro _ rfl _ rfl
      exact ihn (v + 1) (by omega)
  have OUT : ∀ (m c : Nat) (g : pG), c + m = 25 → fr nW5 [] G g → nM g s T l (i : Int) (c * 5) → (∀ v : Nat, v < 40 → g 108 v = A (v : Int) (c * 5) c) → pEnds pMT d 41 Yc (fun r g => ∃ x : Int, r = some (pI x) ∧ (fr nW5 [] G g ∧ nM g s T l (i : Int) 125 ∧ x = mxN (fun v => lSm (bSm (fun h w q => if vTell G h w q (i : Int) s = (v : Int) - 8 then 1 else 0)) l) 40)) 10 [pR 103, pI (i : Int), pI (c : Int), pU, pU, pU, pU] [] g := by
    intro m
    induction m with
    | zero =>
      intro c g hc h1 h2 h3
      obtain rfl : c = 25 := by omega
      refine v41_10 ⟨fun _ => ?_, fun z => by omega⟩
      rintro _ rfl _ rfl
      exact LAST g h1 h2 h3 40 0 (by omega)
    | succ m ih =>
      intro c g hc h1 h2 h3
      have bb := bs_bd (i := (i : Int)) (by omega) (by omega) (c := c) (by omega)
      have eb : 8 + ((((c / 5 : Nat) : Int) - 2) * (i : Int)).tdiv 5 + ((c % 5 : Nat) : Int) * (i : Int) / 5 = bsC (i : Int) c := rfl
      have hb := heat_e (h := ((c / 5 : Nat) : Int) - 2) (i := (i : Int)) (by omega) (by omega) (by omega) (by omega)
      refine v41_10 ⟨fun z => by omega, fun _ => ⟨by omega, ?_⟩⟩
      have e1 : w32 (pdiv (c : Int) 5 - 2) = ((c / 5 : Nat) : Int) - 2 := by
        rw [pdiv_id (by omega) (by omega) (by omega) (by omega), show ((c : Int)).tdiv 5 = ((c / 5 : Nat) : Int) from rfl, w32_id (by omega) (by omega)]
      have e2 : pdiv (w32 (prem (c : Int) 5 * (i : Int))) 5 = ((c % 5 : Nat) : Int) * (i : Int) / 5 := by
        have p : prem (c : Int) 5 = ((c % 5 : Nat) : Int) := by
          rw [prem_id (by omega) (by omega) (by omega) (by omega)]
          rfl
        have q : ((c % 5 : Nat) : Int) * (i : Int) = ((c % 5 * i : Nat) : Int) := by rw [Int.natCast_mul]
        have q2 : c % 5 * i ≤ 4 * 19 := Nat.mul_le_mul (by omega) (by omega)
        rw [p, q, w32_id (by omega) (by omega), pdiv_id (by omega) (by omega) (by omega) (by omega)]
        rfl
      rw [e1]
      intro x3 hx3
      rw [hx3]
      refine pC1.of hd (s2 (by omega) (by omega) (by omega) (by omega)) ⟨by omega, by omega, ?_⟩
      rw [e2, w32_id (x := 8 + ((((c / 5 : Nat) : Int) - 2) * (i : Int)).tdiv 5) (by omega) (by omega), eb, w32_id (by omega) (by omega)]
      obtain ⟨bs, hbs⟩ : ∃ bs : Nat, bsC (i : Int) c = (bs : Int) := ⟨(bsC (i : Int) c).toNat, by omega⟩
      rw [hbs]
      have IN : ∀ (n y : Nat) (g : pG), y + n = 5 → fr nW5 [] G g → nM g s T l (i : Int) (c * 5 + y) → (∀ v : Nat, v < 40 → g 108 v = A (v : Int) (c * 5 + y) c) → pEnds pMT d 41 Yc (fun r g => ∃ x : Int, r = some (pI x) ∧ (fr nW5 [] G g ∧ nM g s T l (i : Int) 125 ∧ x = mxN (fun v => lSm (bSm (fun h w q => if vTell G h w q (i : Int) s = (v : Int) - 8 then 1 else 0)) l) 40)) 43 [pR 103, pI (i : Int), pI (c : Int), pU, pI (bs : Int), pI ((y + 1 : Nat) : Int), pU] [] g := by
        intro n
        induction n with
        | zero =>
          intro y g hy h1 h2 h3
          obtain rfl : y = 5 := by omega
          have gb := h3 bs (by omega)
          have a1 := Ab (bs : Int) (c * 5 + 5) c (by omega) (by omega)
          have g4 := h2.2.1 c (by omega)
          have ev : vSm (fun y => lSm (tlN s T (if c * 5 + y < c * 5 + 5 then (i : Int) else (i : Int) - 1) (c * 5 + y)) l) 5 = vSm (fun y => lSm (tlN s T (i : Int) (c * 5 + y)) l) 5 := vSm_c 5 (fun y hy => by rw [if_pos (by omega)])
          rw [ev] at g4
          have ob := Ob c
          have tb := vSm_ab (f := fun y => lSm (tlN s T (i : Int) (c * 5 + y)) l) (B := 12180) 5 (fun y _ => TLb _ _)
          refine v41_43 ⟨fun _ => ⟨by omega, by omega, by omega, by omega, by omega, by omega, ?_⟩, fun z => by omega⟩
          rw [Int.toNat_natCast, Int.toNat_natCast, gb, g4, w32_id (x := (c : Int) + 1) (by omega) (by omega), w32_id (by omega) (by omega)]
          rintro _ rfl
          refine ih (c + 1) _ (by omega) (h1.trans (fr.set (by decide) (by decide) _ _ _)) ?_ (fun v hv => ?_)
          · unfold nM at *
            rw [pset_cl _ _ (by decide), pset_cl _ _ (by decide), pset_cl _ _ (by decide), pset_cl _ _ (by decide), show (c + 1) * 5 = c * 5 + 5 by omega]
            exact h2
          · rw [show (c + 1) * 5 = c * 5 + 5 by omega, A2, hbs, pset_at, if_pos rfl]
            by_cases e : v = bs
            · subst e
              rw [if_pos rfl, if_pos rfl]
            · rw [if_neg e, if_neg (by omega), h3 v hv, Int.add_zero]
        | succ n ihn =>
          intro y g hy h1 h2 h3
          obtain ⟨K, hK⟩ : ∃ K : Nat, K = c * 5 + y := ⟨_, rfl⟩
          have K5 : K / 5 = c ∧ K % 5 = y := by omega
          have g6 := h2.1 K (by omega)
          rw [if_neg (by omega)] at g6
          have g4 := h2.2.1 c (by omega)
          have g8 := h3 (bs + (y + 1)) (by omega)
          have a1 := Ab ((bs + (y + 1) : Nat) : Int) (c * 5 + y) c (by omega) (by omega)
          have j0 := Jb ((i : Int) - 1) K
          have j1 := Jb (i : Int) K
          have t0 := TLb ((i : Int) - 1) K
          have t1 := TLb (i : Int) K
          have ob := Ob c
          have tb := vSm_ab (f := fun y_1 => lSm (tlN s T (if c * 5 + y_1 < c * 5 + y then (i : Int) else (i : Int) - 1) (c * 5 + y_1)) l) (B := 12180) 5 (fun y _ => TLb _ _)
          have js := Js K
          have ts := Ts K
          have eK : w32 (w32 (w32 ((c : Int) * 5) + ((y + 1 : Nat) : Int)) - 1) = (K : Int) := by
            rw [w32_id (x := (c : Int) * 5) (by omega) (by omega), w32_id (x := (c : Int) * 5 + ((y + 1 : Nat) : Int)) (by omega) (by omega), w32_id (by omega) (by omega)]
            omega
          have eV : w32 ((bs : Int) + ((y + 1 : Nat) : Int)) = ((bs + (y + 1) : Nat) : Int) := by rw [w32_id (by omega) (by omega)]; omega
          -- the state behind the step
          have fin : ∀ a : Int, g 106 K + a = lSm (jN s T (i : Int) K) l → pEnds pMT d 41 Yc (fun r g => ∃ x : Int, r = some (pI x) ∧ (fr nW5 [] G g ∧ nM g s T l (i : Int) 125 ∧ x = mxN (fun v => lSm (bSm (fun h w q => if vTell G h w q (i : Int) s = (v : Int) - 8 then 1 else 0)) l) 40)) 43 [pR 103, pI (i : Int), pI (c : Int), pU, pI (bs : Int), pI ((y + 1 + 1 : Nat) : Int), pU] [] (nst g K c (bs + (y + 1)) (g 106 K + a)) := by
            intro a ha
            refine ihn (y + 1) _ (by omega) (h1.trans ((fr.set (by decide) (by decide) _ _ _).trans ((fr.set (by decide) (by decide) _ _ _).trans ((fr.set (by decide) (by decide) _ _ _).trans (fr.set (by decide) (by decide) _ _ _))))) ?_ (fun v hv => ?_)
            · refine ⟨fun j hj => ?_, fun c' hc' => ?_, fun j f hj hf => ?_⟩
              · have h6 : nst g K c (bs + (y + 1)) (g 106 K + a) 106 j = if j = K then g 106 K + a else g 106 j := by
                  unfold nst
                  rw [pset_cl _ _ (by decide), pset_cl _ _ (by decide), pset_cl _ _ (by decide), pset_at, if_pos rfl]
                have h5 : nst g K c (bs + (y + 1)) (g 106 K + a) 105 j = if j = K then g 105 K + (g 106 K + a) else g 105 j := by
                  unfold nst
                  rw [pset_cl _ _ (by decide), pset_cl _ _ (by decide), pset_at, if_pos rfl, pset_cl _ _ (by decide)]
                rw [h6, h5]
                by_cases e : j = K
                · subst e
                  rw [if_pos rfl, if_pos rfl, if_pos (by omega), ha, g6.2, ts]
                  exact ⟨rfl, rfl⟩
                · rw [if_neg e, if_neg e]
                  have := h2.1 j hj
                  by_cases q : j < c * 5 + y
                  · rw [if_pos q] at this
                    rw [if_pos (by omega)]
                    exact this
                  · rw [if_neg q] at this
                    rw [if_neg (by omega)]
                    exact this
              · have h44 : nst g K c (bs + (y + 1)) (g 106 K + a) 104 c' = if c' = c then g 104 c - (g 106 K + a) else g 104 c' := by
                  unfold nst
                  rw [pset_cl _ _ (by decide), pset_at, if_pos rfl, pset_cl _ _ (by decide), pset_cl _ _ (by decide)]
                rw [h44]
                by_cases e : c' = c
                · subst e
                  rw [if_pos rfl, g4, ha]
                  have d1 := vSm_add (fun y_1 => lSm (tlN s T (if c' * 5 + y_1 < c' * 5 + y then (i : Int) else (i : Int) - 1) (c' * 5 + y_1)) l) (fun y_1 => if y_1 = y then lSm (jN s T (i : Int) K) l else 0) 5
                  have d2 : vSm (fun y_1 => if y_1 = y then lSm (jN s T (i : Int) K) l else 0) 5 = lSm (jN s T (i : Int) K) l := by
                    rw [vSm_one (c := y) 5 (by omega) (fun k _ hk => if_neg hk), if_pos rfl]
                  have d3 : vSm (fun y_1 => lSm (tlN s T (if c' * 5 + y_1 < c' * 5 + y then (i : Int) else (i : Int) - 1) (c' * 5 + y_1)) l + (if y_1 = y then lSm (jN s T (i : Int) K) l else 0)) 5 = vSm (fun y_1 => lSm (tlN s T (if c' * 5 + y_1 < c' * 5 + (y + 1) then (i : Int) else (i : Int) - 1) (c' * 5 + y_1)) l) 5 := by
                    refine vSm_c 5 (fun y' hy' => ?_)
                    by_cases q : y' = y
                    · subst q
                      rw [if_neg (by omega), if_pos rfl, if_pos (by omega), ← hK, ts]
                    · rw [if_neg q, Int.add_zero]
                      by_cases q2 : c' * 5 + y' < c' * 5 + y
                      · rw [if_pos q2, if_pos (by omega)]
                      · rw [if_neg q2, if_neg (by omega)]
                  omega
                · rw [if_neg e, h2.2.1 c' hc']
                  congr 1
                  refine vSm_c 5 (fun y' hy' => ?_)
                  by_cases q2 : c' * 5 + y' < c * 5 + y
                  · rw [if_pos q2, if_pos (by omega)]
                  · rw [if_neg q2, if_neg (by omega)]
              · have h7 : nst g K c (bs + (y + 1)) (g 106 K + a) 107 = g 107 := by
                  unfold nst
                  rw [pset_cl _ _ (by decide), pset_cl _ _ (by decide), pset_cl _ _ (by decide), pset_cl _ _ (by decide)]
                rw [h7]
                exact h2.2.2 j f hj hf
            · have h8 : nst g K c (bs + (y + 1)) (g 106 K + a) 108 v = if v = bs + (y + 1) then g 108 (bs + (y + 1)) + (g 105 K + (g 106 K + a)) else g 108 v := by
                unfold nst
                rw [pset_at, if_pos rfl, pset_cl _ _ (by decide), pset_cl _ _ (by decide), pset_cl _ _ (by decide)]
              rw [h8, show c * 5 + (y + 1) = c * 5 + y + 1 by omega, A1, ← hK, K5.1, K5.2, hbs]
              by_cases e : v = bs + (y + 1)
              · subst e
                rw [if_pos rfl, if_pos (by omega), g8, ha, g6.2, ts, ← hK]
              · rw [if_neg e, if_neg (by omega), h3 v hv, Int.add_zero, ← hK]
          have e4 : ∀ a : Int, g 106 K + a = lSm (jN s T (i : Int) K) l → nst g K c (bs + (y + 1)) (g 106 K + a) = _ := fun a ha => nst_e g K c (bs + (y + 1)) a (w32_id (by omega) (by omega)) (w32_id (by omega) (by omega)) (w32_id (by omega) (by omega)) (w32_id (by omega) (by omega))
          refine v41_43 ⟨fun z => by omega, fun _ => ?_⟩
          intro x6 hx6
          rw [hx6, eK, eV]
          simp only [Int.toNat_natCast]
          refine ⟨by omega, by omega, fun z => ?_, fun z => ?_⟩
          · refine ⟨by omega, by omega, by omega, by omega, by omega, by omega, by omega, by omega, by omega, by omega, by omega, by omega, by omega, by omega, by omega, by omega, by omega, by omega, by omega, by omega, ?_⟩
            rw [w32_id (x := ((y + 1 : Nat) : Int) + 1) (by omega) (by omega)]
            rintro _ rfl
            have ha : g 106 K + 0 = lSm (jN s T (i : Int) K) l := by
              rw [if_neg (by omega)] at js
              omega
            exact pE_eq (e4 0 ha) (fin 0 ha)
          · have eI : w32 (w32 ((K : Int) * 13) + (i : Int)) = ((13 * K + i : Nat) : Int) := by
              rw [w32_id (x := (K : Int) * 13) (by omega) (by omega), w32_id (by omega) (by omega)]
              omega
            rw [eI]
            simp only [Int.toNat_natCast]
            refine ⟨by omega, by omega, by omega, by omega, by omega, by omega, by omega, by omega, by omega, by omega, by omega, by omega, by omega, by omega, by omega, by omega, by omega, by omega, by omega, by omega, by omega, by omega, ?_⟩
            rw [w32_id (x := ((y + 1 : Nat) : Int) + 1) (by omega) (by omega)]
            rintro _ rfl
            have g7 := h2.2.2 K i (by omega) (by omega)
            have ha : g 106 K + g 107 (13 * K + i) = lSm (jN s T (i : Int) K) l := by
              rw [if_pos (by omega)] at js
              omega
            exact pE_eq (e4 _ ha) (fin _ ha)
      rintro _ rfl _ rfl
      exact IN 5 0 g rfl h1 h2 h3
  rintro _ rfl
  refine OUT 25 0 B rfl fB MB (fun v hv => ?_)
  rw [hB.2 v hv, hA]
  rfl
