def uOf (G : pG) (i : Nat) : Int := pand (G 110 i) 255
theorem rTape_u {G : pG} (h : rTape G) : (∀ i : Nat, i < 800 → pand (G 2 i) 255 = uOf G i) ∧ (∀ i : Nat, i < 800 → pand (G 110 i) 255 = uOf G i ∧ (G 110 i = 32 ↔ uOf G i = 32) ∧ (G 110 i = 10 ↔ uOf G i = 10)) ∧ ∀ i : Nat, i < 800 → 0 ≤ uOf G i ∧ uOf G i ≤ 255 := by
  refine ⟨fun i hi => by unfold uOf; rw [(h.2.2.2 i hi).1], fun i hi => ?_, fun i hi => u8_bd (h.2.2.2 i hi).2.1 (h.2.2.2 i hi).2.2⟩
  obtain ⟨-, a, b⟩ := h.2.2.2 i hi
  unfold uOf
  rw [u8_e a b]
  exact ⟨rfl, by omega, by omega⟩
theorem tPl_bd {u : Nat → Int} {L c : Nat} (h : c ≤ L) : c ≤ tPl u L c ∧ tPl u L c ≤ L := by
  have := skE_bd (P := pBl) (u := u) (L := L) (L - c) c (by omega)
  unfold tPl
  omega
theorem tNx_bd {u : Nat → Int} {L c : Nat} (h : c ≤ L) : tPl u L c ≤ tNx u L c ∧ tNx u L c ≤ L := by
  have h1 := tPl_bd (u := u) h
  unfold tNx
  split
  · split
    · have := skE_bd (P := pLe) (u := u) (L := L) (L - tPl u L c) (tPl u L c) (by omega); omega
    · split
      · have := skE_bd (P := pDi) (u := u) (L := L) (L - tPl u L c) (tPl u L c) (by omega); omega
      · omega
  · omega
/-- the tokens' cursors -/
def cs (u : Nat → Int) (L : Nat) : Nat → Nat
  | 0 => 0
  | n + 1 => tNx u L (cs u L n)
theorem cs_le (u : Nat → Int) (L : Nat) : ∀ n : Nat, cs u L n ≤ L
  | 0 => Nat.zero_le _
  | n + 1 => (tNx_bd (cs_le u L n)).2
def cV (u : Nat → Int) (L n : Nat) : Int := nV u (tPl u L (cs u L n)) (tNx u L (cs u L n) - tPl u L (cs u L n))
def cK (u : Nat → Int) (L n : Nat) : Int := tKd u L (cs u L n)
theorem tKd2 {u : Nat → Int} {L c : Nat} (h : tKd u L c = 2) : tPl u L c < L ∧ tNx u L c = skE pDi u L (tPl u L c) ∧ tNx u L c - tPl u L c ≤ 4 ∧ pLe (u (tPl u L c)) = false ∧ pDi (u (tPl u L c)) = true := by
  unfold tKd at h
  by_cases h1 : tPl u L c < L
  · rw [if_pos h1] at h
    by_cases h2 : pLe (u (tPl u L c)) = true
    · rw [if_pos h2] at h; split at h <;> omega
    · rw [if_neg h2] at h
      by_cases h3 : pDi (u (tPl u L c)) = true
      · rw [if_pos h3] at h
        refine ⟨h1, ?_, ?_, Bool.eq_false_iff.mpr h2, h3⟩
        · unfold tNx; rw [if_pos h1, if_neg h2, if_pos h3]
        · split at h <;> omega
      · rw [if_neg h3] at h; split at h <;> omega
  · rw [if_neg h1] at h; omega
theorem cV_bd {u : Nat → Int} {L c : Nat} (hc : c ≤ L) (h : tKd u L c = 2) : 0 ≤ nV u (tPl u L c) (tNx u L c - tPl u L c) ∧ nV u (tPl u L c) (tNx u L c - tPl u L c) ≤ 9999 := by
  obtain ⟨h1, h2, h3, -, -⟩ := tKd2 h
  have h4 := skE_bd (P := pDi) (u := u) (L := L) (L - tPl u L c) (tPl u L c) (by omega)
  have bd := nV_bd (u := u) (a := tPl u L c) (tNx u L c - tPl u L c) (fun i hi => of_decide_eq_true (h4.2.2.2 (tPl u L c + i) (by omega) (by omega)))
  have p8 : ∀ n : Nat, n ≤ 4 → (10 : Int) ^ n ≤ 10000 := by decide
  have := p8 _ h3
  omega
def bOk (u : Nat → Int) (L n : Nat) : Bool := decide (cK u L n = 2 ∧ 10 ≤ cV u L n ∧ cV u L n ≤ 200)
def bxR (u : Nat → Int) (L : Nat) : Nat → Nat → Int
  | 0, _ => -1
  | m + 1, n => if cK u L n = 0 then (n : Int) else if n < 10 ∧ bOk u L n = true then bxR u L m (n + 1) else -1
theorem s108 {d : Nat} {G : pG} {u : Nat → Int} {L : Nat} (hG : tpC G u L) (hd : 3 ≤ d) : ∃ G', pRuns pMT d 108 [pR 73, pR 1] Yc G (some (pI (bxR u L 11 0))) G' ∧ (fr [1, 73, 74, 75] [] G G' ∧ (bxR u L 11 0 = -1 → G' 73 = G 73 ∧ G' 74 = G 74) ∧ (bxR u L 11 0 ≠ -1 → 0 ≤ bxR u L 11 0 ∧ bxR u L 11 0 ≤ 10 ∧ G' 73 1 = bxR u L 11 0 ∧ (∀ j : Nat, j ≠ 1 → G' 73 j = G 73 j) ∧ ∀ j : Nat, (j : Int) < bxR u L 11 0 → G' 74 j = cV u L j ∧ bOk u L j = true)) := by
  have key : ∃ v G', pRuns pMT d 108 [pR 73, pR 1] Yc G (some (pI v)) G' ∧ (v = bxR u L 11 0 ∧ fr [1, 73, 74, 75] [] G G' ∧ (bxR u L 11 0 = -1 → G' 73 = G 73 ∧ G' 74 = G 74) ∧ (bxR u L 11 0 ≠ -1 → 0 ≤ bxR u L 11 0 ∧ bxR u L 11 0 ≤ 10 ∧ G' 73 1 = bxR u L 11 0 ∧ (∀ j : Nat, j ≠ 1 → G' 73 j = G 73 j) ∧ ∀ j : Nat, (j : Int) < bxR u L 11 0 → G' 74 j = cV u L j ∧ bOk u L j = true)) := by
    refine pX1 rfl rfl (v108_0 (pC0.of (G' := pset G 1 1 0) (by omega) (pRuns.of rfl rfl (v100_0 ⟨rfl, rfl⟩)) ?_))
    rintro _ rfl
    have LP : ∀ (m n : Nat) (g : pG), n + m = 11 → bxR u L 11 0 = bxR u L m n → fr [1, 75] [] G g → tpC g u L → g 1 1 = (cs u L n : Int) → (∀ j : Nat, j < n → g 75 j = cV u L j ∧ bOk u L j = true) → pEnds pMT d 108 Yc (fun r g => ∃ v : Int, r = some (pI v) ∧ (v = bxR u L 11 0 ∧ fr [1, 73, 74, 75] [] G g ∧ (bxR u L 11 0 = -1 → g 73 = G 73 ∧ g 74 = G 74) ∧ (bxR u L 11 0 ≠ -1 → 0 ≤ bxR u L 11 0 ∧ bxR u L 11 0 ≤ 10 ∧ g 73 1 = bxR u L 11 0 ∧ (∀ j : Nat, j ≠ 1 → g 73 j = G 73 j) ∧ ∀ j : Nat, (j : Int) < bxR u L 11 0 → g 74 j = cV u L j ∧ bOk u L j = true))) 6 [pR 73, pR 1, pI (n : Int), pU] [] g := by
      intro m
      induction m with
      | zero =>
        intro n g hn hb f1 hg g1 g75
        have hb1 : bxR u L 11 0 = -1 := hb
        refine v108_6 ⟨fun _ => ⟨-1, rfl, hb1.symm, f1.mono (by decide) (by decide), fun _ => ⟨f1.c 73 (by decide), f1.c 74 (by decide)⟩, fun z => absurd hb1 z⟩, fun z => by omega⟩
      | succ m ih =>
        intro n g hn hb f1 hg g1 g75
        refine v108_6 ⟨fun z => by omega, fun _ => pC0.ox (by omega) (s101 hg (cs_le u L n) g1 (by omega)) (fun A hA => ?_)⟩
        obtain ⟨k1, k2, k3, k4, k5, k6, k7⟩ := hA
        rw [show tKd u L (cs u L n) = cK u L n from rfl] at k5 k6 k7
        rw [show nV u (tPl u L (cs u L n)) (tNx u L (cs u L n) - tPl u L (cs u L n)) = cV u L n from rfl] at k7
        have FA : fr [1, 75] [] G A := f1.trans (k1.mono (by decide) (by decide))
        have hbe : bxR u L (m + 1) n = if cK u L n = 0 then (n : Int) else if n < 10 ∧ bOk u L n = true then bxR u L m (n + 1) else -1 := rfl
        have bad : bxR u L 11 0 = -1 → ∃ v : Int, (some (pI (-1)) : Option pV) = some (pI v) ∧ (v = bxR u L 11 0 ∧ fr [1, 73, 74, 75] [] G A ∧ (bxR u L 11 0 = -1 → A 73 = G 73 ∧ A 74 = G 74) ∧ (bxR u L 11 0 ≠ -1 → 0 ≤ bxR u L 11 0 ∧ bxR u L 11 0 ≤ 10 ∧ A 73 1 = bxR u L 11 0 ∧ (∀ j : Nat, j ≠ 1 → A 73 j = G 73 j) ∧ ∀ j : Nat, (j : Int) < bxR u L 11 0 → A 74 j = cV u L j ∧ bOk u L j = true)) := fun h => ⟨-1, rfl, h.symm, FA.mono (by decide) (by decide), fun _ => ⟨FA.c 73 (by decide), FA.c 74 (by decide)⟩, fun z => absurd h z⟩
        rw [k5]
        refine ⟨fun z => ⟨fun y => ?_, fun y => ?_⟩, fun z => ⟨by omega, ?_⟩⟩
        · have hb1 : bxR u L 11 0 = -1 := by rw [hb, hbe, if_neg z, if_neg (fun w => y (of_decide_eq_true w.2).1)]
          rintro _ rfl
          exact ⟨fun _ => bad hb1, fun _ => ⟨fun w => absurd rfl w, fun _ => bad hb1⟩⟩
        · have kv := k7 y
          have vb : 0 ≤ cV u L n ∧ cV u L n ≤ 9999 := cV_bd (cs_le u L n) y
          rw [kv]
          refine pC1.of (by omega) s118 ⟨fun w => ?_, fun w => ?_⟩
          · have hb1 : bxR u L 11 0 = -1 := by rw [hb, hbe, if_neg z, if_neg (fun v => b2i_0.mp w (of_decide_eq_true v.2).2)]
            rintro _ rfl
            exact ⟨fun _ => bad hb1, fun _ => ⟨fun w => absurd rfl w, fun _ => bad hb1⟩⟩
          · have w := b2i_n0.mp w
            have ok : bOk u L n = true := decide_eq_true ⟨y, w⟩
            rintro _ rfl
            refine ⟨fun v => bad (by rw [hb, hbe, if_neg z, if_neg (by omega)]), fun v => ⟨fun _ => ⟨by omega, by omega, ?_⟩, fun x => by omega⟩⟩
            rw [w32_id (x := (n : Int) + 1) (by omega) (by omega), Int.toNat_natCast, kv, w32_id (by omega) (by omega)]
            rintro _ rfl
            refine ih (n + 1) _ (by omega) (by rw [hb, hbe, if_neg z, if_pos ⟨by omega, ok⟩]) (FA.trans (fr.set (by decide) (by decide) _ _ _)) (hg.mv (by rw [pset_cl _ _ (by decide)]; exact k2) (by rw [pset_cl _ _ (by decide)]; exact k1.c 2 (by decide))) (by rw [pset_cl _ _ (by decide)]; exact k3) (fun j hj => ?_)
            by_cases e : j = n
            · subst e; rw [pset_eq]; exact ⟨rfl, ok⟩
            · rw [pset_ne _ _ e, k1.c 75 (by decide)]; exact g75 j (by omega)
        · have hb1 : bxR u L 11 0 = (n : Int) := by rw [hb, hbe, if_pos z]
          refine ⟨_, rfl, hb1.symm, (FA.mono (by decide) (by decide)).trans ((fr.cpy (by decide) (by decide) _ _ _ _ _).trans (fr.set (by decide) (by decide) _ _ _)), fun w => by omega, fun _ => ?_⟩
          rw [hb1]
          refine ⟨by omega, by omega, by rw [pset_eq], fun j hj => ?_, fun j hj => ?_⟩
          · rw [pset_ne _ _ hj, pcpy_at, if_neg (by decide), FA.c 73 (by decide)]
          · rw [pset_cl _ _ (by decide), pcpy_at, if_pos rfl, if_pos ⟨by simp, by simp; omega⟩]
            show A 75 (0 + (j - 0)) = _ ∧ _
            rw [show 0 + (j - 0) = j by omega, k1.c 75 (by decide)]
            exact g75 j (by omega)
    have F1 : fr [1, 75] [] G (pset G 1 1 0) := fr.set (by decide) (by decide) _ _ _
    exact LP 11 0 _ rfl rfl F1 (hG.mv (by rw [pset_ne _ _ (by decide)]) (F1.c 2 (by decide))) (by rw [pset_eq]; rfl) (fun j hj => by omega)
  obtain ⟨v, G', h1, rfl, h2⟩ := key
  exact ⟨G', h1, h2⟩
theorem s227 {d : Nat} {G : pG} {u : Nat → Int} {L : Nat} (h1 : G 109 1 = (L : Int)) (hL : L ≤ 800) (hu : (∀ i : Nat, i < 800 → pand (G 110 i) 255 = u i ∧ (G 110 i = 32 ↔ u i = 32) ∧ (G 110 i = 10 ↔ u i = 10)) ∧ ∀ i : Nat, i < 800 → 0 ≤ u i ∧ u i ≤ 255) (hd : 3 ≤ d) : ∃ G', pRuns pMT d 227 [pR 109] Yc G (some (pI (bxR u L 11 0))) G' ∧ (fr [160, 161] [1, 2, 3, 4, 5, 6, 49] G G' ∧ G' 109 1 = 0 ∧ (bxR u L 11 0 = -1 → G' 109 49 = G 109 49 ∧ G' 160 = G 160) ∧ (bxR u L 11 0 ≠ -1 → G' 109 49 = bxR u L 11 0 ∧ ∀ j : Nat, (j : Int) < bxR u L 11 0 → G' 160 j = cV u L j)) := by
  have key : ∃ v G', pRuns pMT d 227 [pR 109] Yc G (some (pI v)) G' ∧ (v = bxR u L 11 0 ∧ fr [160, 161] [1, 2, 3, 4, 5, 6, 49] G G' ∧ G' 109 1 = 0 ∧ (bxR u L 11 0 = -1 → G' 109 49 = G 109 49 ∧ G' 160 = G 160) ∧ (bxR u L 11 0 ≠ -1 → G' 109 49 = bxR u L 11 0 ∧ ∀ j : Nat, (j : Int) < bxR u L 11 0 → G' 160 j = cV u L j)) := by
    refine pX1 rfl rfl (v227_0 (pC0.ox (by omega) (s175 h1 hL hu (by omega)) (fun A hA => ?_)))
    rintro _ rfl
    have LP : ∀ (m n : Nat) (g : pG), n + m = 10 → bxR u L 11 0 = bxR u L (m + 1) n → fr [161] [1, 2, 3, 4, 5, 6] G g → g 109 1 = 0 → tpR g u L → g 109 4 = (tNx u L (cs u L n) : Int) → g 109 5 = cK u L n → (cK u L n = 2 → g 109 6 = cV u L n) → (∀ j : Nat, j < n → g 161 j = cV u L j) → pEnds pMT d 227 Yc (fun r g => ∃ v : Int, r = some (pI v) ∧ (v = bxR u L 11 0 ∧ fr [160, 161] [1, 2, 3, 4, 5, 6, 49] G g ∧ g 109 1 = 0 ∧ (bxR u L 11 0 = -1 → g 109 49 = G 109 49 ∧ g 160 = G 160) ∧ (bxR u L 11 0 ≠ -1 → g 109 49 = bxR u L 11 0 ∧ ∀ j : Nat, (j : Int) < bxR u L 11 0 → g 160 j = cV u L j))) 6 [pR 109, pI (n : Int), pU] [] g := by
      intro m
      induction m with
      | zero =>
        intro n g hn hb f1 g1 hg g4 g5 g6 g161
        obtain rfl : n = 10 := by omega
        have hbe : bxR u L (0 + 1) 10 = if cK u L 10 = 0 then ((10 : Nat) : Int) else -1 := by
          show (if cK u L 10 = 0 then ((10 : Nat) : Int) else if 10 < 10 ∧ bOk u L 10 = true then _ else -1) = _
          rw [if_neg (c := 10 < 10 ∧ _) (by omega)]
        rw [hbe] at hb
        refine v227_6 ?_
        rw [g5]
        refine ⟨fun z => ?_, fun z => ?_⟩
        · rw [if_pos z] at hb
          rintro _ rfl
          have F9 : fr [160, 161] [1, 2, 3, 4, 5, 6, 49] G (pset g 109 49 ((10 : Nat) : Int)) := (f1.mono (by decide) (by decide)).trans (fr.setF (by decide) _ _)
          have CP : ∀ (m' k : Nat) (g' : pG), k + m' = 10 → fr [160, 161] [1, 2, 3, 4, 5, 6, 49] (pset g 109 49 ((10 : Nat) : Int)) g' → fr [160] [] (pset g 109 49 ((10 : Nat) : Int)) g' → (∀ j : Nat, j < k → g' 160 j = cV u L j) → pEnds pMT d 227 Yc (fun r g => ∃ v : Int, r = some (pI v) ∧ (v = bxR u L 11 0 ∧ fr [160, 161] [1, 2, 3, 4, 5, 6, 49] G g ∧ g 109 1 = 0 ∧ (bxR u L 11 0 = -1 → g 109 49 = G 109 49 ∧ g 160 = G 160) ∧ (bxR u L 11 0 ≠ -1 → g 109 49 = bxR u L 11 0 ∧ ∀ j : Nat, (j : Int) < bxR u L 11 0 → g 160 j = cV u L j))) 73 [pR 109, pI ((10 : Nat) : Int), pI (k : Int)] [] g' := by
            intro m'
            induction m' with
            | zero =>
              intro k g' hk e1 e2 e3
              obtain rfl : k = 10 := by omega
              refine v227_73 ⟨fun _ => ⟨_, rfl, hb.symm, F9.trans e1, by rw [e2.f 1 (by decide), pset_ne _ _ (by decide)]; exact g1, fun w => by omega, fun _ => ⟨by rw [e2.f 49 (by decide), pset_eq, hb], fun j hj => e3 j (by omega)⟩⟩, fun w => by omega⟩
            | succ m' ihm =>
              intro k g' hk e1 e2 e3
              refine v227_73 ⟨fun w => by omega, fun _ => ⟨by omega, by omega, by omega, by omega, ?_⟩⟩
              rw [w32_id (by omega) (by omega), Int.toNat_natCast, e2.c 161 (by decide), pset_cl _ _ (by decide), g161 k (by omega)]
              rintro _ rfl
              refine ihm (k + 1) _ (by omega) (e1.trans (fr.set (by decide) (by decide) _ _ _)) (e2.trans (fr.set (by decide) (by decide) _ _ _)) (fun j hj => ?_)
              by_cases e : j = k
              · subst e; rw [pset_eq]
              · rw [pset_ne _ _ e]; exact e3 j (by omega)
          exact CP 10 0 _ rfl (fr.refl _ _ _) (fr.refl _ _ _) (fun j hj => by omega)
        · rw [if_neg z] at hb
          have bad : ∃ v : Int, (some (pI (-1)) : Option pV) = some (pI v) ∧ (v = bxR u L 11 0 ∧ fr [160, 161] [1, 2, 3, 4, 5, 6, 49] G g ∧ g 109 1 = 0 ∧ (bxR u L 11 0 = -1 → g 109 49 = G 109 49 ∧ g 160 = G 160) ∧ (bxR u L 11 0 ≠ -1 → g 109 49 = bxR u L 11 0 ∧ ∀ j : Nat, (j : Int) < bxR u L 11 0 → g 160 j = cV u L j)) := ⟨-1, rfl, hb.symm, f1.mono (by decide) (by decide), g1, fun _ => ⟨f1.f 49 (by decide), f1.c 160 (by decide)⟩, fun w => absurd hb w⟩
          exact ⟨fun _ => bad, fun _ => ⟨fun _ => bad, fun w => absurd rfl w⟩⟩
      | succ m ih =>
        intro n g hn hb f1 g1 hg g4 g5 g6 g161
        have hbe : bxR u L (m + 1 + 1) n = if cK u L n = 0 then (n : Int) else if n < 10 ∧ bOk u L n = true then bxR u L (m + 1) (n + 1) else -1 := rfl
        rw [hbe] at hb
        have bad : bxR u L 11 0 = -1 → ∃ v : Int, (some (pI (-1)) : Option pV) = some (pI v) ∧ (v = bxR u L 11 0 ∧ fr [160, 161] [1, 2, 3, 4, 5, 6, 49] G g ∧ g 109 1 = 0 ∧ (bxR u L 11 0 = -1 → g 109 49 = G 109 49 ∧ g 160 = G 160) ∧ (bxR u L 11 0 ≠ -1 → g 109 49 = bxR u L 11 0 ∧ ∀ j : Nat, (j : Int) < bxR u L 11 0 → g 160 j = cV u L j)) := fun hb => ⟨-1, rfl, hb.symm, f1.mono (by decide) (by decide), g1, fun _ => ⟨f1.f 49 (by decide), f1.c 160 (by decide)⟩, fun w => absurd hb w⟩
        refine v227_6 ?_
        rw [g5]
        refine ⟨fun z => ?_, fun z => ⟨fun y => bad (by rw [hb, if_neg z, if_neg (fun w => y (of_decide_eq_true w.2).1)]), fun y => ⟨fun w => by omega, fun _ => ?_⟩⟩⟩
        · rw [if_pos z] at hb
          rintro _ rfl
          have F9 : fr [160, 161] [1, 2, 3, 4, 5, 6, 49] G (pset g 109 49 (n : Int)) := (f1.mono (by decide) (by decide)).trans (fr.setF (by decide) _ _)
          have CP : ∀ (m' k : Nat) (g' : pG), k + m' = n → fr [160, 161] [1, 2, 3, 4, 5, 6, 49] (pset g 109 49 (n : Int)) g' → fr [160] [] (pset g 109 49 (n : Int)) g' → (∀ j : Nat, j < k → g' 160 j = cV u L j) → pEnds pMT d 227 Yc (fun r g => ∃ v : Int, r = some (pI v) ∧ (v = bxR u L 11 0 ∧ fr [160, 161] [1, 2, 3, 4, 5, 6, 49] G g ∧ g 109 1 = 0 ∧ (bxR u L 11 0 = -1 → g 109 49 = G 109 49 ∧ g 160 = G 160) ∧ (bxR u L 11 0 ≠ -1 → g 109 49 = bxR u L 11 0 ∧ ∀ j : Nat, (j : Int) < bxR u L 11 0 → g 160 j = cV u L j))) 73 [pR 109, pI (n : Int), pI (k : Int)] [] g' := by
            intro m'
            induction m' with
            | zero =>
              intro k g' hk e1 e2 e3
              obtain rfl : k = n := by omega
              refine v227_73 ⟨fun _ => ⟨_, rfl, hb.symm, F9.trans e1, by rw [e2.f 1 (by decide), pset_ne _ _ (by decide)]; exact g1, fun w => by omega, fun _ => ⟨by rw [e2.f 49 (by decide), pset_eq, hb], fun j hj => e3 j (by omega)⟩⟩, fun w => by omega⟩
            | succ m' ihm =>
              intro k g' hk e1 e2 e3
              refine v227_73 ⟨fun w => by omega, fun _ => ⟨by omega, by omega, by omega, by omega, ?_⟩⟩
              rw [w32_id (by omega) (by omega), Int.toNat_natCast, e2.c 161 (by decide), pset_cl _ _ (by decide), g161 k (by omega)]
              rintro _ rfl
              refine ihm (k + 1) _ (by omega) (e1.trans (fr.set (by decide) (by decide) _ _ _)) (e2.trans (fr.set (by decide) (by decide) _ _ _)) (fun j hj => ?_)
              by_cases e : j = k
              · subst e; rw [pset_eq]
              · rw [pset_ne _ _ e]; exact e3 j (by omega)
          exact CP n 0 _ (by omega) (fr.refl _ _ _) (fr.refl _ _ _) (fun j hj => by omega)
        · rw [g6 y]
          refine pC1.of (by omega) s166 ⟨fun w => ⟨by omega, by omega, ?_⟩, fun w => bad (by rw [hb, if_neg z, if_neg (fun v => b2i_0.mp w (of_decide_eq_true v.2).2)])⟩
          have w := b2i_n0.mp w
          have ok : bOk u L n = true := decide_eq_true ⟨y, w⟩
          rw [if_neg z, if_pos ⟨by omega, ok⟩] at hb
          rw [w32_id (by omega) (by omega), Int.toNat_natCast, g6 y]
          rintro _ rfl
          have F6 : fr [161] [] g (pset g 161 n (cV u L n)) := fr.set (by decide) (by decide) _ _ _
          have hB : tpR (pset g 161 n (cV u L n)) u L := hg.mv (F6.f 2 (by decide)) (F6.c 110 (by decide))
          refine pC0.ox (by omega) (s171 hB (cs_le u L (n + 1)) (by rw [pset_cl _ _ (by decide)]; exact g4) (by omega)) (fun B hB2 => ?_)
          refine ih (n + 1) B (by omega) hb (f1.trans ((F6.mono (by decide) (by decide)).trans (hB2.1.mono (by decide) (by decide)))) (by rw [hB2.1.f 1 (by decide), pset_cl _ _ (by decide)]; exact g1) (hB.mv (hB2.1.f 2 (by decide)) (hB2.1.c 110 (by decide))) hB2.2.1 hB2.2.2.2.1 hB2.2.2.2.2 (fun j hj => ?_)
          rw [hB2.1.c 161 (by decide)]
          by_cases e : j = n
          · subst e; rw [pset_eq]
          · rw [pset_ne _ _ e]; exact g161 j (by omega)
    exact LP 10 0 A rfl rfl (hA.1.mono (by decide) (by decide)) hA.2.1 hA.2.2.1 hA.2.2.2.1 hA.2.2.2.2.2.1 hA.2.2.2.2.2.2 (fun j hj => by omega)
  obtain ⟨v, G', h1, rfl, h2⟩ := key
  exact ⟨G', h1, h2⟩
theorem pr_box : pPx [1, 73, 74, 75, 160, 161] [1, 2, 3, 4, 5, 6, 49] (fun G => rTape G ∧ rWh G ∧ rTr G) (fun _ G' => rTape G' ∧ rWh G' ∧ rTr G') 147 227 [] := by
  rintro G ⟨hT, hW, hTr⟩
  have hT' := hT
  have hu := rTape_u hT
  obtain ⟨t1, t2, t3, t4⟩ := hT
  obtain ⟨L, hL⟩ : ∃ L : Nat, G 109 1 = (L : Int) := ⟨(G 109 1).toNat, by omega⟩
  have hG : tpC G (uOf G) L := ⟨by rw [t1, hL], by omega, hu.1, hu.2.2⟩
  obtain ⟨A, a1, a2, a3, a4⟩ := s108 (d := 58) hG (by omega)
  have F1 : fr [1, 73, 74, 75] [] A (pset A 1 2 0) := fr.set (by decide) (by decide) _ _ _
  have FB := a2.trans F1
  obtain ⟨D, d1, d2, d3, d4, d5⟩ := s227 (d := 59) (G := pset A 1 2 0) (u := uOf G) (L := L) (by rw [FB.f 1 (by decide), hL]) (by omega) (by rw [FB.c 110 (by decide)]; exact hu.2) (by omega)
  have FD : fr [1, 73, 74, 75, 160, 161] [1, 2, 3, 4, 5, 6, 49] G D := (FB.mono (by decide) (by decide)).trans (d2.mono (by decide) (by decide))
  refine ⟨_, pset A 1 2 0, D, pRuns.of rfl rfl (v147_0 (pC1.of (by omega) a1 (fun v hv => rI hv rfl))), d1, FB.mono (by decide) (by decide), FD, ?_, ?_, ?_⟩
  · refine ⟨by rw [d2.c 1 (by decide), pset_eq, d3], by omega, by omega, fun i hi => ?_⟩
    rw [FD.c 2 (by decide), FD.c 110 (by decide)]
    exact t4 i hi
  · have e73 : D 73 = A 73 := by rw [d2.c 73 (by decide), pset_cl _ _ (by decide)]
    have e74 : D 74 = A 74 := by rw [d2.c 74 (by decide), pset_cl _ _ (by decide)]
    unfold rWh at *
    by_cases hb : bxR (uOf G) L 11 0 = -1
    · rw [e73, e74, (a3 hb).1, (a3 hb).2, (d4 hb).1, (d4 hb).2, FB.f 49 (by decide), FB.c 160 (by decide)]
      exact hW
    · obtain ⟨b1, b2, b3, b4, b5⟩ := a4 hb
      obtain ⟨c1, c2⟩ := d5 hb
      rw [e73, e74, c1]
      refine ⟨b1, b2, b3, fun i hi => ?_⟩
      have ok := of_decide_eq_true (b5 i hi).2
      rw [(b5 i hi).1, c2 i hi]
      exact ⟨rfl, ok.2.1, ok.2.2⟩
  · have e73 : ∀ j : Nat, j ≠ 1 → D 73 j = G 73 j := by
      intro j hj
      rw [d2.c 73 (by decide), pset_cl _ _ (by decide)]
      by_cases hb : bxR (uOf G) L 11 0 = -1
      · rw [(a3 hb).1]
      · exact (a4 hb).2.2.2.1 j hj
    unfold rTr at *
    rw [FD.f 50 (by decide), FD.f 56 (by decide), FD.f 57 (by decide), FD.c 76 (by decide), FD.c 77 (by decide), FD.c 162 (by decide), FD.c 163 (by decide), e73 5 (by decide), e73 6 (by decide), e73 7 (by decide)]
    exact hTr
