/-! what to gauge next: the pick -/
def stP (M : Nat → Nat → Int) (tot : Int) (D : Nat → Nat → Prop) (few pk : Int) : Prop := (pk = -1 ∧ few = tot ∧ ∀ i s, D i s → tot ≤ M i s) ∨ (∃ i s : Nat, D i s ∧ pk = 10 * (i : Int) + (s : Int) ∧ few = M i s ∧ few < tot ∧ ∀ i' s' : Nat, D i' s' → few < M i' s' ∨ (few = M i' s' ∧ pk ≤ 10 * (i' : Int) + (s' : Int)))
theorem stP_un {M : Nat → Nat → Int} {tot : Int} {D D' : Nat → Nat → Prop} {a b a' b' : Int} (e : ∀ i s, D i s ↔ D' i s) (h : stP M tot D a b) (h' : stP M tot D' a' b') : b = b' := by
  rcases h with ⟨h1, h2, h3⟩ | ⟨i, s, h1, h2, h3, h4, h5⟩
  · rcases h' with ⟨k1, k2, k3⟩ | ⟨i', s', k1, k2, k3, k4, k5⟩
    · omega
    · have := h3 i' s' ((e i' s').mpr k1); omega
  · rcases h' with ⟨k1, k2, k3⟩ | ⟨i', s', k1, k2, k3, k4, k5⟩
    · have := k3 i s ((e i s).mp h1); omega
    · have q1 := h5 i' s' ((e i' s').mpr k1)
      have q2 := k5 i s ((e i s).mp h1)
      omega
theorem stP_new {M : Nat → Nat → Int} {tot : Int} {D D' : Nat → Nat → Prop} {a b : Int} {i s : Nat} (h : stP M tot D a b) (e : ∀ i' s', D' i' s' ↔ D i' s' ∨ (i' = i ∧ s' = s)) (hn : M i s < a ∨ (M i s = a ∧ b ≠ -1 ∧ 10 * (i : Int) + (s : Int) < b)) : stP M tot D' (M i s) (10 * (i : Int) + (s : Int)) := by
  rcases h with ⟨h1, h2, h3⟩ | ⟨i0, s0, h1, h2, h3, h4, h5⟩
  · refine Or.inr ⟨i, s, (e i s).mpr (Or.inr ⟨rfl, rfl⟩), rfl, rfl, by omega, fun i' s' hd => ?_⟩
    rcases (e i' s').mp hd with hd | ⟨rfl, rfl⟩
    · have := h3 i' s' hd; omega
    · omega
  · refine Or.inr ⟨i, s, (e i s).mpr (Or.inr ⟨rfl, rfl⟩), rfl, rfl, by omega, fun i' s' hd => ?_⟩
    rcases (e i' s').mp hd with hd | ⟨rfl, rfl⟩
    · have := h5 i' s' hd; omega
    · omega
theorem stP_old {M : Nat → Nat → Int} {tot : Int} {D D' : Nat → Nat → Prop} {a b : Int} {i s : Nat} (h : stP M tot D a b) (e : ∀ i' s', D' i' s' ↔ D i' s' ∨ (i' = i ∧ s' = s)) (hn : a ≤ M i s) (hn2 : M i s = a → b = -1 ∨ b ≤ 10 * (i : Int) + (s : Int)) : stP M tot D' a b := by
  rcases h with ⟨h1, h2, h3⟩ | ⟨i0, s0, h1, h2, h3, h4, h5⟩
  · refine Or.inl ⟨h1, h2, fun i' s' hd => ?_⟩
    rcases (e i' s').mp hd with hd | ⟨rfl, rfl⟩
    · exact h3 i' s' hd
    · omega
  · refine Or.inr ⟨i0, s0, (e i0 s0).mpr (Or.inl h1), h2, h3, h4, fun i' s' hd => ?_⟩
    rcases (e i' s').mp hd with hd | ⟨rfl, rfl⟩
    · exact h5 i' s' hd
    · by_cases q : M i' s' = a
      · have := hn2 q; omega
      · omega
/-- how many tell u, and the most that tell alike -/
def nTl (G : pG) (l : List vBk) (i s : Nat) (u : Int) : Int := lSm (bSm (fun h w q => if vTell G h w q (i : Int) s = u then 1 else 0)) l
def mTl (G : pG) (l : List vBk) (i s : Nat) : Int := mxN (fun v => nTl G l i s ((v : Int) - 8)) 40
theorem nTl_c {G G' : pG} (h : G' 115 = G 115) (l : List vBk) (i s : Nat) (u : Int) : nTl G' l i s u = nTl G l i s u := by
  unfold nTl vTell
  rw [h]
def nW6 : List Nat := [103, 104, 105, 106, 107, 108]
theorem s39 {d : Nat} {G : pG} {l : List vBk} {s i : Nat} {T few pk tot : Int} {D D' : Nat → Nat → Prop} (hT : G 115 s = T) (hT0 : 0 ≤ T) (ok : ∀ b ∈ l, okB G b) (hl : l.length ≤ 1015) (hi : i < 20) (hs : s < 7) (hM : nM G s T l (i : Int) 0) (h7 : G 103 7 = few) (h8 : G 103 8 = pk) (hS : stP (mTl G l) tot D few pk) (e : ∀ i' s', D' i' s' ↔ D i' s' ∨ (i' = i ∧ s' = s)) (hd : 2 ≤ d) : ∃ G', pRuns pMT d 39 [pR 103, pI (i : Int), pI (s : Int)] Yc G none G' ∧ (fr nW6 [] G G' ∧ G' 107 = G 107 ∧ nM G' s T l (i : Int) 125 ∧ stP (mTl G l) tot D' (G' 103 7) (G' 103 8)) := by
  refine pX0 rfl rfl (v39_0 ?_)
  refine pC1.ox (by omega) (s41 (d := d - 1) hT hT0 ok hl hi hM (by omega)) (fun r A hA => ?_)
  obtain ⟨a1, a2, a3⟩ := hA
  have em : r = mTl G l i s := a3
  have A7 : A 103 7 = few := by rw [a1.c 103 (by decide)]; exact h7
  have A8 : A 103 8 = pk := by rw [a1.c 103 (by decide)]; exact h8
  have fA : fr nW6 [] G A := a1.mono (by decide) (by decide)
  have put : ∀ y : Int, y = 10 * (i : Int) + (s : Int) → (r < few ∨ (r = few ∧ pk ≠ -1 ∧ 10 * (i : Int) + (s : Int) < pk)) → (none : Option pV) = none ∧ (fr nW6 [] G (pset (pset A 103 7 r) 103 8 y) ∧ pset (pset A 103 7 r) 103 8 y 107 = G 107 ∧ nM (pset (pset A 103 7 r) 103 8 y) s T l (i : Int) 125 ∧ stP (mTl G l) tot D' (pset (pset A 103 7 r) 103 8 y 103 7) (pset (pset A 103 7 r) 103 8 y 103 8)) := by
    intro y hy hn
    refine ⟨rfl, fA.trans ((fr.set (by decide) (by decide) _ _ _).trans (fr.set (by decide) (by decide) _ _ _)), by rw [pset_cl _ _ (by decide), pset_cl _ _ (by decide), a1.c 107 (by decide)], ?_, ?_⟩
    · unfold nM at *
      rw [pset_cl _ _ (by decide), pset_cl _ _ (by decide), pset_cl _ _ (by decide), pset_cl _ _ (by decide), pset_cl _ _ (by decide), pset_cl _ _ (by decide), pset_cl _ _ (by decide), pset_cl _ _ (by decide)]
      exact a2
    · rw [pset_eq, pset_ne _ _ (by decide), pset_eq, hy, em]
      exact stP_new hS e (by rw [← em]; exact hn)
  have kp : few ≤ r → (r = few → pk = -1 ∨ pk ≤ 10 * (i : Int) + (s : Int)) → (none : Option pV) = none ∧ (fr nW6 [] G A ∧ A 107 = G 107 ∧ nM A s T l (i : Int) 125 ∧ stP (mTl G l) tot D' few pk) := by
    intro h1 h2
    refine ⟨rfl, fA, a1.c 107 (by decide), a2, ?_⟩
    exact stP_old hS e (by rw [← em]; exact h1) (by rw [← em]; exact h2)
  rw [w32_id (x := 10 * (i : Int)) (by omega) (by omega), w32_id (x := 10 * (i : Int) + (s : Int)) (by omega) (by omega), A7, A8]
  rintro x3 rfl x4 hx4
  refine ⟨fun z => put x4 hx4 (Or.inl z), fun z => ⟨fun z2 => kp z (fun q => absurd q z2), fun z2 => ⟨fun z3 => kp z (fun _ => Or.inl z3), fun z3 => ⟨fun z4 => kp z (fun _ => Or.inr (by omega)), fun z4 => put x4 hx4 (Or.inr ⟨z2, z3, by omega⟩)⟩⟩⟩⟩
theorem mTl_c {G G' : pG} (h : G' 115 = G 115) (l : List vBk) : mTl G' l = mTl G l := by
  funext i s
  exact mxN_c 40 (fun v _ => nTl_c h l i s _)
theorem s38 {d : Nat} {G : pG} {l : List vBk} (hP : rPart G) (h : bkM G l) (hl : l.length ≤ 1015) (hd : 4 ≤ d) : ∃ r G', pRuns pMT d 38 [pR 103] Yc G (some (pI r)) G' ∧ (fr nW6 [] G G' ∧ ∃ few : Int, stP (mTl G l) (G 92 3) (fun i s => i < 20 ∧ (s : Int) < G 109 11) few r) := by
  have n0 := hP.n0
  have n1 := hP.n1
  refine pX1 rfl rfl (v38_0 ?_)
  obtain ⟨Z, hZ⟩ : ∃ Z, Z = pset (pset G 103 7 (G 92 3)) 103 8 (-1) := ⟨_, rfl⟩
  rw [← hZ]
  have fZ : fr nW6 [] G Z := by rw [hZ]; exact (fr.set (by decide) (by decide) _ _ _).trans (fr.set (by decide) (by decide) _ _ _)
  have okG := h.2.2.2.2
  have inv : ∀ g : pG, fr nW6 [] G g → rPart g ∧ bkM g l ∧ mTl g l = mTl G l ∧ (∀ b ∈ l, okB g b) := by
    intro g f
    have b := bkM_c (G' := g) (fun c hc => f.1 c (by revert hc; revert c; decide) (by revert hc; revert c; decide)) (f.f 10 (by decide)) (f.f 11 (by decide)) h
    exact ⟨f.mv rPart_dep (by decide) (by decide) hP, b, mTl_c (f.c 115 (by decide)) l, b.2.2.2.2⟩
  have H : ∀ (m s : Nat) (g : pG), (s : Int) + m = G 109 11 → fr nW6 [] G g → stP (mTl G l) (G 92 3) (fun i' s' => i' < 20 ∧ s' < s) (g 103 7) (g 103 8) → pEnds pMT d 38 Yc (fun r g => ∃ v : Int, r = some (pI v) ∧ (fr nW6 [] G g ∧ ∃ few : Int, stP (mTl G l) (G 92 3) (fun i s => i < 20 ∧ (s : Int) < G 109 11) few v)) 18 [pR 103, pI (s : Int), pU] [] g := by
    intro m
    induction m with
    | zero =>
      intro s g hs f1 f2
      obtain ⟨hPg, -, -, -⟩ := inv g f1
      refine v38_18 ⟨fun _ => ⟨g 103 8, rfl, f1, g 103 7, ?_⟩, fun z => by rw [hPg.steps, f1.f 11 (by decide)] at z; omega⟩
      have : (fun i' s' : Nat => i' < 20 ∧ s' < s) = (fun i' s' : Nat => i' < 20 ∧ (s' : Int) < G 109 11) := by
        funext i' s'
        exact propext ⟨fun q => ⟨q.1, by omega⟩, fun q => ⟨q.1, by omega⟩⟩
      rw [← this]
      exact f2
    | succ m ih =>
      intro s g hs f1 f2
      obtain ⟨hPg, hbg, -, -⟩ := inv g f1
      have hs2 : (s : Int) < g 109 11 := by rw [f1.f 11 (by decide)]; omega
      refine v38_18 ⟨fun z => by rw [hPg.steps, f1.f 11 (by decide)] at z; omega, fun _ => ?_⟩
      refine pC0.ox (by omega) (s40 hPg hbg hl hs2 (by omega)) (fun A hA => ?_)
      have fA : fr nW6 [] G A := f1.trans (hA.1.mono (by decide) (by decide))
      have hT : A 115 s = g 115 s := by rw [hA.1.c 115 (by decide)]
      have T0 := (hPg.step s hs2).2.2.2.2.1
      have MA := nS_M hA.2 okG
      have IN : ∀ (n i : Nat) (g' : pG), i + n = 20 → fr nW6 [] G g' → nM g' s (g 115 s) l (i : Int) 0 → stP (mTl G l) (G 92 3) (fun i' s' => (i' < 20 ∧ s' < s) ∨ (s' = s ∧ i' < i)) (g' 103 7) (g' 103 8) → pEnds pMT d 38 Yc (fun r g => ∃ v : Int, r = some (pI v) ∧ (fr nW6 [] G g ∧ ∃ few : Int, stP (mTl G l) (G 92 3) (fun i s => i < 20 ∧ (s : Int) < G 109 11) few v)) 36 [pR 103, pI (s : Int), pI (i : Int)] [] g' := by
        intro n
        induction n with
        | zero =>
          intro i g' hi k1 k2 k3
          obtain rfl : i = 20 := by omega
          refine v38_36 ⟨fun _ => ?_, fun z => by omega⟩
          rw [w32_id (by omega) (by omega)]
          rintro _ rfl
          refine ih (s + 1) g' (by omega) k1 ?_
          have : (fun i' s' : Nat => i' < 20 ∧ s' < s + 1) = (fun i' s' : Nat => (i' < 20 ∧ s' < s) ∨ (s' = s ∧ i' < 20)) := by
            funext i' s'
            exact propext ⟨fun q => by omega, fun q => by omega⟩
          rw [this]
          exact k3
        | succ n ihn =>
          intro i g' hi k1 k2 k3
          obtain ⟨hPg', hbg', em, okg'⟩ := inv g' k1
          refine v38_36 ⟨fun z => by omega, fun _ => ?_⟩
          rw [← em] at k3
          refine pC0.ox (by omega) (s39 (d := d - 1) (D' := fun i' s' => (i' < 20 ∧ s' < s) ∨ (s' = s ∧ i' < i + 1)) (T := g 115 s) (by rw [k1.c 115 (by decide), f1.c 115 (by decide)]) T0 okg' hl (by omega) (by omega) k2 rfl rfl k3 (fun i' s' => by omega) (by omega)) (fun C hC => ?_)
          obtain ⟨c1, c2, c3, c4⟩ := hC
          rw [em] at c4
          rw [w32_id (by omega) (by omega)]
          rintro _ rfl
          refine ihn (i + 1) C (by omega) (k1.trans c1) ?_ c4
          have := nM_n c3
          rw [show ((i + 1 : Nat) : Int) = (i : Int) + 1 by omega]
          exact this
      rintro _ rfl
      refine IN 20 0 A rfl fA MA ?_
      rw [hA.1.c 103 (by decide)]
      have : (fun i' s' : Nat => (i' < 20 ∧ s' < s) ∨ (s' = s ∧ i' < 0)) = (fun i' s' : Nat => i' < 20 ∧ s' < s) := by
        funext i' s'
        exact propext ⟨fun q => by omega, fun q => by omega⟩
      rw [this]
      exact f2
  rintro _ rfl
  refine H (G 109 11).toNat 0 Z (by omega) fZ (Or.inl ⟨?_, ?_, fun i s q => by omega⟩)
  · rw [hZ, pset_eq]
  · rw [hZ, pset_ne _ _ (by decide), pset_eq]
/-- the reference's way -/
def cTl (G : pG) (f : Nat → Bool) (i s : Nat) (u : Int) (n : Nat) : Int := vSm (fun n => if f n = true then (if vTel G (n : Int) (i : Int) s = u then 1 else 0) else 0) n
theorem vTel_b19 {G : pG} (hP : rPart G) {n i : Int} {s : Nat} (h0 : 0 ≤ n) (h1 : n ≤ vCau G - 1) (h3 : 0 ≤ i) (h4 : i ≤ 19) : -8 ≤ vTel G n i s ∧ vTel G n i s ≤ 31 := by
  obtain ⟨k1, k2, k3, k4, k5, k6⟩ := cau_bd hP h0 h1
  have t := td5 (vH G n * i)
  have a : -7 ≤ (vH G n * i).tdiv 5 ∧ (vH G n * i).tdiv 5 ≤ 7 := by
    have hh : vH G n = -2 ∨ vH G n = -1 ∨ vH G n = 0 ∨ vH G n = 1 ∨ vH G n = 2 := by omega
    rcases hh with h | h | h | h | h <;> rw [h] at t ⊢ <;> omega
  have wb : 0 ≤ wBy (vW G n) ∧ wBy (vW G n) ≤ 5 := by unfold wBy; split <;> omega
  have db : 0 ≤ dBy (vD G n) * i / 5 ∧ dBy (vD G n) * i / 5 ≤ 15 := by
    have hh : dBy (vD G n) = 0 ∨ dBy (vD G n) = 1 ∨ dBy (vD G n) = 2 ∨ dBy (vD G n) = 3 ∨ dBy (vD G n) = 4 := by unfold dBy; split <;> omega
    rcases hh with h | h | h | h | h <;> rw [h] <;> omega
  unfold vTel vTell
  split <;> split <;> omega
theorem s261 {d : Nat} {G : pG} {f : Nat → Bool} {i s : Nat} (hP : rPart G) (hM : ftM G f (vCau G).toNat) (hi : i < 20) (hs : (s : Int) < G 109 11) (hd : 3 ≤ d) : ∃ r G', pRuns pMT d 261 [pR 109, pI (i : Int), pI (s : Int)] Yc G (some (pI r)) G' ∧ (fr [173] [] G G' ∧ 0 ≤ r ∧ (∀ v : Nat, v < 100 → cTl G f i s ((v : Int) - 50) (vCau G).toNat ≤ r) ∧ (r = 0 ∨ ∃ v : Nat, v < 100 ∧ r = cTl G f i s ((v : Int) - 50) (vCau G).toNat)) := by
  obtain ⟨c1, c2, c3⟩ := vCau_e hP
  refine pX1 rfl rfl (v261_0 ?_)
  have cb : ∀ (u : Int) (n : Nat), 0 ≤ cTl G f i s u n ∧ cTl G f i s u n ≤ (n : Int) := fun u n => by
    have := vSm_bd (f := fun n => if f n = true then (if vTel G (n : Int) (i : Int) s = u then (1 : Int) else 0) else 0) (B := 1) (by omega) n (fun k _ => by
      show 0 ≤ (if f k = true then (if vTel G (k : Int) (i : Int) s = u then (1 : Int) else 0) else 0) ∧ (if f k = true then (if vTel G (k : Int) (i : Int) s = u then (1 : Int) else 0) else 0) ≤ 1
      split <;> (try split) <;> omega)
    unfold cTl
    omega
  have H2 : ∀ (m n : Nat) (g : pG) (r : Int), n + m = (vCau G).toNat → fr [173] [] G g → (∀ v : Nat, v < 100 → g 173 v = cTl G f i s ((v : Int) - 50) n) → 0 ≤ r → (∀ v : Nat, v < 100 → cTl G f i s ((v : Int) - 50) n ≤ r) → (r = 0 ∨ ∃ v : Nat, v < 100 ∧ r = cTl G f i s ((v : Int) - 50) n) → pEnds pMT d 261 Yc (fun r g => ∃ v : Int, r = some (pI v) ∧ (fr [173] [] G g ∧ 0 ≤ v ∧ (∀ v_1 : Nat, v_1 < 100 → cTl G f i s ((v_1 : Int) - 50) (vCau G).toNat ≤ v) ∧ (v = 0 ∨ ∃ v_1 : Nat, v_1 < 100 ∧ v = cTl G f i s ((v_1 : Int) - 50) (vCau G).toNat))) 26 [pR 109, pI (i : Int), pI (s : Int), pI r, pI (n : Int), pU] [] g := by
    intro m
    induction m with
    | zero =>
      intro n g r hn f1 f2 r0 r1 r2
      obtain rfl : n = (vCau G).toNat := by omega
      have hPg : rPart g := f1.mv rPart_dep (by decide) (by decide) hP
      have eC : vCau g = vCau G := by unfold vCau; rw [f1.f 10 (by decide), f1.f 11 (by decide)]
      refine v261_26 (pC1.of (by omega) (s246 hPg (by omega)) ?_)
      rw [eC]
      exact ⟨fun _ => ⟨r, rfl, f1, r0, r1, r2⟩, fun z => by omega⟩
    | succ m ih =>
      intro n g r hn f1 f2 r0 r1 r2
      have hPg : rPart g := f1.mv rPart_dep (by decide) (by decide) hP
      have eC : vCau g = vCau G := by unfold vCau; rw [f1.f 10 (by decide), f1.f 11 (by decide)]
      have hMg : ftM g f (vCau g).toNat := by
        unfold ftM at *
        rw [f1.c 172 (by decide), eC]
        exact hM
      refine v261_26 (pC1.of (by omega) (s246 hPg (by omega)) ?_)
      rw [eC]
      refine ⟨fun z => by omega, fun _ => pC1.of (by omega) (s254 hMg (by omega) (by omega)) ?_⟩
      rw [w32_id (x := (n : Int) + 1) (by omega) (by omega)]
      have sn : ∀ u : Int, cTl G f i s u (n + 1) = cTl G f i s u n + (if f n = true then (if vTel G (n : Int) (i : Int) s = u then 1 else 0) else 0) := fun u => rfl
      refine ⟨fun z => ?_, fun z => ?_⟩
      · have hf := b2i_n0.mp z
        have tb := vTel_b19 hP (n := (n : Int)) (i := (i : Int)) (s := s) (by omega) (by omega) (by omega) (by omega)
        have et : vTel g (n : Int) (i : Int) s = vTel G (n : Int) (i : Int) s := vTel_c (f1.f 10 (by decide)) (f1.f 11 (by decide)) (f1.c 115 (by decide)) _ _ _
        refine pC1.of (by omega) (s250 hPg (by omega) (by rw [eC]; omega) (by omega) (by omega) (by rw [f1.f 11 (by decide)]; exact hs) (by omega)) ?_
        rw [et]
        obtain ⟨V, hV⟩ : ∃ V : Nat, vTel G (n : Int) (i : Int) s + 50 = (V : Int) := ⟨(vTel G (n : Int) (i : Int) s + 50).toNat, by omega⟩
        have cbv := cb ((V : Int) - 50) n
        rw [hV, w32_id (by omega) (by omega)]
        intro x5 hx5
        rw [hx5, Int.toNat_natCast, pset_eq, pmx_eq, f2 V (by omega), w32_id (by omega) (by omega)]
        refine ⟨by omega, by omega, by omega, by omega, by omega, by omega, ?_⟩
        intro x3 hx3 x4 hx4
        rw [hx4]
        have sv : cTl G f i s ((V : Int) - 50) (n + 1) = cTl G f i s ((V : Int) - 50) n + 1 := by rw [sn, if_pos hf, if_pos (by omega)]
        have so : ∀ v : Nat, v ≠ V → cTl G f i s ((v : Int) - 50) (n + 1) = cTl G f i s ((v : Int) - 50) n := fun v hv => by rw [sn, if_pos hf, if_neg (by omega), Int.add_zero]
        refine ih (n + 1) _ x3 (by omega) (f1.trans (fr.set (by decide) (by decide) _ _ _)) (fun v hv => ?_) (by omega) (fun v hv => ?_) ?_
        · rw [pset_at, if_pos rfl]
          by_cases e : v = V
          · subst e; rw [if_pos rfl, sv]
          · rw [if_neg e, so v e, f2 v hv]
        · by_cases e : v = V
          · subst e; rw [sv]; omega
          · rw [so v e]; have := r1 v hv; omega
        · by_cases q : cTl G f i s ((V : Int) - 50) n + 1 ≤ r
          · rcases r2 with r2 | ⟨v, v1, v2⟩
            · omega
            · refine Or.inr ⟨v, v1, ?_⟩
              by_cases e : v = V
              · subst e; omega
              · rw [so v e]; omega
          · exact Or.inr ⟨V, by omega, by rw [sv]; omega⟩
      · have hf := b2i_0.mp z
        have so : ∀ u : Int, cTl G f i s u (n + 1) = cTl G f i s u n := fun u => by rw [sn, if_neg hf, Int.add_zero]
        intro x4 hx4
        rw [hx4]
        refine ih (n + 1) g r (by omega) f1 (fun v hv => by rw [so]; exact f2 v hv) r0 (fun v hv => by rw [so]; exact r1 v hv) ?_
        rcases r2 with r2 | ⟨v, v1, v2⟩
        · exact Or.inl r2
        · exact Or.inr ⟨v, v1, by rw [so]; exact v2⟩
  have H1 : ∀ (m j : Nat) (g : pG), j + m = 100 → fr [173] [] G g → (∀ v : Nat, v < j → g 173 v = 0) → pEnds pMT d 261 Yc (fun r g => ∃ v : Int, r = some (pI v) ∧ (fr [173] [] G g ∧ 0 ≤ v ∧ (∀ v_1 : Nat, v_1 < 100 → cTl G f i s ((v_1 : Int) - 50) (vCau G).toNat ≤ v) ∧ (v = 0 ∨ ∃ v_1 : Nat, v_1 < 100 ∧ v = cTl G f i s ((v_1 : Int) - 50) (vCau G).toNat))) 2 [pR 109, pI (i : Int), pI (s : Int), pI (j : Int), pU, pU] [] g := by
    intro m
    induction m with
    | zero =>
      intro j g hj f1 f2
      obtain rfl : j = 100 := by omega
      refine v261_2 ⟨fun _ => ?_, fun z => by omega⟩
      rintro _ rfl _ rfl
      exact H2 (vCau G).toNat 0 g 0 (by omega) f1 (fun v hv => by rw [f2 v hv]; rfl) (by omega) (fun v hv => Int.le_refl _) (Or.inl rfl)
    | succ m ih =>
      intro j g hj f1 f2
      refine v261_2 ⟨fun z => by omega, fun _ => ⟨by omega, by omega, ?_⟩⟩
      rw [w32_id (by omega) (by omega), Int.toNat_natCast]
      rintro _ rfl
      refine ih (j + 1) _ (by omega) (f1.trans (fr.set (by decide) (by decide) _ _ _)) (fun v hv => ?_)
      rw [pset_at, if_pos rfl]
      split
      · rfl
      · exact f2 v (by omega)
  rintro _ rfl
  exact H1 100 0 G rfl (fr.refl _ _ _) (fun v hv => by omega)
/-- the most alike, either way -/
theorem most_eq {G : pG} (hP : rPart G) (hG : rGau G) (K : Int) {i s : Nat} (hi : i < 20) {r : Int} (r0 : 0 ≤ r) (r1 : ∀ v : Nat, v < 100 → cTl G (fN G K) i s ((v : Int) - 50) (vCau G).toNat ≤ r) (r2 : r = 0 ∨ ∃ v : Nat, v < 100 ∧ r = cTl G (fN G K) i s ((v : Int) - 50) (vCau G).toNat) : r = mTl G (vAllG G K) i s := by
  have e : ∀ u : Int, nTl G (vAllG G K) i s u = cTl G (fN G K) i s u (vCau G).toNat := fun u => (tot hP hG K (fun h w q => if vTell G h w q (i : Int) s = u then 1 else 0)).symm
  have z : ∀ u : Int, (u < -8 ∨ 31 < u) → cTl G (fN G K) i s u (vCau G).toNat = 0 := fun u hu => by
    have c0 := vCau_e hP
    unfold cTl
    rw [vSm_c (g := fun _ => 0) _ (fun n hn => ?_), vSm_z]
    have tb := vTel_b19 hP (n := (n : Int)) (i := (i : Int)) (s := s) (by omega) (by omega) (by omega) (by omega)
    rw [if_neg (c := vTel G (n : Int) (i : Int) s = u) (by omega)]
    split <;> rfl
  obtain ⟨m0, m1, m2⟩ := mxN_pr (fun v => nTl G (vAllG G K) i s ((v : Int) - 8)) 40
  have le : r ≤ mTl G (vAllG G K) i s := by
    rcases r2 with r2 | ⟨v, v1, v2⟩
    · rw [r2]; exact m0
    · by_cases q : 42 ≤ v ∧ v < 82
      · have := m1 (v - 42) (by omega)
        rw [e, show ((v - 42 : Nat) : Int) - 8 = (v : Int) - 50 by omega] at this
        rw [v2]
        exact this
      · rw [v2, z _ (by omega)]; exact m0
  have ge : mTl G (vAllG G K) i s ≤ r := by
    rcases m2 with m2 | ⟨v, v1, v2⟩
    · show mxN _ 40 ≤ r
      rw [m2]; exact r0
    · show mxN _ 40 ≤ r
      rw [v2, e]
      have := r1 (v + 42) (by omega)
      rw [show ((v + 42 : Nat) : Int) - 50 = (v : Int) - 8 by omega] at this
      exact this
  omega
theorem cTl_c {G G' : pG} (h1 : G' 109 10 = G 109 10) (h2 : G' 109 11 = G 109 11) (h3 : G' 115 = G 115) (f : Nat → Bool) (i s : Nat) (u : Int) (n : Nat) : cTl G' f i s u n = cTl G f i s u n := by
  unfold cTl
  refine vSm_c n (fun k _ => ?_)
  rw [vTel_c h1 h2 h3]
theorem l262 {d : Nat} {G D : pG} {K : Int} (hP : rPart G) (hG : rGau G) (fD : fr [172] [71, 72] G D) (hM : ftM D (fN G K) (vCau G).toNat) (h71 : D 109 71 = cN (fN G K) (vCau G).toNat) (hd : 4 ≤ d) : pEnds pMT d 262 Yc (fun r g => ∃ v : Int, r = some (pI v) ∧ (fr [173] [] D g ∧ ∃ few : Int, stP (mTl G (vAllG G K)) (cN (fN G K) (vCau G).toNat) (fun i s => i < 20 ∧ (s : Int) < G 109 11) few v)) 16 [pR 109, pI (-1), pI (D 109 71), pI 0, pU, pU] [] D := by
  have n0 := hP.n0
  have n1 := hP.n1
  have H : ∀ (m i : Nat) (g : pG) (pk few : Int), i + m = 20 → fr [173] [] D g → stP (mTl G (vAllG G K)) (cN (fN G K) (vCau G).toNat) (fun i' s' => i' < i ∧ (s' : Int) < G 109 11) few pk → pEnds pMT d 262 Yc (fun r g => ∃ v : Int, r = some (pI v) ∧ (fr [173] [] D g ∧ ∃ few : Int, stP (mTl G (vAllG G K)) (cN (fN G K) (vCau G).toNat) (fun i s => i < 20 ∧ (s : Int) < G 109 11) few v)) 16 [pR 109, pI pk, pI few, pI (i : Int), pU, pU] [] g := by
    intro m
    induction m with
    | zero =>
      intro i g pk few hi f1 f2
      obtain rfl : i = 20 := by omega
      exact v262_16 ⟨fun _ => ⟨pk, rfl, f1, few, f2⟩, fun z => by omega⟩
    | succ m ih =>
      intro i g pk few hi f1 f2
      refine v262_16 ⟨fun z => by omega, fun _ => ?_⟩
      have IN : ∀ (n s : Nat) (g : pG) (pk few : Int), (s : Int) + n = G 109 11 → fr [173] [] D g → stP (mTl G (vAllG G K)) (cN (fN G K) (vCau G).toNat) (fun i' s' => (i' < i ∧ (s' : Int) < G 109 11) ∨ (i' = i ∧ s' < s)) few pk → pEnds pMT d 262 Yc (fun r g => ∃ v : Int, r = some (pI v) ∧ (fr [173] [] D g ∧ ∃ few : Int, stP (mTl G (vAllG G K)) (cN (fN G K) (vCau G).toNat) (fun i s => i < 20 ∧ (s : Int) < G 109 11) few v)) 25 [pR 109, pI pk, pI few, pI (i : Int), pI (s : Int), pU] [] g := by
        intro n
        induction n with
        | zero =>
          intro s g pk few hs f1 f2
          have eg : g 109 11 = G 109 11 := by rw [f1.f 11 (by decide), fD.f 11 (by decide)]
          refine v262_25 ⟨fun _ => ?_, fun z => by rw [eg] at z; omega⟩
          rw [w32_id (by omega) (by omega)]
          rintro _ rfl
          refine ih (i + 1) g pk few (by omega) f1 ?_
          have : (fun i' s' : Nat => i' < i + 1 ∧ (s' : Int) < G 109 11) = (fun i' s' : Nat => (i' < i ∧ (s' : Int) < G 109 11) ∨ (i' = i ∧ s' < s)) := by
            funext i' s'
            exact propext ⟨fun q => by omega, fun q => by omega⟩
          rw [this]
          exact f2
        | succ n ihn =>
          intro s g pk few hs f1 f2
          have fg : fr [172, 173] [71, 72] G g := (fD.mono (by decide) (by decide)).trans (f1.mono (by decide) (by decide))
          have eg : g 109 11 = G 109 11 := fg.f 11 (by decide)
          have hPg : rPart g := fg.mv rPart_dep (by decide) (by decide) hP
          have eC : vCau g = vCau G := by unfold vCau; rw [fg.f 10 (by decide), fg.f 11 (by decide)]
          have hMg : ftM g (fN G K) (vCau g).toNat := by
            unfold ftM at *
            rw [f1.c 172 (by decide), eC]
            exact hM
          refine v262_25 ⟨fun z => by rw [eg] at z; omega, fun _ => ?_⟩
          refine pC1.ox (by omega) (s261 (d := d - 1) (i := i) (s := s) hPg hMg (by omega) (by rw [eg]; omega) (by omega)) (fun r C hC => ?_)
          obtain ⟨q1, q2, q3, q4⟩ := hC
          have ec : ∀ u : Int, cTl g (fN G K) i s u (vCau g).toNat = cTl G (fN G K) i s u (vCau G).toNat := fun u => by rw [eC]; exact cTl_c (fg.f 10 (by decide)) (fg.f 11 (by decide)) (fg.c 115 (by decide)) _ _ _ _ _
          have em : r = mTl G (vAllG G K) i s := most_eq hP hG K (by omega) q2 (fun v hv => by rw [← ec]; exact q3 v hv) (by
            rcases q4 with q4 | ⟨v, v1, v2⟩
            · exact Or.inl q4
            · exact Or.inr ⟨v, v1, by rw [← ec]; exact v2⟩)
          rw [w32_id (x := 10 * (i : Int)) (by omega) (by omega), w32_id (x := 10 * (i : Int) + (s : Int)) (by omega) (by omega), w32_id (x := (s : Int) + 1) (by omega) (by omega)]
          have eD : ∀ i' s' : Nat, ((i' < i ∧ (s' : Int) < G 109 11) ∨ (i' = i ∧ s' < s + 1)) ↔ ((i' < i ∧ (s' : Int) < G 109 11) ∨ (i' = i ∧ s' < s)) ∨ (i' = i ∧ s' = s) := fun i' s' => by omega
          intro x5 hx5
          refine ⟨fun z => ?_, fun z => ?_⟩
          · intro x2 hx2 x1 hx1 x4 hx4
            rw [hx4, hx1, hx2, hx5, em]
            refine ihn (s + 1) C _ _ (by omega) (f1.trans q1) (stP_new f2 eD (Or.inl ?_))
            rw [← em, ← hx5]
            exact z
          · intro x4 hx4
            rw [hx4]
            refine ihn (s + 1) C pk few (by omega) (f1.trans q1) (stP_old f2 eD (by rw [← em, ← hx5]; exact z) (fun _ => ?_))
            rcases f2 with ⟨p1, -, -⟩ | ⟨i0, s0, p0, p1, -, -, -⟩
            · exact Or.inl p1
            · refine Or.inr ?_
              omega
      rintro _ rfl
      refine IN (G 109 11).toNat 0 g pk few (by omega) f1 ?_
      have : (fun i' s' : Nat => (i' < i ∧ (s' : Int) < G 109 11) ∨ (i' = i ∧ s' < 0)) = (fun i' s' : Nat => i' < i ∧ (s' : Int) < G 109 11) := by
        funext i' s'
        exact propext ⟨fun q => by omega, fun q => by omega⟩
      rw [this]
      exact f2
  refine H 20 0 D (-1) (D 109 71) rfl (fr.refl _ _ _) (Or.inl ⟨rfl, h71, fun i s q => by omega⟩)
def fW62 : List Nat := [80, 88, 89, 90, 92, 93, 94, 95, 96, 97, 98, 99, 100, 101, 102, 103, 104, 105, 106, 107, 108, 172, 173]
theorem pr_next : pPx fW62 [71, 72] (fun G => rPart G ∧ rGau G ∧ rFit G) (fun _ G' => fitPost G') 162 262 [] := by
  rintro G ⟨hP, hG, hF⟩
  obtain ⟨A, a1, a2, hPA, hGA, hFA, a5, hok2, a6, a7, eC, eN, eV⟩ := views (d := 58) (K := 999) hP hG hF (by omega) (by omega) (by omega)
  rw [← eV] at a5
  obtain ⟨r, B, b1, b2, few, b3⟩ := s38 (d := 58) hPA a5 (bk_len hPA 999) (by omega)
  have hPB : rPart B := b2.mv rPart_dep (by decide) (by decide) hPA
  have hGB : rGau B := rGau_mv hGA (fun c h => b2.1 c (by revert h; revert c; decide) (by revert h; revert c; decide)) (fun j h => b2.2 j (by simp)) (by rw [b2.c 80 (by decide)]) (by rw [b2.c 80 (by decide)]) (by rw [b2.c 80 (by decide)])
  have hFB : rFit B := rFit_mv hFA (fun c h => b2.1 c (by revert h; revert c; decide) (by revert h; revert c; decide)) (fun j h => b2.2 j (by simp))
  have eB := fN_c (G := A) (G' := B) (fun c h => b2.1 c (by revert h; revert c; decide) (by revert h; revert c; decide)) (fun j h => b2.2 j (by simp)) 999
  have eBV := vAll_c (G := A) (G' := B) (fun c h => b2.1 c (by revert h; revert c; decide) (by revert h; revert c; decide)) (fun j h => b2.2 j (by simp)) 999
  obtain ⟨D, d1, d2, d3, d4, d5⟩ := s255 (d := 58) (K := 999) hPB hGB (by omega)
  have L := l262 (d := 59) (K := 999) hPB hGB d2 d3 d4 (by omega)
  have c : ∃ v G', pRuns pMT 59 262 [pR 109] Yc B (some (pI v)) G' ∧ (fr [173] [] D G' ∧ ∃ few : Int, stP (mTl B (vAllG B 999)) (cN (fN B 999) (vCau B).toNat) (fun i s => i < 20 ∧ (s : Int) < B 109 11) few v) := by
    refine pX1 rfl rfl (v262_0 (pC0.of (by omega) d1 ?_))
    rintro _ rfl _ rfl _ rfl
    exact L
  obtain ⟨v, E, e1, e2, few', e3⟩ := c
  have er : v = r := by
    rw [eBV.1, mTl_c (b2.c 115 (by decide)), eB.1, eB.2, b2.f 11 (by decide), eN, eC, ← a6] at e3
    exact stP_un (fun _ _ => Iff.rfl) e3 b3
  have fAB : fr fW62 [71, 72] G B := (a2.mono (by decide) (by decide)).trans (b2.mono (by decide) (by decide))
  have fBE : fr fW62 [71, 72] B E := (d2.mono (by decide) (by decide)).trans (e2.mono (by decide) (by decide))
  have fin : fitPost E := by
    obtain ⟨p1, p2⟩ := fitPost_mv d2 hGB hFB
    exact ⟨rGau_mv p1 (fun c h => e2.1 c (by revert h; revert c; decide) (by revert h; revert c; decide)) (fun j h => e2.2 j (by simp)) (by rw [e2.c 80 (by decide)]) (by rw [e2.c 80 (by decide)]) (by rw [e2.c 80 (by decide)]), rFit_mv p2 (fun c h => e2.1 c (by revert h; revert c; decide) (by revert h; revert c; decide)) (fun j h => e2.2 j (by simp))⟩
  refine ⟨r, B, E, pRuns.of rfl rfl (v162_0 (pC0.of (by omega) a1 (pC1.of (by omega) b1 (rI rfl rfl)))), ?_, fAB, fAB.trans fBE, fin⟩
  rw [← er]
  exact e1
