/-! the reference's plan: orders -/
def und (S : Nat) (A : Nat → Nat → Bool) : Int := vSm (fun k => vSm (fun l => if k < l ∧ A k l = false ∧ A l k = false then 1 else 0) S) S
theorem und_0 (S : Nat) (A : Nat → Nat → Bool) : 0 ≤ und S A := (vSm_ge1 (fun k => (vSm_ge1 (fun l => by split <;> omega) S).1) S).1
theorem und_lt {S : Nat} {A B : Nat → Nat → Bool} {k l : Nat} (hkl : k < l) (hl : l < S) (hs : ∀ i j, i < S → j < S → A i j = true → B i j = true) (h1 : A k l = false) (h2 : A l k = false) (h3 : B k l = true ∨ B l k = true) : und S B + 1 ≤ und S A := by
  have cw : ∀ i j, i < S → j < S → (if i < j ∧ B i j = false ∧ B j i = false then (1 : Int) else 0) ≤ (if i < j ∧ A i j = false ∧ A j i = false then 1 else 0) := by
    intro i j hi hj
    by_cases q : i < j ∧ B i j = false ∧ B j i = false
    · have a1 : A i j = false := by
        cases c : A i j with
        | false => rfl
        | true => have := hs i j hi hj c; rw [q.2.1] at this; exact absurd this (by decide)
      have a2 : A j i = false := by
        cases c : A j i with
        | false => rfl
        | true => have := hs j i hj hi c; rw [q.2.2] at this; exact absurd this (by decide)
      rw [if_pos q, if_pos ⟨q.1, a1, a2⟩]
      omega
    · rw [if_neg q]; split <;> omega
  unfold und
  refine vSm_lt (j := k) S (by omega) (fun i hi => vSm_le S (fun j hj => cw i j hi hj)) ?_
  refine vSm_lt (j := l) S hl (fun j hj => cw k j (by omega) hj) ?_
  rw [if_neg (c := k < l ∧ B k l = false ∧ B l k = false) (fun q => by
    rcases h3 with h3 | h3
    · rw [q.2.1] at h3; exact absurd h3 (by decide)
    · rw [q.2.2] at h3; exact absurd h3 (by decide)), if_pos (c := k < l ∧ A k l = false ∧ A l k = false) ⟨hkl, h1, h2⟩]
  omega
theorem und_bd {S : Nat} (hS : S ≤ 7) (A : Nat → Nat → Bool) : und S A ≤ 21 := by
  have h1 : und S A ≤ vSm (fun k => max 0 ((S : Int) - ((k : Int) + 1))) S := by
    refine vSm_le S (fun k hk => ?_)
    have r := rng 1 ((k : Int) + 1) ((S : Int) - 1) (by omega) S
    rw [show min ((S : Int) - 1 + 1) (S : Int) = (S : Int) by omega, Int.one_mul] at r
    rw [← r]
    refine vSm_le S (fun l hl => ?_)
    by_cases q : k < l ∧ A k l = false ∧ A l k = false
    · rw [if_pos q, if_pos (by omega)]; omega
    · rw [if_neg q]; split <;> omega
  have h2 : ∀ S : Nat, S ≤ 7 → vSm (fun k => max 0 ((S : Int) - ((k : Int) + 1))) S ≤ 21 := by decide
  have := h2 S hS
  omega
def bok (S : Nat) (G : pG) : Prop := G 109 34 = -1 ∨ (plF S (vTn G) (vWt G) (vFi G) (G 152) ∧ G 109 34 = plL S (vTn G) (G 152))
def W96 : List Nat := [127, 128, 129, 130, 131, 132, 133, 134, 135, 136, 137, 138, 139, 140, 141, 142, 143, 144, 145, 146, 147, 148, 149, 150, 151, 152]
def oPost (S : Nat) (G : pG) (dp : Nat) (G' : pG) : Prop := fr W96 [34] G G' ∧ (∀ e, e ≤ dp → G' (127 + e) = G (127 + e)) ∧ bok S G' ∧ (G 109 34 ≠ -1 → G' 109 34 ≠ -1 ∧ plLe S (G' 109 34) (G' 152) (G 109 34) (G 152)) ∧ (∀ b, plF S (vTn G) (vWt G) (vFi G) b → solA S (vTn G) (aB G dp) b → G' 109 34 ≠ -1 ∧ plLe S (G' 109 34) (G' 152) (plL S (vTn G) b) b)
theorem W96_m {e : Nat} (h : e < 24) : 127 + e ∈ W96 := by
  have : ∀ e : Nat, e < 24 → 127 + e ∈ W96 := by decide
  exact this e h
/-- what the plan rests on stays -/
theorem pl_c {G G' : pG} (f : fr W96 [34] G G') : vTn G' = vTn G ∧ vWt G' = vWt G ∧ vFi G' = vFi G := by
  refine ⟨vTn_c (fun c hc => f.1 c (by revert hc; revert c; decide) (by revert hc; revert c; decide)), ?_, ?_⟩
  · funext k l; unfold vWt; rw [f.c 118 (by decide)]
  · funext k l; unfold vFi; rw [f.c 115 (by decide), f.c 114 (by decide)]
theorem bok_c {S : Nat} {G G' : pG} (f : fr W96 [34] G G') (h1 : G' 109 34 = G 109 34) (h2 : G' 152 = G 152) (h : bok S G) : bok S G' := by
  obtain ⟨e1, e2, e3⟩ := pl_c f
  unfold bok at *
  rw [h1, h2, e1, e2, e3]
  exact h
theorem s196_aux (S n : Nat) (IH : ∀ n', n' + 1 = n → ∀ {d dp : Nat} {G : pG}, rPart G → G 109 11 = (S : Int) → (∀ k l, k < S → l < S → vFi G k l = vFi G l k) → okR G S dp → (∀ k l, k < S → l < S → vWt G k l = true → aB G dp k l = true) → und S (aB G dp) ≤ (n' : Int) → dp + n' ≤ 22 → n' + 3 ≤ d → bok S G → ∃ G', pRuns pMT d 196 [pR 109, pI (dp : Int)] Yc G none G' ∧ oPost S G dp G') {d dp : Nat} {G : pG} (hP : rPart G) (hS : G 109 11 = (S : Int)) (hsy : ∀ k l, k < S → l < S → vFi G k l = vFi G l k) (hR : okR G S dp) (hWA : ∀ k l, k < S → l < S → vWt G k l = true → aB G dp k l = true) (hu : und S (aB G dp) ≤ (n : Int)) (hdn : dp + n ≤ 22) (hd : n + 3 ≤ d) (hb : bok S G) : ∃ G', pRuns pMT d 196 [pR 109, pI (dp : Int)] Yc G none G' ∧ oPost S G dp G' := by
  have n1 := hP.n1
  have hS7 : S ≤ 7 := by omega
  have ht : ∀ k, k < S → 1 ≤ vTn G k ∧ vTn G k ≤ 20099 := fun k hk => (vTn_bd hP (by omega)).2.2
  refine pX0 rfl rfl (v196_0 ?_)
  refine pC1.ox (by omega) (s194 hP hS (by omega) hR (by omega)) (fun r A hA => ?_)
  obtain ⟨fA, rA⟩ := hA
  have FA : fr W96 [34] G A := fA.mono (by decide) (by decide)
  have e34 : A 109 34 = G 109 34 := fA.f 34 (by decide)
  have e152 : A 152 = G 152 := fA.c 152 (by decide)
  have hbA : bok S A := bok_c FA e34 e152 hb
  have rows : ∀ e, e ≤ dp → A (127 + e) = G (127 + e) := fun e he => fA.1 _ (by simp; omega) (by omega)
  have hPA : rPart A := fA.mv rPart_dep (by decide) (by decide) hP
  have hSA : A 109 11 = (S : Int) := by rw [fA.f 11 (by decide)]; exact hS
  obtain ⟨cT, cW, cF⟩ := pl_c FA
  -- nothing better below
  have same : (∀ b, plF S (vTn G) (vWt G) (vFi G) b → solA S (vTn G) (aB G dp) b → A 109 34 ≠ -1 ∧ plLe S (A 109 34) (A 152) (plL S (vTn G) b) b) → oPost S G dp A := fun hc => ⟨FA, rows, hbA, fun z => by rw [e34, e152]; exact ⟨z, plLe_rf _ _ _⟩, hc⟩
  rintro x2 rfl
  refine ⟨fun z => ⟨rfl, same (fun b _ hs => ?_)⟩, fun z => ?_⟩
  · rcases rA with ⟨-, no⟩ | ⟨h1, -⟩
    · exact absurd hs (no b)
    · have := (plL_ge S (vTn G) (A 151)).1
      omega
  rcases rA with ⟨h1, -⟩ | ⟨h1, solE, bdE, leE⟩
  · exact absurd h1 z
  obtain ⟨r2, c195, p195⟩ := s195 (d := d - 1) (G := A) (S := S) (x := x2) hSA hS7
  have eLe : ∀ b, plF S (vTn G) (vWt G) (vFi G) b → solA S (vTn G) (aB G dp) b → plLe S x2 (A 151) (plL S (vTn G) b) b := fun b _ hs => by rw [h1]; exact plLe_cw (leE b hs)
  refine pC1.of (by omega) c195 ⟨fun y => ?_, fun y => ⟨rfl, same (fun b hf hs => ?_)⟩⟩
  rotate_left
  · rcases p195 with ⟨-, q1, q2⟩ | ⟨q1, -⟩
    · exact ⟨q1, plLe_tr q2 (eLe b hf hs)⟩
    · exact absurd q1 y
  rcases p195 with ⟨q1, -⟩ | ⟨-, nb⟩
  · omega
  -- the plan is the begins at the earliest
  have DONE : (∀ k l, k < S → l < S → k < l → vFi G k l = true → A 151 k + vTn G k ≤ A 151 l ∨ A 151 l + vTn G l ≤ A 151 k) → pEnds pMT d 196 Yc (fun r g => r = none ∧ oPost S G dp g) 230 [pR 109, pU, pU, pI 0, pU, pU, pU, pU] [] (pset A 109 34 x2) := by
    intro ok
    have fe : plF S (vTn G) (vWt G) (vFi G) (A 151) := by
      refine ⟨solE.1, fun k l hk hl hw => solE.2 l k hl hk (hWA l k hl hk hw), fun k l hk hl hne hf => ?_⟩
      by_cases q : k < l
      · exact ok k l hk hl q hf
      · have := ok l k hl hk (by omega) (by rw [hsy l k hl hk]; exact hf)
        omega
    have H : ∀ (m k : Nat) (g : pG), k + m = S → fr [152] [] (pset A 109 34 x2) g → (∀ j, j < k → g 152 j = A 151 j) → pEnds pMT d 196 Yc (fun r g => r = none ∧ oPost S G dp g) 230 [pR 109, pU, pU, pI (k : Int), pU, pU, pU, pU] [] g := by
      intro m
      induction m with
      | zero =>
        intro k g hk f h
        have g34 : g 109 34 = x2 := by rw [f.f 34 (by decide), pset_eq]
        have F0 : fr W96 [34] A g := (fr.setF (by decide) _ _).trans (f.mono (by decide) (by decide))
        have FG := FA.trans F0
        obtain ⟨c1, c2, c3⟩ := pl_c FG
        have eq : eqS S (A 151) (g 152) := fun j hj => (h j (by omega)).symm
        refine v196_230 ⟨fun _ => ⟨rfl, FG, fun e he => ?_, Or.inr ⟨?_, ?_⟩, fun w => ⟨?_, ?_⟩, fun b hf hs => ⟨?_, ?_⟩⟩, fun w => ?_⟩
        · rw [f.1 _ (by simp; omega) (by omega), pset_cl _ _ (by omega)]
          exact rows e he
        · rw [c1, c2, c3]; exact plF_c eq fe
        · rw [c1, g34, h1]; exact plL_c eq
        · rw [g34]; exact z
        · rw [g34]
          rcases nb with nb | nb
          · rw [e34] at nb; exact absurd nb w
          · rw [← e34, ← e152]
            exact plLe_tr (Or.inr ⟨rfl, Or.inr (fun j hj => (eq j hj).symm)⟩) nb
        · rw [g34]; exact z
        · rw [g34]
          exact plLe_tr (Or.inr ⟨rfl, Or.inr (fun j hj => (eq j hj).symm)⟩) (eLe b hf hs)
        · rw [f.f 11 (by decide), pset_ne _ _ (by decide), hSA] at w
          omega
      | succ m ihm =>
        intro k g hk f h
        refine v196_230 ⟨fun w => ?_, fun _ => ⟨by omega, by omega, by omega, by omega, ?_⟩⟩
        · rw [f.f 11 (by decide), pset_ne _ _ (by decide), hSA] at w
          omega
        · rw [w32_id (by omega) (by omega), Int.toNat_natCast]
          rintro _ rfl
          refine ihm (k + 1) _ (by omega) (f.trans (fr.set (by decide) (by decide) _ _ _)) (fun j hj => ?_)
          rw [pset_at, if_pos rfl]
          split
          · rename_i e
            rw [f.c 151 (by decide), pset_cl _ _ (by decide), e]
          · exact h j (by omega)
    exact H S 0 _ (by omega) (fr.refl _ _ _) (fun j hj => by omega)
  -- one of the two ahead of the other
  have WAY : ∀ k l, k < l → l < S → vFi G k l = true → A 151 k < A 151 l + vTn G l → A 151 l < A 151 k + vTn G k → pEnds pMT d 196 Yc (fun r g => r = none ∧ oPost S G dp g) 117 [pR 109, pI (dp : Int), pU, pI (k : Int), pI (l : Int), pU, pI 0, pU] [] A := by
    intro k l hkl hl hf g1 g2
    have ukl : aB G dp k l = false := by
      cases c : aB G dp k l with
      | false => rfl
      | true => have := solE.2 k l (by omega) hl c; omega
    have ulk : aB G dp l k = false := by
      cases c : aB G dp l k with
      | false => rfl
      | true => have := solE.2 l k hl (by omega) c; omega
    -- a call below, with y ahead of x
    have SUB : ∀ (x y : Nat) (g : pG), ((x = l ∧ y = k) ∨ (x = k ∧ y = l)) → fr W96 [34] G g → (∀ e, e ≤ dp → g (127 + e) = G (127 + e)) → bok S g → (∀ i, i < S → g (127 + (dp + 1)) i = G (127 + dp) i) → ∃ G', pRuns pMT (d - 1) 196 [pR 109, pI ((dp + 1 : Nat) : Int)] Yc (pset g (127 + (dp + 1)) x (por (g (127 + (dp + 1)) x) (pshl 1 (y : Int)))) none G' ∧ (fr W96 [34] G G' ∧ (∀ e, e ≤ dp → G' (127 + e) = G (127 + e)) ∧ bok S G' ∧ (g 109 34 ≠ -1 → G' 109 34 ≠ -1 ∧ plLe S (G' 109 34) (G' 152) (g 109 34) (g 152)) ∧ ∀ b, plF S (vTn G) (vWt G) (vFi G) b → solA S (vTn G) (aB G dp) b → b y + vTn G y ≤ b x → G' 109 34 ≠ -1 ∧ plLe S (G' 109 34) (G' 152) (plL S (vTn G) b) b) := by
      intro x y g hxy f rg hbg cp
      have hx : x < S := by omega
      have hy : y < S := by omega
      have rx := hR x hx
      obtain ⟨p1, p2, p3, p4⟩ := por_set (a := G (127 + dp) x) (k := y) rx.1 (by omega) (by omega)
      have p5 := p4 7 (by omega) (by omega) (by omega)
      obtain ⟨h, hh⟩ : ∃ h, h = pset g (127 + (dp + 1)) x (por (g (127 + (dp + 1)) x) (pshl 1 (y : Int))) := ⟨_, rfl⟩
      rw [← hh]
      have F1 : fr [127 + (dp + 1)] [] g h := by rw [hh]; exact fr.set (by simp) (by omega) _ _ _
      have F1' : fr W96 [34] g h := F1.mono (fun c hc => by rw [List.mem_singleton] at hc; rw [hc]; exact W96_m (by omega)) (by decide)
      have FH := f.trans F1'
      obtain ⟨c1, c2, c3⟩ := pl_c FH
      have hrow : ∀ i, i < S → h (127 + (dp + 1)) i = if i = x then por (G (127 + dp) x) (pshl 1 (y : Int)) else G (127 + dp) i := fun i hi => by
        rw [hh, pset_at, if_pos rfl]
        by_cases e : i = x
        · rw [if_pos e, if_pos e, cp x hx]
        · rw [if_neg e, if_neg e, cp i hi]
      have hA : ∀ i j, i < S → aB h (dp + 1) i j = (aB G dp i j || (decide (i = x) && decide (j = y))) := fun i j hi => by
        unfold aB
        rw [hrow i hi]
        by_cases e : i = x
        · subst e
          rw [if_pos rfl, p3]
          simp
        · rw [if_neg e]
          simp [e]
      have sub : ∀ i j, i < S → j < S → aB G dp i j = true → aB h (dp + 1) i j = true := fun i j hi _ q => by rw [hA i j hi, q]; rfl
      have nw : aB h (dp + 1) x y = true := by rw [hA x y hx]; simp
      have dec : und S (aB h (dp + 1)) + 1 ≤ und S (aB G dp) := und_lt hkl hl sub ukl ulk (by
        rcases hxy with ⟨e1, e2⟩ | ⟨e1, e2⟩
        · rw [e1, e2] at nw; exact Or.inr nw
        · rw [e1, e2] at nw; exact Or.inl nw)
      have u0 := und_0 S (aB h (dp + 1))
      obtain ⟨n', hn'⟩ : ∃ n', n' + 1 = n := ⟨n - 1, by omega⟩
      have hc34 : h 109 34 = g 109 34 := F1.f 34 (by decide)
      have hc152 : h 152 = g 152 := F1.c 152 ⟨by simp; omega, by decide⟩
      obtain ⟨G', r1, o1, o2, o3, o4, o5⟩ := IH n' hn' (d := d - 1) (dp := dp + 1) (G := h) (FH.mv rPart_dep (by decide) (by decide) hP) (by rw [FH.f 11 (by decide)]; exact hS) (by rw [c3]; exact hsy) (fun i hi => by
        rw [hrow i hi]
        split
        · exact ⟨p1, by omega⟩
        · exact hR i hi) (fun i j hi hj hw => sub i j hi hj (hWA i j hi hj (by rw [← c2]; exact hw))) (by omega) (by omega) (by omega) (bok_c F1' hc34 hc152 hbg)
      refine ⟨G', r1, FH.trans o1, fun e he => ?_, o3, ?_, fun b hf hs hy => ?_⟩
      · rw [o2 e (by omega), F1.1 _ (by simp; omega) (by omega), rg e he]
      · rw [hc34, hc152] at o4; exact o4
      · rw [c1, c2, c3] at o5
        refine o5 b hf ⟨hs.1, fun i j hi hj ha => ?_⟩
        rw [hA i j hi, Bool.or_eq_true, Bool.and_eq_true, decide_eq_true_iff, decide_eq_true_iff] at ha
        rcases ha with ha | ⟨e1, e2⟩
        · exact hs.2 i j hi hj ha
        · rw [e1, e2]; exact hy
    obtain ⟨rw1, rw2, rw3⟩ := row126 dp (by omega)
    obtain ⟨rx1, rx2, rx3⟩ := row126 (dp + 1) (by omega)
    have eD : w32 ((dp : Int) + 1) = ((dp + 1 : Nat) : Int) := by rw [w32_id (by omega) (by omega)]; omega
    -- rows copied
    have CP : ∀ (w : Int), (w = 0 ∨ w = 1) → ∀ (m j : Nat) (g g0 : pG), j + m = S → fr W96 [34] G g0 → (∀ e, e ≤ dp → g0 (127 + e) = G (127 + e)) → fr [127 + (dp + 1)] [] g0 g → (∀ i, i < j → g (127 + (dp + 1)) i = G (127 + dp) i) → (∀ g', fr W96 [34] G g' → (∀ e, e ≤ dp → g' (127 + e) = G (127 + e)) → g' 109 34 = g0 109 34 → g' 152 = g0 152 → (∀ i, i < S → g' (127 + (dp + 1)) i = G (127 + dp) i) → pC0 pMT d 196 [pR 109, pI ((dp + 1 : Nat) : Int)] Yc (pset g' (127 + (dp + 1)) (if w = 0 then l else k) (por (g' (127 + (dp + 1)) (if w = 0 then l else k)) (pshl 1 (if w = 0 then (k : Int) else (l : Int))))) (fun G_2 => ∀ x6_2 : Int, x6_2 = w32 (w + 1) → pEnds pMT d 196 Yc (fun r g => r = none ∧ oPost S G dp g) 117 [pR 109, pI (dp : Int), pU, pI (k : Int), pI (l : Int), pU, pI x6_2, pU] [] G_2)) → pEnds pMT d 196 Yc (fun r g => r = none ∧ oPost S G dp g) 126 [pR 109, pI (dp : Int), pU, pI (k : Int), pI (l : Int), pU, pI w, pI (j : Int)] [] g := by
      intro w hw m
      induction m with
      | zero =>
        intro j g g0 hj f0 r0 f1 cp nx
        have fg : fr W96 [34] G g := f0.trans (f1.mono (fun c hc => by rw [List.mem_singleton] at hc; rw [hc]; exact W96_m (by omega)) (by decide))
        have go := nx g fg (fun e he => by rw [f1.1 _ (by simp; omega) (by omega)]; exact r0 e he) (f1.f 34 (by decide)) (f1.c 152 ⟨by simp; omega, by decide⟩) (fun i hi => cp i (by omega))
        refine v196_126 ⟨fun _ => ?_, fun q => by rw [fg.f 11 (by decide), hS] at q; omega⟩
        rw [eD]
        refine ⟨by omega, by omega, 127 + (dp + 1), by rw [Int.toNat_natCast]; exact rx1, ?_⟩
        rw [rx2, rx3]
        simp only [Int.toNat_natCast, cond_true]
        refine ⟨fun q => ?_, fun q => ?_⟩
        · rw [if_neg q, if_neg q] at go
          exact ⟨by omega, by omega, fun _ => ⟨by omega, by omega, go⟩, fun p => absurd p q⟩
        · rw [if_pos q, if_pos q] at go
          exact ⟨by omega, by omega, fun p => absurd q p, fun _ => ⟨by omega, by omega, go⟩⟩
      | succ m ihm =>
        intro j g g0 hj f0 r0 f1 cp nx
        have fg : fr W96 [34] G g := f0.trans (f1.mono (fun c hc => by rw [List.mem_singleton] at hc; rw [hc]; exact W96_m (by omega)) (by decide))
        refine v196_126 ⟨fun q => by rw [fg.f 11 (by decide), hS] at q; omega, fun _ => ?_⟩
        rw [eD]
        refine ⟨by omega, by omega, 127 + (dp + 1), by rw [Int.toNat_natCast]; exact rx1, by omega, by omega, 127 + dp, by rw [Int.toNat_natCast]; exact rw1, ?_⟩
        rw [rx2, rx3, rw2, rw3]
        simp only [Int.toNat_natCast, cond_true]
        refine ⟨by omega, by omega, by omega, by omega, ?_⟩
        rw [w32_id (by omega) (by omega)]
        rintro _ rfl
        refine ihm (j + 1) _ g0 (by omega) f0 r0 (f1.trans (fr.set (by simp) (by omega) _ _ _)) (fun i hi => ?_) nx
        rw [pset_at, if_pos rfl]
        split
        · rename_i e
          rw [f1.1 _ (by simp) (by omega), r0 dp (Nat.le_refl _), e]
        · exact cp i (by omega)
    -- first k ahead of l, then l ahead of k
    refine v196_117 ⟨fun q => by omega, fun _ => ?_⟩
    rintro _ rfl
    refine CP 0 (Or.inl rfl) S 0 A A (by omega) FA rows (fr.refl _ _ _) (fun i hi => by omega) (fun g' f' r' e1' e2' cp' => ?_)
    rw [if_pos rfl, if_pos rfl]
    refine pC0.ox (by omega) (SUB l k g' (Or.inl ⟨rfl, rfl⟩) f' r' (by
      have := FA.1
      obtain ⟨c1, c2, c3⟩ := pl_c f'
      unfold bok at hbA ⊢
      rw [e1', e2', c1, c2, c3]
      rw [cT, cW, cF] at hbA
      exact hbA) cp') (fun B hB => ?_)
    obtain ⟨o1, o2, o3, o4, o5⟩ := hB
    rw [e1', e2', e34, e152] at o4
    rintro _ rfl
    refine v196_117 ⟨fun q => absurd q (by decide), fun _ => ?_⟩
    rintro _ rfl
    refine CP 1 (Or.inr rfl) S 0 B B (by omega) o1 o2 (fr.refl _ _ _) (fun i hi => by omega) (fun g'' f'' r'' e1'' e2'' cp'' => ?_)
    rw [if_neg (by decide), if_neg (by decide)]
    refine pC0.ox (by omega) (SUB k l g'' (Or.inr ⟨rfl, rfl⟩) f'' r'' (by
      obtain ⟨c1, c2, c3⟩ := pl_c f''
      obtain ⟨d1, d2, d3⟩ := pl_c o1
      unfold bok at o3 ⊢
      rw [e1'', e2'', c1, c2, c3]
      rw [d1, d2, d3] at o3
      exact o3) cp'') (fun C hC => ?_)
    obtain ⟨w1, w2, w3, w4, w5⟩ := hC
    rw [e1'', e2''] at w4
    rintro _ rfl
    refine v196_117 ⟨fun _ => ⟨rfl, w1, w2, w3, fun q => ?_, fun b hf hs => ?_⟩, fun q => absurd q (by decide)⟩
    · obtain ⟨p1, p2⟩ := o4 q
      obtain ⟨p3, p4⟩ := w4 p1
      exact ⟨p3, plLe_tr p4 p2⟩
    · rcases hf.2.2 k l (by omega) hl (by omega) (by assumption) with q | q
      · obtain ⟨p1, p2⟩ := o5 b hf hs q
        obtain ⟨p3, p4⟩ := w4 p1
        exact ⟨p3, plLe_tr p4 p2⟩
      · exact w5 b hf hs q
  have OUT : ∀ (m k : Nat), k + m = S → (∀ k' l, k' < k → l < S → k' < l → vFi G k' l = true → A 151 k' + vTn G k' ≤ A 151 l ∨ A 151 l + vTn G l ≤ A 151 k') → pEnds pMT d 196 Yc (fun r g => r = none ∧ oPost S G dp g) 22 [pR 109, pI (dp : Int), pI x2, pI (k : Int), pU, pU, pU, pU] [] A := by
    intro m
    induction m with
    | zero =>
      intro k hk ok
      refine v196_22 ⟨fun _ => ?_, fun q => by rw [hSA] at q; omega⟩
      rintro _ rfl
      exact DONE (fun k' l hk' hl hkl hf => ok k' l (by omega) hl hkl hf)
    | succ m ihm =>
      intro k hk ok
      refine v196_22 ⟨fun q => by rw [hSA] at q; omega, fun _ => ?_⟩
      have IN : ∀ (m' l : Nat), l + m' = S → k < l → (∀ l', k < l' → l' < l → vFi G k l' = true → A 151 k + vTn G k ≤ A 151 l' ∨ A 151 l' + vTn G l' ≤ A 151 k) → pEnds pMT d 196 Yc (fun r g => r = none ∧ oPost S G dp g) 35 [pR 109, pI (dp : Int), pI x2, pI (k : Int), pI (l : Int), pU, pU, pU] [] A := by
        intro m'
        induction m' with
        | zero =>
          intro l hl hkl okl
          refine v196_35 ⟨fun _ => ?_, fun q => by rw [hSA] at q; omega⟩
          rw [w32_id (by omega) (by omega)]
          rintro _ rfl
          refine ihm (k + 1) (by omega) (fun k' l' hk' hl' hkl' hf => ?_)
          by_cases e : k' = k
          · subst e
            exact okl l' hkl' (by omega) hf
          · exact ok k' l' (by omega) hl' hkl' hf
        | succ m' ihl =>
          intro l hl hkl okl
          have bk := bdE k (by omega)
          have bl := bdE l (by omega)
          have nk := solE.1 k (by omega)
          have nl := solE.1 l (by omega)
          have tk := ht k (by omega)
          have tl := ht l (by omega)
          have nxt : (vFi G k l = true → A 151 k + vTn G k ≤ A 151 l ∨ A 151 l + vTn G l ≤ A 151 k) → ∀ x4 : Int, x4 = w32 ((l : Int) + 1) → pEnds pMT d 196 Yc (fun r g => r = none ∧ oPost S G dp g) 35 [pR 109, pI (dp : Int), pI x2, pI (k : Int), pI x4, pU, pU, pU] [] A := by
            intro hn
            rw [w32_id (by omega) (by omega)]
            rintro _ rfl
            refine ihl (l + 1) (by omega) (by omega) (fun l' h1 h2 h3 => ?_)
            by_cases e : l' = l
            · subst e; exact hn h3
            · exact okl l' h1 (by omega) h3
          refine v196_35 ⟨fun q => by rw [hSA] at q; omega, fun _ => pC1.of (by omega) (s193 hPA (by rw [hSA]; omega) (by rw [hSA]; omega)) ?_⟩
          rw [cF]
          refine ⟨fun q => ?_, fun q => ⟨by omega, by omega, by omega, by omega, pC1.of (by omega) (s192 hPA (by rw [hSA]; omega)) ?_⟩⟩
          · rintro _ rfl
            exact ⟨fun w => absurd rfl w, fun _ => nxt (fun w => absurd w (b2i_0.mp q))⟩
          · rw [Int.toNat_natCast, Int.toNat_natCast, cT, w32_id (x := A 151 l + vTn G l) (by omega) (by omega)]
            refine ⟨fun w => ?_, fun w => ⟨by omega, by omega, by omega, by omega, pC1.of (by omega) (s192 hPA (by rw [hSA]; omega)) ?_⟩⟩
            · rintro _ rfl
              exact ⟨fun v => absurd rfl v, fun _ => nxt (fun _ => Or.inr w)⟩
            · rw [cT, w32_id (x := A 151 k + vTn G k) (by omega) (by omega)]
              refine ⟨fun v => ?_, fun v => ?_⟩
              · rintro _ rfl
                exact ⟨fun u => absurd rfl u, fun _ => nxt (fun _ => Or.inl v)⟩
              · rintro _ rfl
                refine ⟨fun _ => ?_, fun u => absurd u (by decide)⟩
                rintro _ rfl
                exact WAY k l hkl (by omega) (b2i_n0.mp q) w v
      rw [w32_id (by omega) (by omega)]
      rintro _ rfl
      exact IN (S - (k + 1)) (k + 1) (by omega) (by omega) (fun l' h1 h2 => by omega)
  rintro _ rfl
  exact OUT S 0 (by omega) (fun k' l h => by omega)
theorem s196 (S : Nat) : ∀ (n : Nat) {d dp : Nat} {G : pG}, rPart G → G 109 11 = (S : Int) → (∀ k l, k < S → l < S → vFi G k l = vFi G l k) → okR G S dp → (∀ k l, k < S → l < S → vWt G k l = true → aB G dp k l = true) → und S (aB G dp) ≤ (n : Int) → dp + n ≤ 22 → n + 3 ≤ d → bok S G → ∃ G', pRuns pMT d 196 [pR 109, pI (dp : Int)] Yc G none G' ∧ oPost S G dp G' := by
  intro n
  induction n with
  | zero =>
    intro d dp G hP hS hsy hR hWA hu hdn hd hb
    exact s196_aux S 0 (fun n' h => by omega) hP hS hsy hR hWA hu hdn hd hb
  | succ n ih =>
    intro d dp G hP hS hsy hR hWA hu hdn hd hb
    exact s196_aux S (n + 1) (fun n' h => by
      obtain rfl : n' = n := by omega
      exact ih) hP hS hsy hR hWA hu hdn hd hb
/-- one behind the other -/
theorem ser_F {S : Nat} {t : Nat → Int} {W F : Nat → Nat → Bool} (ht : ∀ k, k < S → 1 ≤ t k) (hW : ∀ k l, k < S → l < S → W l k = true → k < l) : plF S t W F (vSm t) := by
  have mono : ∀ n, n ≤ S → ∀ k, k < n → vSm t k + t k ≤ vSm t n := by
    intro n
    induction n with
    | zero => intro _ k hk; omega
    | succ n ih =>
      intro hn k hk
      have := ht n (by omega)
      show vSm t k + t k ≤ vSm t n + t n
      by_cases e : k = n
      · subst e; omega
      · have := ih (by omega) k (by omega)
        omega
  have pos : ∀ n, n ≤ S → 0 ≤ vSm t n := by
    intro n
    induction n with
    | zero => intro _; exact Int.le_refl _
    | succ n ih =>
      intro hn
      have := ih (by omega)
      have := ht n (by omega)
      show 0 ≤ vSm t n + t n
      omega
  refine ⟨fun k hk => pos k (by omega), fun k l hk hl hw => mono l (by omega) k (hW k l hk hl hw), fun k l hk hl hne _ => ?_⟩
  by_cases e : k < l
  · exact Or.inl (mono l (by omega) k e)
  · exact Or.inr (mono k (by omega) l (by omega))
theorem ser_L {S : Nat} {t : Nat → Int} (ht : ∀ k, k < S → 1 ≤ t k ∧ t k ≤ 20099) (hS : S ≤ 7) : plL S t (vSm t) ≤ 140693 := by
  refine plL_le (by omega) (fun k hk => ?_)
  have h : ∀ n, n ≤ S → vSm t n ≤ 20099 * (n : Int) := by
    intro n
    induction n with
    | zero => intro _; exact Int.le_refl _
    | succ n ih =>
      intro hn
      have := ih (by omega)
      have := ht n (by omega)
      show vSm t n + t n ≤ _
      omega
  have := h (k + 1) (by omega)
  have this : vSm t k + t k ≤ 20099 * ((k + 1 : Nat) : Int) := this
  omega
/-- the best plan -/
def bst (S : Nat) (t : Nat → Int) (W F : Nat → Nat → Bool) (l : Int) (p : Nat → Int) : Prop := plF S t W F p ∧ l = plL S t p ∧ ∀ b, plF S t W F b → plLe S l p (plL S t b) b
theorem s197 {d : Nat} {G : pG} {S : Nat} (hP : rPart G) (hS : G 109 11 = (S : Int)) (hsy : ∀ k l, k < S → l < S → vFi G k l = vFi G l k) (hd : 26 ≤ d) : ∃ G', pRuns pMT d 197 [pR 109] Yc G none G' ∧ (fr W96 [34] G G' ∧ bst S (vTn G) (vWt G) (vFi G) (G' 109 34) (G' 152) ∧ 0 ≤ G' 109 34 ∧ G' 109 34 ≤ 140693) := by
  have n1 := hP.n1
  have hS7 : S ≤ 7 := by omega
  have ht : ∀ k, k < S → 1 ≤ vTn G k ∧ vTn G k ≤ 20099 := fun k hk => (vTn_bd hP (by omega)).2.2
  obtain ⟨rw1, rw2, rw3⟩ := row126 0 (by omega)
  refine pX0 rfl rfl (v197_0 ?_)
  have F0 : fr W96 [34] G (pset G 109 34 (-1)) := fr.setF (by decide) _ _
  have H : ∀ (m k : Nat) (g : pG), k + m = S → fr W96 [34] G g → g 109 34 = -1 → (∀ j, j < k → g 127 j = G 118 j) → pEnds pMT d 197 Yc (fun r g => r = none ∧ (fr W96 [34] G g ∧ bst S (vTn G) (vWt G) (vFi G) (g 109 34) (g 152) ∧ 0 ≤ g 109 34 ∧ g 109 34 ≤ 140693)) 7 [pR 109, pI (k : Int)] [] g := by
    intro m
    induction m with
    | zero =>
      intro k g hk f h34 h
      obtain rfl : k = S := by omega
      obtain ⟨c1, c2, c3⟩ := pl_c f
      have hSg : g 109 11 = (k : Int) := by rw [f.f 11 (by decide)]; exact hS
      have p7 : ∀ j, j < k → (2 : Int) ^ j ≤ 2 ^ 7 := by
        have : ∀ k : Nat, k ≤ 7 → (2 : Int) ^ k ≤ 2 ^ 7 := by decide
        exact fun j hj => this j (by omega)
      refine v197_7 ⟨fun _ => ?_, fun q => by omega⟩
      refine pC0.ox (by omega) (s196 k 21 (d := d - 1) (dp := 0) (G := g) (f.mv rPart_dep (by decide) (by decide) hP) hSg (by rw [c3]; exact hsy) (fun j hj => ?_) (fun i j hi hj hw => ?_) (by have := und_bd hS7 (aB g 0); omega) (by omega) (by omega) (Or.inl h34)) (fun B hB => ?_)
      · have := hP.step j (by omega)
        have := p7 j hj
        show 0 ≤ g 127 j ∧ g 127 j < 128
        rw [h j hj]
        omega
      · show bt (g 127 i) j = true
        rw [h i hi, ← hw, c2]
        rfl
      · obtain ⟨o1, o2, o3, o4, o5⟩ := hB
        rw [c1, c2, c3] at o5
        obtain ⟨d1, d2, d3⟩ := pl_c (f.trans o1)
        have low : ∀ i j, i < k → j < k → vWt G j i = true → i < j := by
          intro i j hi hj hw
          by_cases q : i < j
          · exact q
          · exfalso
            have st := hP.step j (by omega)
            have := bt_big (a := G 118 j) (k := i) (n := j) st.2.2.2.2.2.2.2.2.2.2.1 st.2.2.2.2.2.2.2.2.2.2.2 (by omega)
            unfold vWt at hw
            rw [this] at hw
            exact absurd hw (by decide)
        have all : ∀ b, plF k (vTn G) (vWt G) (vFi G) b → B 109 34 ≠ -1 ∧ plLe k (B 109 34) (B 152) (plL k (vTn G) b) b := fun b hb => o5 b hb ⟨hb.1, fun i j hi hj ha => by
          have ha : bt (g 127 i) j = true := ha
          rw [h i hi] at ha
          exact hb.2.1 j i hj hi ha⟩
        have ser := all (vSm (vTn G)) (ser_F (fun k hk => (ht k hk).1) low)
        have sl := ser_L ht hS7
        unfold bok at o3
        rw [d1, d2, d3] at o3
        rcases o3 with o3 | ⟨o3, o3'⟩
        · exact absurd o3 ser.1
        · have l0 := (plL_ge k (vTn G) (B 152)).1
          refine ⟨rfl, f.trans o1, ⟨o3, o3', fun b hb => (all b hb).2⟩, by omega, ?_⟩
          rcases ser.2 with q | ⟨q, -⟩ <;> omega
    | succ m ih =>
      intro k g hk f h34 h
      have hSg : g 109 11 = (S : Int) := by rw [f.f 11 (by decide)]; exact hS
      refine v197_7 ⟨fun q => by omega, fun _ => ⟨by omega, by omega, 127, rw1, by omega, by omega, ?_⟩⟩
      rw [rw2, rw3]
      show 0 ≤ (k : Int) ∧ (k : Int) < 7 ∧ _
      refine ⟨by omega, by omega, ?_⟩
      rw [w32_id (by omega) (by omega), Int.toNat_natCast, f.c 118 (by decide)]
      rintro _ rfl
      refine ih (k + 1) _ (by omega) (f.trans (fr.set (by decide) (by decide) _ _ _)) (by rw [pset_cl _ _ (by decide)]; exact h34) (fun j hj => ?_)
      rw [pset_at, if_pos rfl]
      split
      · rename_i e
        rw [e]
      · exact h j (by omega)
  rintro _ rfl
  exact H S 0 _ (by omega) F0 (by rw [pset_eq]) (fun j hj => by omega)
