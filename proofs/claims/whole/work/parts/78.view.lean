/-! what is seen at a stage -/
def oF (G : pG) (k : Nat) (K : Int) : Nat → Int
  | 0 => G 167 k
  | n + 1 => if G 169 n = (k : Int) ∧ G 171 n ≤ K then G 170 n else oF G k K n
def vOff (G : pG) (k : Nat) (K : Int) : Int := oF G k K (G 109 61).toNat
def snI (G : pG) (K : Int) (k : Nat) : List vTri := if G 168 k ≤ K then [(G 165 k, G 166 k, vOff G k K)] else []
def snL (G : pG) (K : Int) : List vTri := cQ (snI G K) (G 109 60).toNat
def tlG (G : pG) (s : Int) : Int := G 115 s.toNat
theorem oF_bd {G : pG} (hG : rGau G) {k : Nat} (hk : (k : Int) < G 109 60) (K : Int) : ∀ n : Nat, (n : Int) ≤ G 109 61 → -99 ≤ oF G k K n ∧ oF G k K n ≤ 99
  | 0, _ => (hG.2.2.2.1 k hk).2.2.2.2.2.2.2.2
  | n + 1, h => by
    have h1 := oF_bd hG hk K n (by omega)
    have h2 := hG.2.2.2.2 n (by omega)
    unfold oF
    split
    · exact h2.2.2.2
    · exact h1
theorem snL_ok {G : pG} (hP : rPart G) (hG : rGau G) (K : Int) : ∀ n : Nat, (n : Int) ≤ G 109 60 → ∀ x ∈ cQ (snI G K) n, (0 ≤ x.1 ∧ x.1 ≤ 39 ∧ 0 ≤ tlG G x.2.1 ∧ tlG G x.2.1 < (((G 109 10).toNat : Nat) : Int)) ∧ 0 ≤ x.2.1 ∧ x.2.1 < G 109 11 ∧ -99 ≤ x.2.2 ∧ x.2.2 ≤ 99
  | 0, _, x, hx => by simp [cQ] at hx
  | n + 1, h, x, hx => by
    rcases List.mem_append.mp hx with h1 | h1
    · exact snL_ok hP hG K n (by omega) x h1
    · unfold snI at h1
      split at h1
      · rw [List.mem_singleton] at h1
        subst h1
        obtain ⟨-, -, -, -, a1, a2, a3, a4, -⟩ := hG.2.2.2.1 n (by omega)
        have st := hP.step (G 166 n).toNat (by omega)
        have of := oF_bd hG (k := n) (by omega) K (G 109 61).toNat (by have := hG.2.1; omega)
        unfold tlG vOff
        exact ⟨⟨a1, a2, st.2.2.2.2.1, by have := st.2.2.2.2.2.1; have := hP.t0; show G 115 (G 166 n).toNat < _; omega⟩, a3, a4, of.1, of.2⟩
      · simp at h1
theorem s243 {d : Nat} {G : pG} {k : Nat} {K : Int} (hG : rGau G) (hk : (k : Int) < G 109 60) : pRuns pMT d 243 [pR 109, pI (k : Int), pI K] Yc G (some (pI (vOff G k K))) G := by
  obtain ⟨⟨g1, g2, -⟩, ⟨r1, r2, -⟩, -, -, -⟩ := hG
  refine pRuns.of rfl rfl (v243_0 ⟨by omega, by omega, ?_⟩)
  rw [Int.toNat_natCast]
  suffices H : ∀ (n i : Nat), (i : Int) + n = G 109 61 → pEnds pMT d 243 Yc (fun r' g => r' = some (pI (vOff G k K)) ∧ g = G) 10 [pR 109, pI (k : Int), pI K, pI (oF G k K i), pI (i : Int)] [] G by
    rintro _ rfl _ rfl
    exact H (G 109 61).toNat 0 (by omega)
  intro n
  induction n with
  | zero =>
    intro i hi
    exact v243_10 ⟨fun _ => rI (by unfold vOff; rw [show (G 109 61).toNat = i by omega]) rfl, fun h => by omega⟩
  | succ n ih =>
    intro i hi
    have nx := ih (i + 1) (by omega)
    refine v243_10 ⟨fun h => by omega, fun _ => ⟨by omega, by omega, ?_⟩⟩
    rw [Int.toNat_natCast, w32_id (by omega) (by omega)]
    unfold oF at nx
    refine ⟨fun z => ?_, fun z => ⟨by omega, by omega, fun y => ?_, fun y => ⟨by omega, by omega, ?_⟩⟩⟩
    · rintro _ rfl
      rw [if_neg (fun w => z w.1)] at nx
      exact nx
    · rintro _ rfl
      rw [if_neg (fun w => by have := w.2; omega)] at nx
      exact nx
    · rintro _ rfl _ rfl
      rw [if_pos ⟨z, y⟩] at nx
      exact nx
theorem s36 {d : Nat} {G : pG} {k : Nat} {K : Int} (hG : rGau G) (hk : (k : Int) < G 109 60) : pRuns pMT d 36 [pR 80, pI (k : Int), pI K] Yc G (some (pI (vOff G k K))) G := by
  obtain ⟨⟨g1, g2, -⟩, ⟨r1, r2, r3⟩, -, g8, g9⟩ := hG
  refine pRuns.of rfl rfl (v36_0 ⟨by omega, by omega, ?_⟩)
  rw [Int.toNat_natCast, (g8 k hk).2.2.2.1]
  suffices H : ∀ (n i : Nat), (i : Int) + n = G 109 61 → pEnds pMT d 36 Yc (fun r' g => r' = some (pI (vOff G k K)) ∧ g = G) 10 [pR 80, pI (k : Int), pI K, pI (oF G k K i), pI (i : Int)] [] G by
    rintro _ rfl _ rfl
    exact H (G 109 61).toNat 0 (by omega)
  intro n
  induction n with
  | zero =>
    intro i hi
    exact v36_10 ⟨fun _ => rI (by unfold vOff; rw [show (G 109 61).toNat = i by omega]) rfl, fun h => by omega⟩
  | succ n ih =>
    intro i hi
    have nx := ih (i + 1) (by omega)
    obtain ⟨e1, e2, e3, -⟩ := g9 i (by omega)
    refine v36_10 ⟨fun h => by omega, fun _ => ⟨by omega, by omega, ?_⟩⟩
    rw [Int.toNat_natCast, w32_id (by omega) (by omega), e1, e2, e3]
    unfold oF at nx
    refine ⟨fun z => ?_, fun z => ⟨by omega, by omega, fun y => ?_, fun y => ⟨by omega, by omega, ?_⟩⟩⟩
    · rintro _ rfl
      rw [if_neg (fun w => z w.1)] at nx
      exact nx
    · rintro _ rfl
      rw [if_neg (fun w => by have := w.2; omega)] at nx
      exact nx
    · rintro _ rfl _ rfl
      rw [if_pos ⟨z, y⟩] at nx
      exact nx
/-- the seen, in the class' memory -/
def snM (G : pG) (l : List vTri) : Prop := G 80 10 = (l.length : Int) ∧ ∀ i : Nat, ∀ x : vTri, l[i]? = some x → G 88 i = x.1 ∧ G 89 i = x.2.1 ∧ G 90 i = x.2.2
theorem cQ_len {G : pG} {K : Int} : ∀ n : Nat, (cQ (snI G K) n).length ≤ n
  | 0 => Nat.le_refl _
  | n + 1 => by
    have := cQ_len (G := G) (K := K) n
    show (cQ (snI G K) n ++ snI G K n).length ≤ n + 1
    rw [List.length_append]
    have : (snI G K n).length ≤ 1 := by unfold snI; split <;> simp
    omega
theorem rGau_mv {G G' : pG} (h : rGau G) (hc : ∀ c ∈ [81, 82, 83, 84, 85, 86, 87, 165, 166, 167, 168, 169, 170, 171], G' c = G c) (hf : ∀ j ∈ [60, 61, 62, 11], G' 109 j = G 109 j) (h0 : G' 80 0 = G 80 0) (h1 : G' 80 1 = G 80 1) (h2 : G' 80 2 = G 80 2) : rGau G' := by
  unfold rGau at *
  rw [hc 81 (by decide), hc 82 (by decide), hc 83 (by decide), hc 84 (by decide), hc 85 (by decide), hc 86 (by decide), hc 87 (by decide), hc 165 (by decide), hc 166 (by decide), hc 167 (by decide), hc 168 (by decide), hc 169 (by decide), hc 170 (by decide), hc 171 (by decide), hf 60 (by decide), hf 61 (by decide), hf 62 (by decide), hf 11 (by decide), h0, h1, h2]
  exact h
theorem vOff_c {G G' : pG} (hc : ∀ c ∈ [167, 169, 170, 171], G' c = G c) (hf : G' 109 61 = G 109 61) (k : Nat) (K : Int) : vOff G' k K = vOff G k K := by
  have : ∀ n : Nat, oF G' k K n = oF G k K n := by
    intro n
    induction n with
    | zero => unfold oF; rw [hc 167 (by decide)]
    | succ n ih => unfold oF; rw [ih, hc 169 (by decide), hc 170 (by decide), hc 171 (by decide)]
  unfold vOff
  rw [this, hf]
theorem s35 {d : Nat} {G : pG} {K : Int} (hG : rGau G) (hd : 1 ≤ d) : ∃ G', pRuns pMT d 35 [pR 80, pI K] Yc G none G' ∧ (fr [80, 88, 89, 90] [] G G' ∧ (∀ j : Nat, j ≠ 10 → G' 80 j = G 80 j) ∧ snM G' (snL G K)) := by
  have hG' := hG
  obtain ⟨⟨g1, g2, g3⟩, -, -, g8, -⟩ := hG
  refine pX0 rfl rfl (v35_0 ?_)
  suffices H : ∀ (n i : Nat) (g : pG), (i : Int) + n = G 109 60 → fr [80, 88, 89, 90] [] G g → (∀ j : Nat, j ≠ 10 → g 80 j = G 80 j) → snM g (cQ (snI G K) i) → pEnds pMT d 35 Yc (fun r g => r = none ∧ (fr [80, 88, 89, 90] [] G g ∧ (∀ j : Nat, j ≠ 10 → g 80 j = G 80 j) ∧ snM g (snL G K))) 7 [pR 80, pI K, pI (i : Int)] [] g by
    rintro _ rfl
    exact H (G 109 60).toNat 0 _ (by omega) (fr.set (by decide) (by decide) _ _ _) (fun j hj => by rw [pset_ne _ _ hj]) ⟨by rw [pset_eq]; rfl, fun i x hx => by simp [cQ] at hx⟩
  intro n
  induction n with
  | zero =>
    intro i g hi f1 f2 f3
    refine v35_7 ⟨fun _ => ⟨rfl, f1, f2, ?_⟩, fun z => by rw [f2 0 (by decide), g3] at z; omega⟩
    unfold snL
    rw [show (G 109 60).toNat = i by omega]
    exact f3
  | succ n ih =>
    intro i g hi f1 f2 f3
    have hi' : (i : Int) < G 109 60 := by omega
    obtain ⟨e1, e2, e3, e4, -⟩ := g8 i hi'
    have hgg : rGau g := rGau_mv hG' (fun c hc => f1.1 c (by revert hc; revert c; decide) (by revert hc; revert c; decide)) (fun j hj => f1.2 j (by simp)) (f2 0 (by decide)) (f2 1 (by decide)) (f2 2 (by decide))
    have len := cQ_len (G := G) (K := K) i
    refine v35_7 ⟨fun z => by rw [f2 0 (by decide), g3] at z; omega, fun _ => ⟨by omega, by omega, ?_⟩⟩
    rw [Int.toNat_natCast, f1.c 81 (by decide), e1, w32_id (x := (i : Int) + 1) (by omega) (by omega)]
    refine ⟨fun z => ?_, fun z => ?_⟩
    · rintro _ rfl
      refine ih (i + 1) g (by omega) f1 f2 ?_
      have : cQ (snI G K) (i + 1) = cQ (snI G K) i := by show cQ (snI G K) i ++ snI G K i = _; rw [show snI G K i = [] by unfold snI; rw [if_neg (by omega)], List.append_nil]
      rw [this]
      exact f3
    · have s1 : cQ (snI G K) (i + 1) = cQ (snI G K) i ++ [(G 165 i, G 166 i, vOff G i K)] := by show cQ (snI G K) i ++ snI G K i = _; rw [show snI G K i = [(G 165 i, G 166 i, vOff G i K)] by unfold snI; rw [if_pos z]]
      generalize hm : (cQ (snI G K) i).length = m at *
      have q10 : g 80 10 = (m : Int) := by rw [f3.1, hm]
      have A1 : pset g 88 m (g 82 i) 80 10 = (m : Int) := by rw [pset_cl _ _ (by decide)]; exact q10
      have A2 : pset (pset g 88 m (g 82 i)) 89 m (pset g 88 m (g 82 i) 83 i) 80 10 = (m : Int) := by rw [pset_cl _ _ (by decide)]; exact A1
      rw [q10, Int.toNat_natCast, A1, Int.toNat_natCast, A2, Int.toNat_natCast]
      have F2 : fr [80, 88, 89, 90] [] g (pset (pset g 88 m (g 82 i)) 89 m (pset g 88 m (g 82 i) 83 i)) := (fr.set (by decide) (by decide) _ _ _).trans (fr.set (by decide) (by decide) _ _ _)
      have hg2 : rGau (pset (pset g 88 m (g 82 i)) 89 m (pset g 88 m (g 82 i) 83 i)) := rGau_mv hgg (fun c hc => F2.1 c (by revert hc; revert c; decide) (by revert hc; revert c; decide)) (fun j hj => F2.2 j (by simp)) (by rw [pset_cl _ _ (by decide), pset_cl _ _ (by decide)]) (by rw [pset_cl _ _ (by decide), pset_cl _ _ (by decide)]) (by rw [pset_cl _ _ (by decide), pset_cl _ _ (by decide)])
      have v88 : ∀ j : Nat, pset (pset g 88 m (g 82 i)) 89 m (pset g 88 m (g 82 i) 83 i) 88 j = if j = m then G 165 i else g 88 j := by intro j; simp [pset_at, f1.c 82 (by decide), e2]
      have v89 : ∀ j : Nat, pset (pset g 88 m (g 82 i)) 89 m (pset g 88 m (g 82 i) 83 i) 89 j = if j = m then G 166 i else g 89 j := by intro j; simp [pset_at, f1.c 83 (by decide), e3]
      have v90 : pset (pset g 88 m (g 82 i)) 89 m (pset g 88 m (g 82 i) 83 i) 90 = g 90 := by rw [pset_cl _ _ (by decide), pset_cl _ _ (by decide)]
      have v80 : pset (pset g 88 m (g 82 i)) 89 m (pset g 88 m (g 82 i) 83 i) 80 = g 80 := by rw [pset_cl _ _ (by decide), pset_cl _ _ (by decide)]
      have eo : vOff (pset (pset g 88 m (g 82 i)) 89 m (pset g 88 m (g 82 i) 83 i)) i K = vOff G i K := by
        rw [vOff_c (G := g) (fun c hc => F2.1 c (by revert hc; revert c; decide) (by revert hc; revert c; decide)) (F2.2 61 (by simp)), vOff_c (G := G) (fun c hc => f1.1 c (by revert hc; revert c; decide) (by revert hc; revert c; decide)) (f1.2 61 (by simp))]
      have c36 := s36 (d := d - 1) (k := i) (K := K) hg2 (by rw [F2.f 60 (by decide), f1.f 60 (by decide)]; exact hi')
      rw [eo] at c36
      generalize pset (pset g 88 m (g 82 i)) 89 m (pset g 88 m (g 82 i) 83 i) = A at *
      refine ⟨by omega, by omega, by omega, by omega, by omega, by omega, by omega, by omega, pC1.of hd c36 ⟨by omega, by omega, ?_⟩⟩
      rw [pset_cl _ _ (by decide), A2, w32_id (x := (m : Int) + 1) (by omega) (by omega)]
      rintro _ rfl
      refine ih (i + 1) _ (by omega) (f1.trans (F2.trans ((fr.set (by decide) (by decide) _ _ _).trans (fr.set (by decide) (by decide) _ _ _)))) (fun j hj => ?_) ?_
      · rw [pset_ne _ _ hj, pset_cl _ _ (by decide), v80]; exact f2 j hj
      · rw [s1]
        refine ⟨by rw [pset_eq, List.length_append, hm]; simp, fun j x hx => ?_⟩
        rw [pset_cl _ _ (by decide), pset_cl _ _ (by decide), pset_cl _ _ (by decide), pset_cl _ _ (by decide), pset_cl _ _ (by decide), v88, v89, pset_at, v90]
        by_cases e : j = m
        · subst e
          rw [List.getElem?_append_right (by omega), hm, Nat.sub_self] at hx
          simp at hx
          subst hx
          simp
        · rw [if_neg e, if_neg e, if_pos rfl, if_neg e]
          have hj : j < m := by
            have : j < (cQ (snI G K) i ++ [(G 165 i, G 166 i, vOff G i K)]).length := by
              rcases Nat.lt_or_ge j (cQ (snI G K) i ++ [(G 165 i, G 166 i, vOff G i K)]).length with h | h
              · exact h
              · rw [List.getElem?_eq_none h] at hx; simp at hx
            rw [List.length_append, hm] at this
            simp at this
            omega
          rw [List.getElem?_append_left (by omega)] at hx
          exact f3.2 j x hx
theorem s4 {d : Nat} {G : pG} {q : Int} {s : Nat} (h0 : 0 ≤ q) (h1 : q ≤ 29) : pRuns pMT d 4 [pI q, pI (s : Int)] Yc G (some (pI (if dStep q = (s : Int) then dBy q else 0))) G := by
  refine pRuns.of rfl rfl (v4_0 ⟨fun z => rI ?_ rfl, fun z => ⟨by omega, fun y => rI ?_ rfl, fun y => ⟨by omega, rI ?_ rfl⟩⟩⟩)
  · rw [if_neg (by unfold dStep; rw [if_pos (by omega)]; omega)]
  · rw [(r1_e (by omega) (by omega) (by omega) (by omega)).1] at y
    rw [if_neg (by unfold dStep; rw [if_neg (by omega)]; exact y)]
  · rw [(r1_e (by omega) (by omega) (by omega) (by omega)).1] at y
    rw [if_pos (by unfold dStep; rw [if_neg (by omega)]; exact y), (r1_e (by omega) (by omega) (by omega) (by omega)).2, w32_id (by omega) (by omega)]
    unfold dBy
    rw [if_neg (by omega)]
theorem dBy_bd {q : Int} (h0 : 0 ≤ q) : 0 ≤ dBy q ∧ dBy q ≤ 4 := by unfold dBy; split <;> omega
theorem dlO_bd {q s i : Int} (h0 : 0 ≤ q) (h3 : 0 ≤ i) (h4 : i ≤ 39) : 0 ≤ dlO q s i ∧ dlO q s i ≤ 31 := by
  unfold dlO
  split
  · have := dBy_bd h0
    have m := mulb (A := 4) (B := 39) this.1 this.2 h3 h4
    omega
  · omega
theorem s3 {d : Nat} {G : pG} {q i : Int} {s : Nat} (h0 : 0 ≤ q) (h1 : q ≤ 29) (h3 : 0 ≤ i) (h4 : i ≤ 39) (hd : 1 ≤ d) : pRuns pMT d 3 [pI q, pI (s : Int), pI i] Yc G (some (pI (dlO q (s : Int) i))) G := by
  refine pRuns.of rfl rfl (v3_0 (pC1.of hd (s4 h0 h1) ⟨by omega, rI ?_ rfl⟩))
  have b := dBy_bd h0
  have m := mulb (A := 4) (B := 39) b.1 b.2 h3 h4
  unfold dlO
  by_cases e : dStep q = (s : Int)
  · rw [if_pos e, if_pos e, w32_id (by omega) (by omega), pdiv_id (by omega) (by omega) (by omega) (by omega), Int.tdiv_eq_ediv_of_nonneg m.1]
  · rw [if_neg e, if_neg e, Int.zero_mul]
    decide
/-- the state of splitting, in the class' memory -/
def spM (G : pG) (T : Nat) (s : Int × (Nat → Int) × (Nat → Int) × (Nat → Int)) : Prop := ∀ t : Nat, t < T → G 100 t = s.2.1 t ∧ G 101 t = s.2.2.1 t ∧ G 102 t = s.2.2.2 t
theorem take_s {α : Type} {l : List α} {i : Nat} {x : α} (h : l[i]? = some x) : l.take (i + 1) = l.take i ++ [x] := by
  rw [List.take_add_one, h]
  rfl
theorem s22 {d : Nat} {G : pG} {h q : Int} {l : List vTri} {T : Nat} (hP : rPart G) (hT : G 109 10 = (T : Int)) (hM : snM G l) (hlen : l.length ≤ 16) (hl : ∀ x ∈ l, (0 ≤ x.1 ∧ x.1 ≤ 39 ∧ 0 ≤ tlG G x.2.1 ∧ tlG G x.2.1 < (T : Int)) ∧ 0 ≤ x.2.1 ∧ x.2.1 < G 109 11 ∧ -99 ≤ x.2.2 ∧ x.2.2 ≤ 99) (k1 : -2 ≤ h) (k2 : h ≤ 2) (q0' : 0 ≤ q) (q1' : q ≤ 29) (hd : 2 ≤ d) : ∃ v G', pRuns pMT d 22 [pR 92, pI h, pI q] Yc G (some (pI v)) G' ∧ (fr [100, 101, 102] [] G G' ∧ (match spF (tlG G) h q l (some spI) with | none => v = -1 | some s => v = s.1 ∧ spM G' T s)) := by
  have n1 := hP.n1
  have t1 := hP.t1
  have hl' : ∀ x ∈ l, 0 ≤ x.1 ∧ x.1 ≤ 39 ∧ 0 ≤ tlG G x.2.1 ∧ tlG G x.2.1 ≤ 5 := fun x hx => by have := hl x hx; omega
  refine pX1 rfl rfl (v22_0 ?_)
  have H2 : ∀ (n i : Nat) (g : pG) (s : Int × (Nat → Int) × (Nat → Int) × (Nat → Int)), i + n = l.length → fr [100, 101, 102] [] G g → spF (tlG G) h q (l.take i) (some spI) = some s → spM g T s → pEnds pMT d 22 Yc (fun r g => ∃ v : Int, r = some (pI v) ∧ (fr [100, 101, 102] [] G g ∧ (match spF (tlG G) h q l (some spI) with | none => v = -1 | some s => v = s.1 ∧ spM g T s))) 46 [pR 92, pI h, pI q, pI s.1, pI (i : Int), pU, pU, pU, pU] [] g := by
    intro n
    induction n with
    | zero =>
      intro i g s hi f1 hs hm
      refine v22_46 ⟨fun _ => ⟨s.1, rfl, f1, ?_⟩, fun z => ?_⟩
      · rw [List.take_of_length_le (by omega)] at hs
        rw [hs]
        exact ⟨rfl, hm⟩
      · rw [f1.c 80 (by decide), hM.1] at z
        omega
    | succ n ih =>
      intro i g s hi f1 hs hm
      have hPg : rPart g := f1.mv rPart_dep (by decide) (by decide) hP
      obtain ⟨x, hx⟩ : ∃ x : vTri, l[i]? = some x := ⟨l[i]'(by omega), List.getElem?_eq_getElem (by omega)⟩
      have hxl : x ∈ l := List.mem_of_getElem? hx
      obtain ⟨⟨x1, x2, x3, x4⟩, x5, x6, x7, x8⟩ := hl x hxl
      obtain ⟨m1, m2, m3⟩ := hM.2 i x hx
      have tk := take_s hx
      have sn : spF (tlG G) h q (l.take (i + 1)) (some spI) = spS (tlG G) h q x s := by rw [tk, spF_app, hs]; rfl
      have sp : spP (tlG G) h q (l.take i) s := by
        have := spF_pr (tl := tlG G) (h := h) (q := q) (l.take i) [] spI (spP_0 _ _ _) (fun y hy => hl' y (List.mem_of_mem_take hy))
        rw [hs, List.nil_append] at this
        exact this
      obtain ⟨sN, hsN⟩ : ∃ sN : Nat, x.2.1 = (sN : Int) := ⟨x.2.1.toNat, by omega⟩
      have etl : tlG G x.2.1 = G 115 sN := by unfold tlG; rw [hsN, Int.toNat_natCast]
      obtain ⟨kt, hkt⟩ : ∃ kt : Nat, G 115 sN = (kt : Int) := ⟨(G 115 sN).toNat, by rw [← etl]; omega⟩
      rw [etl, hkt] at x3 x4
      have fin : spF (tlG G) h q (l.take (i + 1)) (some spI) = none → spF (tlG G) h q l (some spI) = none := by
        intro z
        rw [← List.take_append_drop (i + 1) l, spF_app, z, spF_none]
      obtain ⟨c1, c2, c3⟩ := hm kt (by omega)
      obtain ⟨a1, a2, -, -⟩ := sp.2.2.2.2.1 kt (by omega)
      obtain ⟨b1, b2, -, -, b5, b6, -⟩ := sp.2.2.2.2.2 kt (by omega)
      have e8 : g 8 sN = (kt : Int) := by rw [f1.c 8 (by decide), (hP.step sN (by omega)).1, hkt]
      refine v22_46 ⟨fun z => ?_, fun _ => ⟨by omega, by omega, ?_⟩⟩
      · rw [f1.c 80 (by decide), hM.1] at z
        omega
      · rw [Int.toNat_natCast, f1.c 88 (by decide), m1, f1.c 89 (by decide), m2, f1.c 90 (by decide), m3, hsN, w32_id (x := (i : Int) + 1) (by omega) (by omega)]
        rintro _ rfl
        refine ⟨by omega, by omega, ?_⟩
        rintro _ rfl
        refine ⟨by omega, by omega, ?_⟩
        rw [Int.toNat_natCast, e8]
        rintro _ rfl
        have hb := heat_e k1 k2 x1 x2
        have db := dlO_bd (s := (sN : Int)) q0' x1 x2
        refine ⟨by omega, by omega, pC1.of (by omega) (s2 k1 k2 x1 x2) (pC1.of (by omega) (s3 q0' q1' x1 x2 (by omega)) ?_)⟩
        rw [w32_id (x := x.2.2 - (h * x.1).tdiv 5) (by omega) (by omega), w32_id (x := x.2.2 - (h * x.1).tdiv 5 - dlO q (sN : Int) x.1) (by omega) (by omega)]
        have er : x.2.2 - (h * x.1).tdiv 5 - dlO q (sN : Int) x.1 = rst h q x := by unfold rst; rw [hsN]
        rw [er]
        unfold spS at sn
        rw [etl, hkt, Int.toNat_natCast] at sn
        rw [Int.toNat_natCast]
        intro x8 hx8
        rw [hx8]
        refine ⟨fun z => pC1.of (by omega) s118 ⟨fun y => ?_, fun y => ⟨by omega, by omega, ?_⟩⟩, fun z => ⟨by omega, by omega, by omega, by omega, ?_⟩⟩
        · rw [if_neg z, if_neg (fun w => b2i_0.mp y w.1)] at sn
          refine ⟨-1, rfl, f1, ?_⟩
          rw [fin sn]
        · have y := b2i_n0.mp y
          rw [c3, c2]
          have go : (s.2.2.2 kt = 0 ∨ s.2.2.2 kt = rst h q x) → (0 ≤ (kt : Int) ∧ (kt : Int) < 6 ∧ (0 ≤ (kt : Int) ∧ (kt : Int) < 6 ∧ (0 ≤ (kt : Int) ∧ (kt : Int) < 6 ∧ ∀ x3_2 : Int, x3_2 = por s.1 (pshl 1 (kt : Int)) → ∀ x4_2 : Int, x4_2 = (i : Int) + 1 → pEnds pMT d 22 Yc (fun r g => ∃ v : Int, r = some (pI v) ∧ (fr [100, 101, 102] [] G g ∧ (match spF (tlG G) h q l (some spI) with | none => v = -1 | some s => v = s.1 ∧ spM g T s))) 46 [pR 92, pI h, pI q, pI x3_2, pI x4_2, pU, pU, pU, pU] [] (pset (pset g 101 kt (pmn (s.2.2.1 kt) x.1)) 102 kt (rst h q x))))) := by
            intro w
            rw [if_neg z, if_pos ⟨y, w⟩] at sn
            refine ⟨by omega, by omega, by omega, by omega, by omega, by omega, ?_⟩
            rintro _ rfl _ rfl
            rw [pmn_eq]
            refine ih (i + 1) _ _ (by omega) (f1.trans ((fr.set (by decide) (by decide) _ _ _).trans (fr.set (by decide) (by decide) _ _ _))) sn (fun t ht => ?_)
            show _ = s.2.1 t ∧ _ = vUpd s.2.2.1 kt (min (s.2.2.1 kt) x.1) t ∧ _ = vUpd s.2.2.2 kt (rst h q x) t
            obtain ⟨p1, p2, p3⟩ := hm t ht
            rw [pset_cl _ _ (by decide), pset_cl _ _ (by decide), pset_cl _ _ (by decide), pset_at, pset_at, if_pos rfl, if_pos rfl, pset_cl _ _ (by decide), p1, p2, p3]
            unfold vUpd
            exact ⟨rfl, rfl, rfl⟩
          refine ⟨fun w => go (Or.inl w), fun w => ⟨by omega, by omega, fun v => go (Or.inr v), fun v => ?_⟩⟩
          rw [if_neg z, if_neg (fun u => by rcases u.2 with u | u; exact w u; exact v u)] at sn
          refine ⟨-1, rfl, f1, ?_⟩
          rw [fin sn]
        · rw [if_pos z] at sn
          rintro _ rfl
          rw [pmx_eq, c1]
          refine ih (i + 1) _ (s.1, vUpd s.2.1 kt (max (s.2.1 kt) x.1), s.2.2.1, s.2.2.2) (by omega) (f1.trans (fr.set (by decide) (by decide) _ _ _)) sn (fun t ht => ?_)
          obtain ⟨p1, p2, p3⟩ := hm t ht
          show _ = vUpd s.2.1 kt (max (s.2.1 kt) x.1) t ∧ _ = s.2.2.1 t ∧ _ = s.2.2.2 t
          rw [pset_at, if_pos rfl, pset_cl _ _ (by decide), pset_cl _ _ (by decide), p1, p2, p3]
          unfold vUpd
          exact ⟨rfl, rfl, rfl⟩
  have H1 : ∀ (n i : Nat) (g : pG), i + n = T → fr [100, 101, 102] [] G g → (∀ t : Nat, t < i → g 100 t = -1 ∧ g 101 t = 40 ∧ g 102 t = 0) → pEnds pMT d 22 Yc (fun r g => ∃ v : Int, r = some (pI v) ∧ (fr [100, 101, 102] [] G g ∧ (match spF (tlG G) h q l (some spI) with | none => v = -1 | some s => v = s.1 ∧ spM g T s))) 2 [pR 92, pI h, pI q, pI (i : Int), pU, pU, pU, pU, pU] [] g := by
    intro n
    induction n with
    | zero =>
      intro i g hi f1 hm
      obtain rfl : i = T := by omega
      refine v22_2 ?_
      rw [f1.c 3 (by decide), hP.tools, hT]
      refine ⟨fun _ => ?_, fun z => by omega⟩
      rintro _ rfl _ rfl
      exact H2 l.length 0 g spI (by omega) f1 (by simp [spF]) hm
    | succ n ih =>
      intro i g hi f1 hm
      refine v22_2 ?_
      rw [f1.c 3 (by decide), hP.tools, hT, Int.toNat_natCast, w32_id (by omega) (by omega)]
      refine ⟨fun z => by omega, fun _ => ⟨by omega, by omega, by omega, by omega, by omega, by omega, ?_⟩⟩
      rintro _ rfl
      refine ih (i + 1) _ (by omega) (f1.trans ((fr.set (by decide) (by decide) _ _ _).trans ((fr.set (by decide) (by decide) _ _ _).trans (fr.set (by decide) (by decide) _ _ _)))) (fun t ht => ?_)
      simp only [pset_at]
      by_cases e : t = i
      · simp [e]
      · have := hm t (by omega)
        simp [e, this]
  rintro _ rfl
  exact H1 T 0 G (by omega) (fr.refl _ _ _) (fun t ht => by omega)
/-! blocks in the class' memory -/
def szB (b : vBk) : Int := (b.2.2.2.2.1 - b.2.2.2.1 + 1) * (b.2.2.2.2.2.2 - b.2.2.2.2.2.1 + 1)
def nuB (G : pG) (b : vBk) : Int := ((b.1 + 2) * cWw G + (if b.2.2.1 = -1 then 0 else wN b.2.2.1 b.2.2.2.1 b.2.2.2.2.2.1)) * cDw G + b.2.1
def lsB (G : pG) (l : List vBk) : Int := l.foldl (fun a b => if a = -1 then nuB G b else min a (nuB G b)) (-1)
def okB (G : pG) (b : vBk) : Prop := -2 ≤ b.1 ∧ b.1 ≤ 2 ∧ 0 ≤ b.2.1 ∧ b.2.1 < cDw G ∧ ((b.2.2.1 = -1 ∧ b.2.2.2.1 = 0 ∧ b.2.2.2.2.1 = 0 ∧ b.2.2.2.2.2.1 = 0 ∧ b.2.2.2.2.2.2 = 0) ∨ (0 ≤ b.2.2.1 ∧ b.2.2.1 < G 109 10 ∧ 0 ≤ b.2.2.2.1 ∧ b.2.2.2.1 ≤ b.2.2.2.2.1 ∧ b.2.2.2.2.1 ≤ 11 ∧ 1 ≤ b.2.2.2.2.2.1 ∧ b.2.2.2.2.2.1 ≤ b.2.2.2.2.2.2 ∧ b.2.2.2.2.2.2 ≤ 5))
def bkM (G : pG) (l : List vBk) : Prop := G 92 5 = (l.length : Int) ∧ G 92 3 = lSm szB l ∧ G 92 4 = lsB G l ∧ (∀ i : Nat, ∀ b : vBk, l[i]? = some b → G 93 i = b.1 ∧ G 94 i = b.2.1 ∧ G 95 i = b.2.2.1 ∧ G 96 i = b.2.2.2.1 ∧ G 97 i = b.2.2.2.2.1 ∧ G 98 i = b.2.2.2.2.2.1 ∧ G 99 i = b.2.2.2.2.2.2) ∧ ∀ b ∈ l, okB G b
theorem sz_bd {G : pG} {b : vBk} (h : okB G b) : 1 ≤ szB b ∧ szB b ≤ 60 := by
  obtain ⟨-, -, -, -, h⟩ := h
  unfold szB
  rcases h with ⟨h1, h2, h3, h4, h5⟩ | ⟨h1, h2, h3, h4, h5, h6, h7, h8⟩
  · rw [h2, h3, h4, h5]; decide
  · have m := mulb (A := 12) (B := 5) (show 0 ≤ b.2.2.2.2.1 - b.2.2.2.1 + 1 by omega) (by omega) (show 0 ≤ b.2.2.2.2.2.2 - b.2.2.2.2.2.1 + 1 by omega) (by omega)
    have m2 : 1 * 1 ≤ (b.2.2.2.2.1 - b.2.2.2.1 + 1) * (b.2.2.2.2.2.2 - b.2.2.2.2.2.1 + 1) := Int.mul_le_mul (by omega) (by omega) (by omega) (by omega)
    omega
theorem sum_bd {G : pG} : ∀ l : List vBk, (∀ b ∈ l, okB G b) → 0 ≤ lSm szB l ∧ lSm szB l ≤ 60 * (l.length : Int)
  | [], _ => ⟨Int.le_refl _, Int.le_refl _⟩
  | b :: l, h => by
    have h1 := sum_bd l (fun x hx => h x (List.mem_cons_of_mem _ hx))
    have h2 := sz_bd (h b List.mem_cons_self)
    show 0 ≤ szB b + lSm szB l ∧ szB b + lSm szB l ≤ 60 * ((l.length + 1 : Nat) : Int)
    omega
theorem s24 {d : Nat} {G : pG} {i : Nat} {b : vBk} (hi : i < 1015) (h96 : G 96 i = b.2.2.2.1) (h97 : G 97 i = b.2.2.2.2.1) (h98 : G 98 i = b.2.2.2.2.2.1) (h99 : G 99 i = b.2.2.2.2.2.2) (hb : okB G b) : pRuns pMT d 24 [pR 92, pI (i : Int)] Yc G (some (pI (szB b))) G := by
  have sb := sz_bd hb
  obtain ⟨-, -, -, -, h⟩ := hb
  refine pRuns.of rfl rfl (v24_0 ⟨by omega, by omega, by omega, by omega, by omega, by omega, by omega, by omega, rI ?_ rfl⟩)
  rw [Int.toNat_natCast, h96, h97, h98, h99, w32_id (x := b.2.2.2.2.1 - b.2.2.2.1) (by omega) (by omega), w32_id (x := b.2.2.2.2.1 - b.2.2.2.1 + 1) (by omega) (by omega), w32_id (x := b.2.2.2.2.2.2 - b.2.2.2.2.2.1) (by omega) (by omega), w32_id (x := b.2.2.2.2.2.2 - b.2.2.2.2.2.1 + 1) (by omega) (by omega)]
  unfold szB at sb ⊢
  rw [w32_id (by omega) (by omega)]
theorem cells_c {G G' : pG} (h1 : G' 109 10 = G 109 10) (h2 : G' 109 11 = G 109 11) : (∀ b, nuB G' b = nuB G b) ∧ (∀ l, lsB G' l = lsB G l) ∧ (∀ b, okB G' b ↔ okB G b) := by
  have e1 : cWw G' = cWw G := by unfold cWw; rw [h1]
  have e2 : cDw G' = cDw G := by unfold cDw; rw [h2]
  refine ⟨fun b => by unfold nuB; rw [e1, e2], fun l => by unfold lsB nuB; rw [e1, e2], fun b => by unfold okB; rw [e2, h1]⟩
def bW : List Nat := [92, 93, 94, 95, 96, 97, 98, 99]
theorem s23 {d : Nat} {G : pG} {l : List vBk} {b : vBk} (hP : rPart G) (hM : bkM G l) (hlen : l.length < 1015) (hb : okB G b) (hd : 1 ≤ d) : ∃ G', pRuns pMT d 23 [pR 92, pI b.1, pI b.2.1, pI b.2.2.1, pI b.2.2.2.1, pI b.2.2.2.2.1, pI b.2.2.2.2.2.1, pI b.2.2.2.2.2.2] Yc G none G' ∧ (fr bW [] G G' ∧ (∀ j : Nat, j ≠ 3 → j ≠ 4 → j ≠ 5 → G' 92 j = G 92 j) ∧ bkM G' (l ++ [b])) := by
  obtain ⟨b1, b2, b3, b4, b5, b6, b7⟩ := b
  obtain ⟨m1, m2, m3, m4, m5⟩ := hM
  have sb := sz_bd hb
  have sm := sum_bd l m5
  have hb' := hb
  obtain ⟨o1, o2, o3, o4, o5⟩ := hb
  simp only at o1 o2 o3 o4 o5 ⊢
  obtain ⟨w1, w2⟩ := cWw_bd hP
  obtain ⟨w3, w4⟩ := cDw_bd hP
  have t1 := hP.t1
  generalize hm : l.length = m at *
  refine pX0 rfl rfl (v23_0 ⟨fun z => by omega, fun _ => ⟨fun z => by omega, fun _ => ⟨fun _ => ?_, fun z => by omega⟩⟩⟩)
  have p93 : ∀ (g : pG) (i : Nat) (v : Int), pset g 93 i v 92 = g 92 := fun g i v => pset_cl g v (by decide)
  have p94 : ∀ (g : pG) (i : Nat) (v : Int), pset g 94 i v 92 = g 92 := fun g i v => pset_cl g v (by decide)
  have p95 : ∀ (g : pG) (i : Nat) (v : Int), pset g 95 i v 92 = g 92 := fun g i v => pset_cl g v (by decide)
  have p96 : ∀ (g : pG) (i : Nat) (v : Int), pset g 96 i v 92 = g 92 := fun g i v => pset_cl g v (by decide)
  have p97 : ∀ (g : pG) (i : Nat) (v : Int), pset g 97 i v 92 = g 92 := fun g i v => pset_cl g v (by decide)
  have p98 : ∀ (g : pG) (i : Nat) (v : Int), pset g 98 i v 92 = g 92 := fun g i v => pset_cl g v (by decide)
  have p99 : ∀ (g : pG) (i : Nat) (v : Int), pset g 99 i v 92 = g 92 := fun g i v => pset_cl g v (by decide)
  simp only [p93, p94, p95, p96, p97, p98, p99, m1, m2, Int.toNat_natCast]
  have FA : fr bW [] G (pset (pset (pset (pset (pset (pset (pset G 93 m b1) 94 m b2) 95 m b3) 96 m b4) 97 m b5) 98 m b6) 99 m b7) := (fr.set (by decide) (by decide) _ _ _).trans ((fr.set (by decide) (by decide) _ _ _).trans ((fr.set (by decide) (by decide) _ _ _).trans ((fr.set (by decide) (by decide) _ _ _).trans ((fr.set (by decide) (by decide) _ _ _).trans ((fr.set (by decide) (by decide) _ _ _).trans (fr.set (by decide) (by decide) _ _ _))))))
  have v92 : (pset (pset (pset (pset (pset (pset (pset G 93 m b1) 94 m b2) 95 m b3) 96 m b4) 97 m b5) 98 m b6) 99 m b7) 92 = G 92 := by simp only [p93, p94, p95, p96, p97, p98, p99]
  have vv : ∀ j : Nat, (pset (pset (pset (pset (pset (pset (pset G 93 m b1) 94 m b2) 95 m b3) 96 m b4) 97 m b5) 98 m b6) 99 m b7) 93 j = (if j = m then b1 else G 93 j) ∧ (pset (pset (pset (pset (pset (pset (pset G 93 m b1) 94 m b2) 95 m b3) 96 m b4) 97 m b5) 98 m b6) 99 m b7) 94 j = (if j = m then b2 else G 94 j) ∧ (pset (pset (pset (pset (pset (pset (pset G 93 m b1) 94 m b2) 95 m b3) 96 m b4) 97 m b5) 98 m b6) 99 m b7) 95 j = (if j = m then b3 else G 95 j) ∧ (pset (pset (pset (pset (pset (pset (pset G 93 m b1) 94 m b2) 95 m b3) 96 m b4) 97 m b5) 98 m b6) 99 m b7) 96 j = (if j = m then b4 else G 96 j) ∧ (pset (pset (pset (pset (pset (pset (pset G 93 m b1) 94 m b2) 95 m b3) 96 m b4) 97 m b5) 98 m b6) 99 m b7) 97 j = (if j = m then b5 else G 97 j) ∧ (pset (pset (pset (pset (pset (pset (pset G 93 m b1) 94 m b2) 95 m b3) 96 m b4) 97 m b5) 98 m b6) 99 m b7) 98 j = (if j = m then b6 else G 98 j) ∧ (pset (pset (pset (pset (pset (pset (pset G 93 m b1) 94 m b2) 95 m b3) 96 m b4) 97 m b5) 98 m b6) 99 m b7) 99 j = (if j = m then b7 else G 99 j) := by intro j; simp [pset_at]
  generalize (pset (pset (pset (pset (pset (pset (pset G 93 m b1) 94 m b2) 95 m b3) 96 m b4) 97 m b5) 98 m b6) 99 m b7) = A at *
  have hPA : rPart A := FA.mv rPart_dep (by decide) (by decide) hP
  have cc := cells_c (G := G) (G' := A) (FA.f 10 (by decide)) (FA.f 11 (by decide))
  have vm := vv m
  simp only [↓reduceIte] at vm
  have F3 : fr bW [] A (pset A 92 3 (lSm szB l + szB (b1, b2, b3, b4, b5, b6, b7))) := fr.set (by decide) (by decide) _ _ _
  have hP3 : rPart (pset A 92 3 (lSm szB l + szB (b1, b2, b3, b4, b5, b6, b7))) := F3.mv rPart_dep (by decide) (by decide) hPA
  have q4 : pset A 92 3 (lSm szB l + szB (b1, b2, b3, b4, b5, b6, b7)) 92 4 = lsB G l := by rw [pset_ne _ _ (by decide), v92]; exact m3
  have e65 : (1 + 60 * pset A 92 3 (lSm szB l + szB (b1, b2, b3, b4, b5, b6, b7)) 109 10 : Int) = cWw G := by unfold cWw; rw [F3.f 10 (by decide), FA.f 10 (by decide)]
  have e66 : (1 + 4 * pset A 92 3 (lSm szB l + szB (b1, b2, b3, b4, b5, b6, b7)) 109 11 : Int) = cDw G := by unfold cDw; rw [F3.f 11 (by decide), FA.f 11 (by decide)]
  have fin : ∀ (x9 : Int), x9 = nuB G (b1, b2, b3, b4, b5, b6, b7) → ((¬ (pset A 92 3 (lSm szB l + szB (b1, b2, b3, b4, b5, b6, b7))) 92 4 = -1 → True ∧ (fr bW [] G (pset (pset (pset A 92 3 (lSm szB l + szB (b1, b2, b3, b4, b5, b6, b7))) 92 4 (pmn ((pset A 92 3 (lSm szB l + szB (b1, b2, b3, b4, b5, b6, b7))) 92 4) x9)) 92 5 (w32 (((pset (pset A 92 3 (lSm szB l + szB (b1, b2, b3, b4, b5, b6, b7))) 92 4 (pmn ((pset A 92 3 (lSm szB l + szB (b1, b2, b3, b4, b5, b6, b7))) 92 4) x9)) 92 5) + 1))) ∧ (∀ j : Nat, j ≠ 3 → j ≠ 4 → j ≠ 5 → (pset (pset (pset A 92 3 (lSm szB l + szB (b1, b2, b3, b4, b5, b6, b7))) 92 4 (pmn ((pset A 92 3 (lSm szB l + szB (b1, b2, b3, b4, b5, b6, b7))) 92 4) x9)) 92 5 (w32 (((pset (pset A 92 3 (lSm szB l + szB (b1, b2, b3, b4, b5, b6, b7))) 92 4 (pmn ((pset A 92 3 (lSm szB l + szB (b1, b2, b3, b4, b5, b6, b7))) 92 4) x9)) 92 5) + 1))) 92 j = G 92 j) ∧ bkM (pset (pset (pset A 92 3 (lSm szB l + szB (b1, b2, b3, b4, b5, b6, b7))) 92 4 (pmn ((pset A 92 3 (lSm szB l + szB (b1, b2, b3, b4, b5, b6, b7))) 92 4) x9)) 92 5 (w32 (((pset (pset A 92 3 (lSm szB l + szB (b1, b2, b3, b4, b5, b6, b7))) 92 4 (pmn ((pset A 92 3 (lSm szB l + szB (b1, b2, b3, b4, b5, b6, b7))) 92 4) x9)) 92 5) + 1))) (l ++ [(b1, b2, b3, b4, b5, b6, b7)]))) ∧ ((pset A 92 3 (lSm szB l + szB (b1, b2, b3, b4, b5, b6, b7))) 92 4 = -1 → True ∧ (fr bW [] G (pset (pset (pset A 92 3 (lSm szB l + szB (b1, b2, b3, b4, b5, b6, b7))) 92 4 x9) 92 5 (w32 (((pset (pset A 92 3 (lSm szB l + szB (b1, b2, b3, b4, b5, b6, b7))) 92 4 x9) 92 5) + 1))) ∧ (∀ j : Nat, j ≠ 3 → j ≠ 4 → j ≠ 5 → (pset (pset (pset A 92 3 (lSm szB l + szB (b1, b2, b3, b4, b5, b6, b7))) 92 4 x9) 92 5 (w32 (((pset (pset A 92 3 (lSm szB l + szB (b1, b2, b3, b4, b5, b6, b7))) 92 4 x9) 92 5) + 1))) 92 j = G 92 j) ∧ bkM (pset (pset (pset A 92 3 (lSm szB l + szB (b1, b2, b3, b4, b5, b6, b7))) 92 4 x9) 92 5 (w32 (((pset (pset A 92 3 (lSm szB l + szB (b1, b2, b3, b4, b5, b6, b7))) 92 4 x9) 92 5) + 1))) (l ++ [(b1, b2, b3, b4, b5, b6, b7)])))) := by
    intro x9 hx9
    rw [q4]
    have gen : ∀ y : Int, y = (if lsB G l = -1 then nuB G (b1, b2, b3, b4, b5, b6, b7) else min (lsB G l) (nuB G (b1, b2, b3, b4, b5, b6, b7))) → True ∧ (fr bW [] G (pset (pset (pset A 92 3 (lSm szB l + szB (b1, b2, b3, b4, b5, b6, b7))) 92 4 y) 92 5 (w32 (((pset (pset A 92 3 (lSm szB l + szB (b1, b2, b3, b4, b5, b6, b7))) 92 4 y) 92 5) + 1))) ∧ (∀ j : Nat, j ≠ 3 → j ≠ 4 → j ≠ 5 → (pset (pset (pset A 92 3 (lSm szB l + szB (b1, b2, b3, b4, b5, b6, b7))) 92 4 y) 92 5 (w32 (((pset (pset A 92 3 (lSm szB l + szB (b1, b2, b3, b4, b5, b6, b7))) 92 4 y) 92 5) + 1))) 92 j = G 92 j) ∧ bkM (pset (pset (pset A 92 3 (lSm szB l + szB (b1, b2, b3, b4, b5, b6, b7))) 92 4 y) 92 5 (w32 (((pset (pset A 92 3 (lSm szB l + szB (b1, b2, b3, b4, b5, b6, b7))) 92 4 y) 92 5) + 1))) (l ++ [(b1, b2, b3, b4, b5, b6, b7)])) := by
      intro y hy
      rw [show pset (pset A 92 3 (lSm szB l + szB (b1, b2, b3, b4, b5, b6, b7))) 92 4 y 92 5 = (m : Int) by rw [pset_ne _ _ (by decide), pset_ne _ _ (by decide), v92]; exact m1, w32_id (by omega) (by omega)]
      have FF : fr bW [] A (pset (pset (pset A 92 3 (lSm szB l + szB (b1, b2, b3, b4, b5, b6, b7))) 92 4 y) 92 5 ((m : Int) + 1)) := F3.trans ((fr.set (by decide) (by decide) _ _ _).trans (fr.set (by decide) (by decide) _ _ _))
      have c9 := cells_c (G := G) (G' := pset (pset (pset A 92 3 (lSm szB l + szB (b1, b2, b3, b4, b5, b6, b7))) 92 4 y) 92 5 ((m : Int) + 1)) (by rw [FF.f 10 (by decide), FA.f 10 (by decide)]) (by rw [FF.f 11 (by decide), FA.f 11 (by decide)])
      refine ⟨trivial, FA.trans FF, fun j j3 j4 j5 => by rw [pset_ne _ _ j5, pset_ne _ _ j4, pset_ne _ _ j3, v92], ?_, ?_, ?_, fun i x hx => ?_, fun x hx => ?_⟩
      · rw [pset_eq, List.length_append, hm]; simp
      · rw [pset_ne _ _ (by decide), pset_ne _ _ (by decide), pset_eq, lSm_app]
        show _ = _ + (szB (b1, b2, b3, b4, b5, b6, b7) + 0)
        omega
      · rw [pset_ne _ _ (by decide), pset_eq, c9.2.1, hy]
        unfold lsB
        rw [List.foldl_append]
        rfl
      · rw [pset_cl _ _ (by decide), pset_cl _ _ (by decide), pset_cl _ _ (by decide), pset_cl _ _ (by decide), pset_cl _ _ (by decide), pset_cl _ _ (by decide), pset_cl _ _ (by decide), pset_cl _ _ (by decide), pset_cl _ _ (by decide), pset_cl _ _ (by decide), pset_cl _ _ (by decide), pset_cl _ _ (by decide), pset_cl _ _ (by decide), pset_cl _ _ (by decide), pset_cl _ _ (by decide), pset_cl _ _ (by decide), pset_cl _ _ (by decide), pset_cl _ _ (by decide), pset_cl _ _ (by decide), pset_cl _ _ (by decide), pset_cl _ _ (by decide)]
        obtain ⟨u1, u2, u3, u4, u5, u6, u7⟩ := vv i
        rw [u1, u2, u3, u4, u5, u6, u7]
        by_cases e : i = m
        · rw [if_pos e, if_pos e, if_pos e, if_pos e, if_pos e, if_pos e, if_pos e]
          rw [e, List.getElem?_append_right (by omega), hm, Nat.sub_self] at hx
          simp at hx
          rw [← hx]
          exact ⟨rfl, rfl, rfl, rfl, rfl, rfl, rfl⟩
        · rw [if_neg e, if_neg e, if_neg e, if_neg e, if_neg e, if_neg e, if_neg e]
          have hj : i < m := by
            have : i < (l ++ [(b1, b2, b3, b4, b5, b6, b7)]).length := by
              rcases Nat.lt_or_ge i (l ++ [(b1, b2, b3, b4, b5, b6, b7)]).length with h | h
              · exact h
              · rw [List.getElem?_eq_none h] at hx; simp at hx
            rw [List.length_append, hm] at this
            simp at this
            omega
          rw [List.getElem?_append_left (by omega)] at hx
          exact m4 i x hx
      · rw [c9.2.2]
        rcases List.mem_append.mp hx with h | h
        · exact m5 x h
        · rw [List.mem_singleton] at h; rw [h]; exact hb'
    refine ⟨fun z => gen _ ?_, fun z => gen _ ?_⟩
    · rw [if_neg z, hx9, pmn_eq]
    · rw [if_pos z, hx9]
  have tail : ∀ x8 : Int, x8 = (if b3 = -1 then 0 else wN b3 b4 b6) → pC1 pMT d 65 [pR 3] Yc (pset A 92 3 (lSm szB l + szB (b1, b2, b3, b4, b5, b6, b7))) (fun r_2 G_3 => pC1 pMT d 66 [pR 3] Yc G_3 (fun r_3 G_4 => ∀ x9 : Int, x9 = w32 (w32 (w32 (w32 (w32 (b1 + 2) * r_2) + x8) * r_3) + b2) → ((¬ G_4 92 4 = -1 → True ∧ (fr bW [] G (pset (pset G_4 92 4 (pmn (G_4 92 4) x9)) 92 5 (w32 (pset G_4 92 4 (pmn (G_4 92 4) x9) 92 5 + 1))) ∧ (∀ j : Nat, j ≠ 3 → j ≠ 4 → j ≠ 5 → (pset (pset G_4 92 4 (pmn (G_4 92 4) x9)) 92 5 (w32 (pset G_4 92 4 (pmn (G_4 92 4) x9) 92 5 + 1))) 92 j = G 92 j) ∧ bkM (pset (pset G_4 92 4 (pmn (G_4 92 4) x9)) 92 5 (w32 (pset G_4 92 4 (pmn (G_4 92 4) x9) 92 5 + 1))) (l ++ [(b1, b2, b3, b4, b5, b6, b7)]))) ∧ (G_4 92 4 = -1 → True ∧ (fr bW [] G (pset (pset G_4 92 4 x9) 92 5 (w32 (pset G_4 92 4 x9 92 5 + 1))) ∧ (∀ j : Nat, j ≠ 3 → j ≠ 4 → j ≠ 5 → (pset (pset G_4 92 4 x9) 92 5 (w32 (pset G_4 92 4 x9 92 5 + 1))) 92 j = G 92 j) ∧ bkM (pset (pset G_4 92 4 x9) 92 5 (w32 (pset G_4 92 4 x9 92 5 + 1))) (l ++ [(b1, b2, b3, b4, b5, b6, b7)])))))) := by
    intro x8 hx8
    refine pC1.of hd (s65 hP3) (pC1.of hd (s66 hP3) ?_)
    rw [e65, e66]
    have x8b : 0 ≤ x8 ∧ x8 ≤ 361 := by
      rw [hx8]
      split
      · omega
      · unfold wN; omega
    have k1 := mulb (A := 4) (B := 361) (show 0 ≤ b1 + 2 by omega) (by omega) (show 0 ≤ cWw G by omega) w2
    have k2 := mulb (A := 1805) (B := 29) (show 0 ≤ (b1 + 2) * cWw G + x8 by omega) (by omega) (show 0 ≤ cDw G by omega) w4
    rw [w32_id (x := b1 + 2) (by omega) (by omega), w32_id (x := (b1 + 2) * cWw G) (by omega) (by omega), w32_id (x := (b1 + 2) * cWw G + x8) (by omega) (by omega), w32_id (x := ((b1 + 2) * cWw G + x8) * cDw G) (by omega) (by omega), w32_id (x := ((b1 + 2) * cWw G + x8) * cDw G + b2) (by omega) (by omega)]
    intro x9 hx9
    exact fin x9 (by rw [hx9, hx8]; rfl)
  refine ⟨by omega, by omega, by omega, by omega, by omega, by omega, by omega, by omega, by omega, by omega, by omega, by omega, by omega, by omega, pC1.of hd (s24 (b := (b1, b2, b3, b4, b5, b6, b7)) (by omega) vm.2.2.2.1 vm.2.2.2.2.1 vm.2.2.2.2.2.1 vm.2.2.2.2.2.2 ((cc.2.2 _).mpr hb')) ?_⟩
  rw [w32_id (x := lSm szB l + szB (b1, b2, b3, b4, b5, b6, b7)) (by omega) (by omega)]
  refine ⟨fun z x8 hx8 => tail x8 ?_, fun z x8 hx8 => tail x8 ?_⟩
  · rw [if_neg z, hx8]
    unfold wN
    rw [w32_id (x := b3 * 12) (by omega) (by omega), w32_id (x := b3 * 12 + b4) (by omega) (by omega), w32_id (x := (b3 * 12 + b4) * 5) (by omega) (by omega), w32_id (x := 1 + (b3 * 12 + b4) * 5) (by omega) (by omega), w32_id (x := 1 + (b3 * 12 + b4) * 5 + b6) (by omega) (by omega), w32_id (by omega) (by omega)]
  · rw [if_pos z, hx8]
theorem blT_len (h q : Int) (s : Int × (Nat → Int) × (Nat → Int) × (Nat → Int)) (t : Nat) : (blT h q s t).length ≤ 1 := by unfold blT; split <;> simp
theorem cQ_l1 {α : Type} {f : Nat → List α} (h : ∀ i, (f i).length ≤ 1) : ∀ n : Nat, (cQ f n).length ≤ n
  | 0 => Nat.le_refl _
  | n + 1 => by
    have h1 := cQ_l1 h n
    have h2 := h n
    show (cQ f n ++ f n).length ≤ n + 1
    rw [List.length_append]
    omega
theorem bl_len (tl : Int → Int) (l : List vTri) (T : Nat) (h q : Int) : (bl tl l T h q).length ≤ T + 1 := by
  unfold bl
  split
  · simp
  · next s _ =>
    unfold blS
    rw [List.length_append]
    have := cQ_l1 (blT_len h q s) T
    have : (if s.1 = 0 then [(h, q, (-1 : Int), (0 : Int), (0 : Int), (0 : Int), (0 : Int))] else []).length ≤ 1 := by split <;> simp
    omega
def v21W : List Nat := [92, 93, 94, 95, 96, 97, 98, 99, 100, 101, 102]
theorem s21 {d : Nat} {G : pG} {h q : Int} {sl : List vTri} {l : List vBk} {T : Nat} (hP : rPart G) (hT : G 109 10 = (T : Int)) (hM : snM G sl) (hlen : sl.length ≤ 16) (hl : ∀ x ∈ sl, (0 ≤ x.1 ∧ x.1 ≤ 39 ∧ 0 ≤ tlG G x.2.1 ∧ tlG G x.2.1 < (T : Int)) ∧ 0 ≤ x.2.1 ∧ x.2.1 < G 109 11 ∧ -99 ≤ x.2.2 ∧ x.2.2 ≤ 99) (k1 : -2 ≤ h) (k2 : h ≤ 2) (q0' : 0 ≤ q) (q1' : q < cDw G) (hB : bkM G l) (hl7 : l.length + 7 ≤ 1015) (hd : 3 ≤ d) : ∃ G', pRuns pMT d 21 [pR 92, pI h, pI q] Yc G none G' ∧ (fr v21W [] G G' ∧ (∀ j : Nat, j ≠ 3 → j ≠ 4 → j ≠ 5 → G' 92 j = G 92 j) ∧ bkM G' (l ++ bl (tlG G) sl T h q)) := by
  have t1 := hP.t1
  have dw := cDw_bd hP
  obtain ⟨v, A, a1, a2, a3⟩ := s22 (d := d - 1) (h := h) (q := q) hP hT hM hlen hl k1 k2 q0' (by omega) (by omega)
  have hPA : rPart A := a2.mv rPart_dep (by decide) (by decide) hP
  have cA := cells_c (G := G) (G' := A) (a2.f 10 (by decide)) (a2.f 11 (by decide))
  have bkA : bkM A l := by
    obtain ⟨m1, m2, m3, m4, m5⟩ := hB
    refine ⟨?_, ?_, ?_, ?_, fun b hb => (cA.2.2 b).mpr (m5 b hb)⟩
    · rw [a2.c 92 (by decide)]; exact m1
    · rw [a2.c 92 (by decide)]; exact m2
    · rw [a2.c 92 (by decide), cA.2.1]; exact m3
    · rw [a2.c 93 (by decide), a2.c 94 (by decide), a2.c 95 (by decide), a2.c 96 (by decide), a2.c 97 (by decide), a2.c 98 (by decide), a2.c 99 (by decide)]; exact m4
  have pr := spF_pr (tl := tlG G) (h := h) (q := q) sl [] spI (spP_0 _ _ _) (fun x hx => by have := hl x hx; omega)
  rw [List.nil_append] at pr
  refine pX0 rfl rfl (v21_0 (pC1.of (by omega) a1 ?_))
  intro x3 hx3
  rw [hx3]
  unfold bl
  cases c : spF (tlG G) h q sl (some spI) with
  | none =>
    rw [c] at a3
    have a3 : v = -1 := a3
    refine ⟨fun z => absurd a3 z, fun _ => ⟨rfl, a2.mono (by decide) (by decide), fun j _ _ _ => by rw [a2.c 92 (by decide)], ?_⟩⟩
    show bkM A (l ++ [])
    rw [List.append_nil]
    exact bkA
  | some s =>
    rw [c] at a3 pr
    obtain ⟨ve, sm⟩ := (show v = s.1 ∧ spM A T s from a3)
    have pr : spP (tlG G) h q sl s := pr
    have s0 := pr.1
    have s64 := pr.2.1
    rw [ve]
    show (_ → _) ∧ (s.1 = -1 → _)
    have LP : ∀ (n t : Nat) (g : pG), t + n = T → fr bW [] A g → (∀ j : Nat, j ≠ 3 → j ≠ 4 → j ≠ 5 → g 92 j = A 92 j) → bkM g (l ++ ((if s.1 = 0 then [(h, q, -1, 0, 0, 0, 0)] else []) ++ cQ (blT h q s) t)) → pEnds pMT d 21 Yc (fun r g => r = none ∧ (fr v21W [] G g ∧ (∀ j : Nat, j ≠ 3 → j ≠ 4 → j ≠ 5 → g 92 j = G 92 j) ∧ bkM g (l ++ blS h q s T))) 31 [pR 92, pI h, pI q, pI s.1, pI (t : Int), pU, pU] [] g := by
      intro n
      induction n with
      | zero =>
        intro t g ht f1 f2 f3
        obtain rfl : t = T := by omega
        refine v21_31 ⟨fun _ => ⟨rfl, (a2.mono (by decide) (by decide)).trans (f1.mono (by decide) (by decide)), fun j j3 j4 j5 => by rw [f2 j j3 j4 j5, a2.c 92 (by decide)], f3⟩, fun z => ?_⟩
        rw [f1.c 3 (by decide), hPA.tools, a2.f 10 (by decide), hT] at z
        omega
      | succ n ih =>
        intro t g ht f1 f2 f3
        have hPg : rPart g := f1.mv rPart_dep (by decide) (by decide) hPA
        have htT : t < T := by omega
        obtain ⟨c1, c2, c3⟩ := sm t htT
        obtain ⟨p1, p2, -, -⟩ := pr.2.2.2.2.1 t (by omega)
        obtain ⟨q1, q2, -, -, q5, q6, -⟩ := pr.2.2.2.2.2 t (by omega)
        have e : w32 ((t : Int) + 1) = ((t + 1 : Nat) : Int) := by rw [w32_id (by omega) (by omega)]; rfl
        have st : ∀ g', fr bW [] A g' → (∀ j : Nat, j ≠ 3 → j ≠ 4 → j ≠ 5 → g' 92 j = A 92 j) → bkM g' (l ++ ((if s.1 = 0 then [(h, q, -1, 0, 0, 0, 0)] else []) ++ cQ (blT h q s) t) ++ blT h q s t) → pEnds pMT d 21 Yc (fun r g => r = none ∧ (fr v21W [] G g ∧ (∀ j : Nat, j ≠ 3 → j ≠ 4 → j ≠ 5 → g 92 j = G 92 j) ∧ bkM g (l ++ blS h q s T))) 31 [pR 92, pI h, pI q, pI s.1, pI ((t + 1 : Nat) : Int), pU, pU] [] g' := by
          intro g' h1 h2 h3
          refine ih (t + 1) g' (by omega) h1 h2 ?_
          have : l ++ ((if s.1 = 0 then [(h, q, (-1 : Int), (0 : Int), (0 : Int), (0 : Int), (0 : Int))] else []) ++ cQ (blT h q s) (t + 1)) = l ++ ((if s.1 = 0 then [(h, q, -1, 0, 0, 0, 0)] else []) ++ cQ (blT h q s) t) ++ blT h q s t := by
            show l ++ ((if s.1 = 0 then [(h, q, (-1 : Int), (0 : Int), (0 : Int), (0 : Int), (0 : Int))] else []) ++ (cQ (blT h q s) t ++ blT h q s t)) = _
            simp only [List.append_assoc]
          rw [this]
          exact h3
        refine v21_31 ⟨fun z => ?_, fun _ => ?_⟩
        · rw [f1.c 3 (by decide), hPA.tools, a2.f 10 (by decide), hT] at z
          omega
        · rw [e, Int.toNat_natCast, f1.c 100 (by decide), f1.c 101 (by decide), f1.c 102 (by decide), c1, c2, c3]
          refine ⟨fun z => ?_, fun z => ⟨by omega, by omega, ?_⟩⟩
          · rintro _ rfl
            refine st g f1 f2 ?_
            rw [show blT h q s t = [] by unfold blT; rw [if_neg (fun w => z w.1)], List.append_nil]
            exact f3
          · intro x5 hx5
            rw [hx5]
            refine ⟨by omega, by omega, ?_⟩
            rw [pmn_eq]
            intro x6 hx6
            rw [hx6, w32_id (x := s.2.1 t + 1) (by omega) (by omega)]
            have call : ∀ y0 y1 : Int, y0 = (if s.2.2.2 t = 0 then 1 else s.2.2.2 t) → y1 = (if s.2.2.2 t = 0 then 5 else s.2.2.2 t) → pC0 pMT d 23 [pR 92, pI h, pI q, pI (t : Int), pI (s.2.1 t + 1), pI (min 11 (s.2.2.1 t)), pI y0, pI y1] Yc g (fun G_2 => ∀ x4_2 : Int, x4_2 = ((t + 1 : Nat) : Int) → pEnds pMT d 21 Yc (fun r g => r = none ∧ (fr v21W [] G g ∧ (∀ j : Nat, j ≠ 3 → j ≠ 4 → j ≠ 5 → g 92 j = G 92 j) ∧ bkM g (l ++ blS h q s T))) 31 [pR 92, pI h, pI q, pI s.1, pI x4_2, pU, pU] [] G_2) := by
              intro y0 y1 hy0 hy1
              by_cases w : s.2.1 t + 1 ≤ min 11 (s.2.2.1 t)
              · have eb : blT h q s t = [(h, q, (t : Int), s.2.1 t + 1, min 11 (s.2.2.1 t), y0, y1)] := by unfold blT; rw [if_pos ⟨z, w⟩, hy0, hy1]
                have yb : 1 ≤ y0 ∧ y0 ≤ y1 ∧ y1 ≤ 5 := by
                  rw [hy0, hy1]
                  split
                  · omega
                  · omega
                have len : (l ++ ((if s.1 = 0 then [(h, q, (-1 : Int), (0 : Int), (0 : Int), (0 : Int), (0 : Int))] else []) ++ cQ (blT h q s) t)).length < 1015 := by
                  rw [List.length_append, List.length_append]
                  have := cQ_l1 (blT_len h q s) t
                  have : (if s.1 = 0 then [(h, q, (-1 : Int), (0 : Int), (0 : Int), (0 : Int), (0 : Int))] else []).length ≤ 1 := by split <;> simp
                  omega
                have okb : okB g (h, q, (t : Int), s.2.1 t + 1, min 11 (s.2.2.1 t), y0, y1) := by
                  have e2 : cDw g = cDw G := by unfold cDw; rw [f1.f 11 (by decide), a2.f 11 (by decide)]
                  have e1 : g 109 10 = (T : Int) := by rw [f1.f 10 (by decide), a2.f 10 (by decide), hT]
                  refine ⟨k1, k2, q0', by rw [e2]; exact q1', Or.inr ⟨by show (0 : Int) ≤ (t : Int); omega, by rw [e1]; show (t : Int) < (T : Int); omega, ?_⟩⟩
                  show 0 ≤ s.2.1 t + 1 ∧ s.2.1 t + 1 ≤ min 11 (s.2.2.1 t) ∧ min 11 (s.2.2.1 t) ≤ 11 ∧ 1 ≤ y0 ∧ y0 ≤ y1 ∧ y1 ≤ 5
                  omega
                refine pC0.ox (by omega) (s23 (b := (h, q, (t : Int), s.2.1 t + 1, min 11 (s.2.2.1 t), y0, y1)) hPg f3 len okb (by omega)) (fun B hB => ?_)
                rintro _ rfl
                refine st B (f1.trans hB.1) (fun j j3 j4 j5 => by rw [hB.2.1 j j3 j4 j5, f2 j j3 j4 j5]) ?_
                rw [eb]
                exact hB.2.2
              · have eb : blT h q s t = [] := by unfold blT; rw [if_neg (fun x => w x.2)]
                refine pC0.of (G' := g) (by omega) (pRuns.of rfl rfl (v23_0 ⟨fun _ => v23_24 ⟨rfl, rfl⟩, fun x => absurd x w⟩)) ?_
                rintro _ rfl
                refine st g f1 f2 ?_
                rw [eb, List.append_nil]
                exact f3
            refine ⟨by omega, by omega, fun w => ⟨fun _ => call _ _ (by rw [if_neg w]) (by rw [if_neg w]), fun w2 => absurd w2 w⟩, fun w => ⟨fun w2 => absurd w w2, fun _ => call _ _ (by rw [if_pos w]) (by rw [if_pos w])⟩⟩
    refine ⟨fun _ => ⟨fun z => ?_, fun z => ?_⟩, fun z => by omega⟩
    · rintro _ rfl
      refine LP T 0 A (by omega) (fr.refl _ _ _) (fun _ _ _ _ => rfl) ?_
      rw [if_neg z]
      show bkM A (l ++ ([] ++ []))
      rw [List.append_nil, List.append_nil]
      exact bkA
    · have okb : okB A (h, q, -1, 0, 0, 0, 0) := (cA.2.2 _).mpr ⟨k1, k2, q0', q1', Or.inl ⟨rfl, rfl, rfl, rfl, rfl⟩⟩
      refine pC0.ox (by omega) (s23 (b := (h, q, -1, 0, 0, 0, 0)) hPA bkA (by omega) okb (by omega)) (fun B hB => ?_)
      rintro _ rfl
      refine LP T 0 B (by omega) hB.1 hB.2.1 ?_
      rw [if_pos z]
      show bkM B (l ++ ([(h, q, -1, 0, 0, 0, 0)] ++ []))
      rw [List.append_nil]
      exact hB.2.2
def vAllG (G : pG) (K : Int) : List vBk := vAl (tlG G) (snL G K) (G 109 10).toNat (1 + 4 * (G 109 11).toNat)
/-- the kept view is right -/
def rFit (G : pG) : Prop := G 92 2 = -1 ∨ (0 ≤ G 92 2 ∧ G 92 2 ≤ 999 ∧ bkM G (vAllG G (G 92 2)))
def v20W : List Nat := [80, 88, 89, 90, 92, 93, 94, 95, 96, 97, 98, 99, 100, 101, 102]
theorem s20 {d : Nat} {G : pG} {K : Int} (hP : rPart G) (hG : rGau G) (hF : rFit G) (hK0 : 0 ≤ K) (hK1 : K ≤ 999) (hd : 4 ≤ d) : ∃ G', pRuns pMT d 20 [pR 92, pI K] Yc G none G' ∧ (fr v20W [] G G' ∧ (∀ j : Nat, j ≠ 10 → G' 80 j = G 80 j) ∧ G' 92 2 = K ∧ bkM G' (vAllG G K)) := by
  have t0 := hP.t0
  have t1 := hP.t1
  have n0 := hP.n0
  have n1 := hP.n1
  refine pX0 rfl rfl (v20_0 ⟨fun hne => ?_, fun he => ?_⟩)
  · obtain ⟨T, hT⟩ : ∃ T : Nat, G 109 10 = (T : Int) := ⟨(G 109 10).toNat, by omega⟩
    obtain ⟨S, hS⟩ : ∃ S : Nat, G 109 11 = (S : Int) := ⟨(G 109 11).toNat, by omega⟩
    have F0 : fr v20W [] G (pset (pset (pset (pset G 92 2 K) 92 5 0) 92 3 0) 92 4 (-1)) := (fr.set (by decide) (by decide) _ _ _).trans ((fr.set (by decide) (by decide) _ _ _).trans ((fr.set (by decide) (by decide) _ _ _).trans (fr.set (by decide) (by decide) _ _ _)))
    have F0n : fr [92] [] G (pset (pset (pset (pset G 92 2 K) 92 5 0) 92 3 0) 92 4 (-1)) := (fr.set (by decide) (by decide) _ _ _).trans ((fr.set (by decide) (by decide) _ _ _).trans ((fr.set (by decide) (by decide) _ _ _).trans (fr.set (by decide) (by decide) _ _ _)))
    have z2 : pset (pset (pset (pset G 92 2 K) 92 5 0) 92 3 0) 92 4 (-1) 92 2 = K := by simp [pset_at]
    have z3 : pset (pset (pset (pset G 92 2 K) 92 5 0) 92 3 0) 92 4 (-1) 92 3 = 0 := by simp [pset_at]
    have z4 : pset (pset (pset (pset G 92 2 K) 92 5 0) 92 3 0) 92 4 (-1) 92 4 = -1 := by simp [pset_at]
    have z5 : pset (pset (pset (pset G 92 2 K) 92 5 0) 92 3 0) 92 4 (-1) 92 5 = 0 := by simp [pset_at]
    generalize pset (pset (pset (pset G 92 2 K) 92 5 0) 92 3 0) 92 4 (-1) = Z at *
    have hGZ : rGau Z := rGau_mv hG (fun c hc => F0n.1 c (by revert hc; revert c; decide) (by revert hc; revert c; decide)) (fun j hj => F0n.2 j (by simp)) (by rw [F0n.c 80 (by decide)]) (by rw [F0n.c 80 (by decide)]) (by rw [F0n.c 80 (by decide)])
    refine pC0.ox (by omega) (s35 (K := K) hGZ (by omega)) (fun A hA => ?_)
    obtain ⟨a1, a2, a3⟩ := hA
    have FA : fr v20W [] G A := F0.trans (a1.mono (by decide) (by decide))
    have hPA : rPart A := FA.mv rPart_dep (by decide) (by decide) hP
    have eSn : snL Z K = snL G K := by
      have eo : ∀ k : Nat, vOff Z k K = vOff G k K := fun k => vOff_c (fun c hc => F0n.1 c (by revert hc; revert c; decide) (by revert hc; revert c; decide)) (F0n.f 61 (by decide)) k K
      have ei : snI Z K = snI G K := by funext k; unfold snI; rw [eo, F0n.c 165 (by decide), F0n.c 166 (by decide), F0n.c 168 (by decide)]
      unfold snL
      rw [ei, F0n.f 60 (by decide)]
    rw [eSn] at a3
    have etl : ∀ g : pG, g 115 = G 115 → tlG g = tlG G := fun g hg => by funext s; unfold tlG; rw [hg]
    have slen : (snL G K).length ≤ 16 := by
      have := cQ_len (G := G) (K := K) (G 109 60).toNat
      have := hG.1
      unfold snL
      omega
    have sok := snL_ok hP hG K (G 109 60).toNat (by have := hG.1; omega)
    rw [show (((G 109 10).toNat : Nat) : Int) = (T : Int) by omega] at sok
    have D : cDw G = ((1 + 4 * S : Nat) : Int) := by unfold cDw; rw [hS]; omega
    have fin : ∀ g : pG, fr v20W [] G g → (∀ j : Nat, j ≠ 10 → g 80 j = G 80 j) → g 92 2 = K → bkM g (cQ (fun j => cQ (fun q => bl (tlG G) (snL G K) T ((j : Int) - 2) (q : Int)) (1 + 4 * S)) 5) → (none : Option pV) = none ∧ (fr v20W [] G g ∧ (∀ j : Nat, j ≠ 10 → g 80 j = G 80 j) ∧ g 92 2 = K ∧ bkM g (vAllG G K)) := by
      intro g h1 h2 h3 h4
      refine ⟨rfl, h1, h2, h3, ?_⟩
      unfold vAllG vAl
      rw [show (G 109 10).toNat = T by omega, show (G 109 11).toNat = S by omega]
      exact h4
    have L1 : ∀ (a b : Nat), (cQ (fun j => cQ (fun q => bl (tlG G) (snL G K) T ((j : Int) - 2) (q : Int)) (1 + 4 * S)) a ++ cQ (fun q => bl (tlG G) (snL G K) T ((a : Int) - 2) (q : Int)) b).length ≤ 7 * (29 * a + b) := by
      have lq : ∀ (j b : Nat), (cQ (fun q => bl (tlG G) (snL G K) T ((j : Int) - 2) (q : Int)) b).length ≤ 7 * b := by
        intro j b
        induction b with
        | zero => exact Nat.le_refl _
        | succ b ih =>
          show (cQ (fun q => bl (tlG G) (snL G K) T ((j : Int) - 2) (q : Int)) b ++ bl (tlG G) (snL G K) T ((j : Int) - 2) (b : Int)).length ≤ _
          rw [List.length_append]
          have := bl_len (tlG G) (snL G K) T ((j : Int) - 2) (b : Int)
          omega
      have lj : ∀ a : Nat, (cQ (fun j => cQ (fun q => bl (tlG G) (snL G K) T ((j : Int) - 2) (q : Int)) (1 + 4 * S)) a).length ≤ 7 * (29 * a) := by
        intro a
        induction a with
        | zero => exact Nat.le_refl _
        | succ a ih =>
          show (cQ (fun j => cQ (fun q => bl (tlG G) (snL G K) T ((j : Int) - 2) (q : Int)) (1 + 4 * S)) a ++ cQ (fun q => bl (tlG G) (snL G K) T ((a : Int) - 2) (q : Int)) (1 + 4 * S)).length ≤ _
          rw [List.length_append]
          have := lq a (1 + 4 * S)
          omega
      intro a b
      rw [List.length_append]
      have := lq a b
      have := lj a
      omega
    have H2 : ∀ (a : Nat), a < 5 → (∀ g : pG, fr v20W [] G g → (∀ j : Nat, j ≠ 10 → g 80 j = G 80 j) → g 92 2 = K → snM g (snL G K) → bkM g (cQ (fun j => cQ (fun q => bl (tlG G) (snL G K) T ((j : Int) - 2) (q : Int)) (1 + 4 * S)) (a + 1)) → pEnds pMT d 20 Yc (fun r g => r = none ∧ (fr v20W [] G g ∧ (∀ j : Nat, j ≠ 10 → g 80 j = G 80 j) ∧ g 92 2 = K ∧ bkM g (vAllG G K))) 48 [pR 92, pU, pI (cDw G), pI (((a + 1 : Nat) : Int) - 2), pU] [] g) → ∀ (n b : Nat) (g : pG), b + n = 1 + 4 * S → fr v20W [] G g → (∀ j : Nat, j ≠ 10 → g 80 j = G 80 j) → g 92 2 = K → snM g (snL G K) → bkM g (cQ (fun j => cQ (fun q => bl (tlG G) (snL G K) T ((j : Int) - 2) (q : Int)) (1 + 4 * S)) a ++ cQ (fun q => bl (tlG G) (snL G K) T ((a : Int) - 2) (q : Int)) b) → pEnds pMT d 20 Yc (fun r g => r = none ∧ (fr v20W [] G g ∧ (∀ j : Nat, j ≠ 10 → g 80 j = G 80 j) ∧ g 92 2 = K ∧ bkM g (vAllG G K))) 56 [pR 92, pU, pI (cDw G), pI ((a : Int) - 2), pI (b : Int)] [] g := by
      intro a ha nx n
      induction n with
      | zero =>
        intro b g hb f1 f2 f3 f4 f5
        obtain rfl : b = 1 + 4 * S := by omega
        refine v20_56 ⟨fun _ => ?_, fun z => by omega⟩
        rw [w32_id (by omega) (by omega)]
        intro x hx
        rw [hx, show (a : Int) - 2 + 1 = ((a + 1 : Nat) : Int) - 2 by omega]
        exact nx g f1 f2 f3 f4 f5
      | succ n ih =>
        intro b g hb f1 f2 f3 f4 f5
        have hPg : rPart g := f1.mv rPart_dep (by decide) (by decide) hP
        have l1 := L1 a b
        have eD : cDw g = cDw G := by unfold cDw; rw [f1.f 11 (by decide)]
        have et : tlG g = tlG G := etl g (f1.c 115 (by decide))
        refine v20_56 ⟨fun z => by omega, fun _ => ?_⟩
        have c21 := s21 (d := d - 1) (G := g) (h := (a : Int) - 2) (q := (b : Int)) (sl := snL G K) (T := T) hPg (by rw [f1.f 10 (by decide)]; exact hT) f4 slen (by rw [et, f1.f 11 (by decide)]; exact sok) (by omega) (by omega) (by omega) (by rw [eD, D]; omega) f5 (by omega) (by omega)
        rw [et] at c21
        refine pC0.ox (by omega) c21 (fun B hB => ?_)
        rw [w32_id (by omega) (by omega)]
        rintro _ rfl
        have FB : fr v20W [] g B := hB.1.mono (by decide) (by decide)
        refine ih (b + 1) B (by omega) (f1.trans FB) (fun j hj => by rw [hB.1.c 80 (by decide)]; exact f2 j hj) (by rw [hB.2.1 2 (by decide) (by decide) (by decide)]; exact f3) ?_ ?_
        · unfold snM at *
          rw [hB.1.c 80 (by decide), hB.1.c 88 (by decide), hB.1.c 89 (by decide), hB.1.c 90 (by decide)]
          exact f4
        · have : cQ (fun j => cQ (fun q => bl (tlG G) (snL G K) T ((j : Int) - 2) (q : Int)) (1 + 4 * S)) a ++ cQ (fun q => bl (tlG G) (snL G K) T ((a : Int) - 2) (q : Int)) (b + 1) = cQ (fun j => cQ (fun q => bl (tlG G) (snL G K) T ((j : Int) - 2) (q : Int)) (1 + 4 * S)) a ++ cQ (fun q => bl (tlG G) (snL G K) T ((a : Int) - 2) (q : Int)) b ++ bl (tlG G) (snL G K) T ((a : Int) - 2) (b : Int) := by
            show _ ++ (_ ++ _) = _
            rw [List.append_assoc]
          rw [this]
          exact hB.2.2
    have H1 : ∀ (n a : Nat) (g : pG), a + n = 5 → fr v20W [] G g → (∀ j : Nat, j ≠ 10 → g 80 j = G 80 j) → g 92 2 = K → snM g (snL G K) → bkM g (cQ (fun j => cQ (fun q => bl (tlG G) (snL G K) T ((j : Int) - 2) (q : Int)) (1 + 4 * S)) a) → pEnds pMT d 20 Yc (fun r g => r = none ∧ (fr v20W [] G g ∧ (∀ j : Nat, j ≠ 10 → g 80 j = G 80 j) ∧ g 92 2 = K ∧ bkM g (vAllG G K))) 48 [pR 92, pU, pI (cDw G), pI ((a : Int) - 2), pU] [] g := by
      intro n
      induction n with
      | zero =>
        intro a g ha f1 f2 f3 f4 f5
        obtain rfl : a = 5 := by omega
        exact v20_48 ⟨fun _ => fin g f1 f2 f3 f5, fun z => by omega⟩
      | succ n ih =>
        intro a g ha f1 f2 f3 f4 f5
        refine v20_48 ⟨fun z => by omega, fun _ => ?_⟩
        rintro _ rfl
        refine H2 a (by omega) (fun g' h1 h2 h3 h4 h5 => ih (a + 1) g' (by omega) h1 h2 h3 h4 h5) (1 + 4 * S) 0 g (by omega) f1 f2 f3 f4 ?_
        show bkM g (_ ++ [])
        rw [List.append_nil]
        exact f5
    refine pC1.of (r := cDw G) (G' := A) (by omega) ?_ ?_
    · have := s66 (d := d - 1) hPA
      rw [show (1 + 4 * A 109 11 : Int) = cDw G by unfold cDw; rw [FA.f 11 (by decide)]] at this
      exact this
    rintro _ rfl x3 hx3
    rw [hx3]
    have := H1 5 0 A rfl FA (fun j hj => by rw [a2 j hj, F0n.c 80 (by decide)]) (by rw [a1.c 92 (by decide)]; exact z2) a3 ⟨by rw [a1.c 92 (by decide)]; exact z5, by rw [a1.c 92 (by decide)]; exact z3, by rw [a1.c 92 (by decide)]; exact z4, fun i b hb => by simp [cQ] at hb, fun b hb => by simp [cQ] at hb⟩
    exact this
  · rcases hF with hF | ⟨-, -, hF⟩
    · omega
    · rw [← he] at hF
      exact ⟨rfl, fr.refl _ _ _, fun _ _ => rfl, he.symm, hF⟩
