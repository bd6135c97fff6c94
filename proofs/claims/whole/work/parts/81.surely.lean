theorem vAll_c {G G' : pG} (hc : ∀ c ∈ [115, 165, 166, 167, 168, 169, 170, 171], G' c = G c) (hf : ∀ j ∈ [10, 11, 60, 61], G' 109 j = G 109 j) (K : Int) : vAllG G' K = vAllG G K ∧ snL G' K = snL G K ∧ tlG G' = tlG G := by
  have eo : ∀ k : Nat, vOff G' k K = vOff G k K := fun k => vOff_c (fun c h => hc c (by revert h; revert c; decide)) (hf 61 (by decide)) k K
  have ei : snI G' K = snI G K := by funext k; unfold snI; rw [eo, hc 165 (by decide), hc 166 (by decide), hc 168 (by decide)]
  have es : snL G' K = snL G K := by unfold snL; rw [ei, hf 60 (by decide)]
  have et : tlG G' = tlG G := by funext s; unfold tlG; rw [hc 115 (by decide)]
  refine ⟨?_, es, et⟩
  unfold vAllG
  rw [es, et, hf 10 (by decide), hf 11 (by decide)]
theorem bkM_c {G G' : pG} (hc : ∀ c ∈ [92, 93, 94, 95, 96, 97, 98, 99], G' c = G c) (h1 : G' 109 10 = G 109 10) (h2 : G' 109 11 = G 109 11) {l : List vBk} (h : bkM G l) : bkM G' l := by
  have cc := cells_c h1 h2
  unfold bkM at *
  rw [hc 92 (by decide), hc 93 (by decide), hc 94 (by decide), hc 95 (by decide), hc 96 (by decide), hc 97 (by decide), hc 98 (by decide), hc 99 (by decide), cc.2.1]
  exact ⟨h.1, h.2.1, h.2.2.1, h.2.2.2.1, fun b hb => (cc.2.2 b).mpr (h.2.2.2.2 b hb)⟩
theorem rFit_mv {G G' : pG} (h : rFit G) (hc : ∀ c ∈ [92, 93, 94, 95, 96, 97, 98, 99, 115, 165, 166, 167, 168, 169, 170, 171], G' c = G c) (hf : ∀ j ∈ [10, 11, 60, 61], G' 109 j = G 109 j) : rFit G' := by
  unfold rFit at *
  rw [hc 92 (by decide), (vAll_c (fun c h => hc c (by revert h; revert c; decide)) hf _).1]
  rcases h with h | ⟨h1, h2, h3⟩
  · exact Or.inl h
  · exact Or.inr ⟨h1, h2, bkM_c (fun c h => hc c (by revert h; revert c; decide)) (hf 10 (by decide)) (hf 11 (by decide)) h3⟩
/-- both views at a stage -/
theorem views {d : Nat} {G : pG} {K : Int} (hP : rPart G) (hG : rGau G) (hF : rFit G) (hK0 : 0 ≤ K) (hK1 : K ≤ 999) (hd : 4 ≤ d) : ∃ A, pRuns pMT d 20 [pR 92, pI K] Yc G none A ∧ (fr v20W [] G A ∧ rPart A ∧ rGau A ∧ rFit A ∧ bkM A (vAllG G K) ∧ (∀ b ∈ vAllG G K, okB G b) ∧ A 92 3 = cN (fN G K) (vCau G).toNat ∧ A 92 4 = lf (fN G K) (vCau G).toNat ∧ vCau A = vCau G ∧ fN A K = fN G K ∧ vAllG A K = vAllG G K) := by
  obtain ⟨A, a1, a2, a3, a4, a5⟩ := s20 (d := d) hP hG hF hK0 hK1 hd
  have cc := cells_c (G := G) (G' := A) (a2.f 10 (by decide)) (a2.f 11 (by decide))
  have hok : ∀ b ∈ vAllG G K, okB G b := fun b hb => (cc.2.2 b).mp (a5.2.2.2.2 b hb)
  have ev := vAll_c (G := G) (G' := A) (fun c h => a2.1 c (by revert h; revert c; decide) (by revert h; revert c; decide)) (fun j h => a2.2 j (by simp)) K
  have eC : vCau A = vCau G := by unfold vCau; rw [a2.f 10 (by decide), a2.f 11 (by decide)]
  refine ⟨A, a1, a2, a2.mv rPart_dep (by decide) (by decide) hP, ?_, ?_, a5, hok, ?_, ?_, eC, ?_, ev.1⟩
  · exact rGau_mv hG (fun c h => a2.1 c (by revert h; revert c; decide) (by revert h; revert c; decide)) (fun j h => a2.2 j (by simp)) (a3 0 (by decide)) (a3 1 (by decide)) (a3 2 (by decide))
  · refine Or.inr ⟨by omega, by omega, ?_⟩
    rw [a4, ev.1]
    exact a5
  · rw [a5.2.1]; exact total_eq hP hG K hok
  · rw [a5.2.2.1, cc.2.1]; exact least_eq hP hG K hok
  · funext n
    unfold fN
    rw [ev.2.1, ev.2.2]
    unfold vH vW vD cDw cWw
    rw [a2.f 10 (by decide), a2.f 11 (by decide)]
def fW20 : List Nat := [80, 88, 89, 90, 92, 93, 94, 95, 96, 97, 98, 99, 100, 101, 102, 172]
def fitPost (G' : pG) : Prop := rGau G' ∧ rFit G'
theorem fitPost_mv {A D : pG} (f : fr [172] [71, 72] A D) (hG : rGau A) (hF : rFit A) : fitPost D := ⟨rGau_mv hG (fun c h => f.1 c (by revert h; revert c; decide) (by revert h; revert c; decide)) (fun j h => f.2 j (by revert h; revert j; decide)) (by rw [f.c 80 (by decide)]) (by rw [f.c 80 (by decide)]) (by rw [f.c 80 (by decide)]), rFit_mv hF (fun c h => f.1 c (by revert h; revert c; decide) (by revert h; revert c; decide)) (fun j h => f.2 j (by revert h; revert j; decide))⟩
theorem pr_fit (K x : Int) : pPx fW20 [71, 72] (fun G => rPart G ∧ rGau G ∧ rFit G) (fun _ G' => fitPost G') 157 257 [pI K, pI x] := by
  rintro G ⟨hP, hG, hF⟩
  by_cases hok : (0 ≤ K ∧ K ≤ 999) ∧ (0 ≤ x ∧ x ≤ 1)
  · obtain ⟨A, a1, a2, hPA, hGA, hFA, a5, hok2, a6, a7, eC, eN, -⟩ := views (d := 58) hP hG hF hok.1.1 hok.1.2 (by omega)
    obtain ⟨D, d1, d2, d3, d4, d5⟩ := s255 (d := 58) (K := K) hPA hGA (by omega)
    rw [eN, eC] at d4 d5
    refine ⟨if x = 0 then cN (fN G K) (vCau G).toNat else lf (fN G K) (vCau G).toNat, A, D, pRuns.of rfl rfl (v157_0 ?_), pRuns.of rfl rfl (v257_0 ?_), a2.mono (by decide) (by decide), (a2.mono (by decide) (by decide)).trans (d2.mono (by decide) (by decide)), fitPost_mv d2 hGA hFA⟩
    · refine pC1.of (by omega) (s124 (by omega)) ⟨fun z => absurd hok.1 (b2i_0.mp z), fun _ => ⟨fun z => pC0.of (by omega) a1 ⟨fun y => absurd z y, fun _ => rI (by rw [if_pos z, a6]) rfl⟩, fun z => ⟨fun _ => pC0.of (by omega) a1 ⟨fun _ => rI (by rw [if_neg z, a7]) rfl, fun y => absurd y z⟩, fun y => by omega⟩⟩⟩
    · refine pC1.of (by omega) (s256 (by omega)) ⟨fun z => absurd hok.1 (b2i_0.mp z), fun _ => pC1.of (by omega) s166 ⟨fun _ => pC0.of (by omega) d1 ⟨fun z => rI (by rw [if_neg z, d5]) rfl, fun z => rI (by rw [if_pos z, d4]) rfl⟩, fun z => absurd hok.2 (b2i_0.mp z)⟩⟩
  · refine ⟨-2, G, G, pRuns.of rfl rfl (v157_0 ?_), pRuns.of rfl rfl (v257_0 ?_), fr.refl _ _ _, fr.refl _ _ _, hG, hF⟩
    · refine pC1.of (by omega) (s124 (by omega)) ⟨fun z => rI rfl rfl, fun z => ⟨fun y => absurd ⟨b2i_n0.mp z, by omega⟩ hok, fun y => ⟨fun w => absurd ⟨b2i_n0.mp z, by omega⟩ hok, fun w => rI rfl rfl⟩⟩⟩
    · exact pC1.of (by omega) (s256 (by omega)) ⟨fun z => rI rfl rfl, fun z => pC1.of (by omega) s166 ⟨fun y => absurd ⟨b2i_n0.mp z, b2i_n0.mp y⟩ hok, fun _ => rI rfl rfl⟩⟩
/-- surely -/
def vSur (tot many : Int) : Int := if tot = 0 then -1 else if many = 0 then 0 else if many = tot then 1 else 2
theorem s27 {d : Nat} {G : pG} {x : Int} : pRuns pMT d 27 [pR 92, pI x] Yc G (some (pI (vSur (G 92 3) x))) G := by
  unfold vSur
  refine pRuns.of rfl rfl (v27_0 ⟨fun h => ⟨fun h1 => ⟨fun h2 => rI ?_ rfl, fun h2 => rI ?_ rfl⟩, fun h1 => rI ?_ rfl⟩, fun h => rI ?_ rfl⟩)
  · rw [if_neg h, if_neg h1, if_neg h2]
  · rw [if_neg h, if_neg h1, if_pos h2]
  · rw [if_neg h, if_pos h1]
  · rw [if_pos h]
theorem s258 {d : Nat} {G : pG} {x : Int} : pRuns pMT d 258 [pR 109, pI x] Yc G (some (pI (vSur (G 109 71) x))) G := by
  unfold vSur
  refine pRuns.of rfl rfl (v258_0 ⟨fun h => ⟨fun h1 => ⟨fun h2 => rI ?_ rfl, fun h2 => rI ?_ rfl⟩, fun h1 => rI ?_ rfl⟩, fun h => rI ?_ rfl⟩)
  · rw [if_neg h, if_neg h2, if_neg h1]
  · rw [if_neg h, if_pos h2]
  · rw [if_neg h, if_neg (by omega), if_pos h1]
  · rw [if_pos h]
/-- a sum over the class' blocks -/
theorem bkM_at {G : pG} {l : List vBk} (h : bkM G l) {i : Nat} (hi : i < l.length) : ∃ b, b ∈ l ∧ l[i]? = some b ∧ okB G b ∧ G 93 i = b.1 ∧ G 94 i = b.2.1 ∧ G 95 i = b.2.2.1 ∧ G 96 i = b.2.2.2.1 ∧ G 97 i = b.2.2.2.2.1 ∧ G 98 i = b.2.2.2.2.2.1 ∧ G 99 i = b.2.2.2.2.2.2 := by
  have hb : l[i]? = some (l[i]) := List.getElem?_eq_getElem hi
  have hm : l[i] ∈ l := List.getElem_mem hi
  exact ⟨l[i], hm, hb, h.2.2.2.2 _ hm, h.2.2.2.1 i _ hb⟩
theorem s25 {d : Nat} {G : pG} {l : List vBk} {t : Int} (h : bkM G l) (hl : l.length ≤ 1015) (hd : 1 ≤ d) : pRuns pMT d 25 [pR 92, pI t] Yc G (some (pI (lSm (fun b => if b.2.2.1 = t then szB b else 0) l))) G := by
  refine pRuns.of rfl rfl (v25_0 ?_)
  suffices H : ∀ (n i : Nat), i + n = l.length → pEnds pMT d 25 Yc (fun r' g => r' = some (pI (lSm (fun b => if b.2.2.1 = t then szB b else 0) l)) ∧ g = G) 4 [pR 92, pI t, pI (lSm (fun b => if b.2.2.1 = t then szB b else 0) (l.take i)), pI (i : Int)] [] G by
    rintro _ rfl _ rfl
    exact H l.length 0 (by omega)
  intro n
  induction n with
  | zero =>
    intro i hi
    refine v25_4 ⟨fun _ => rI (by rw [List.take_of_length_le (by omega)]) rfl, fun z => by rw [h.1] at z; omega⟩
  | succ n ih =>
    intro i hi
    have nx := ih (i + 1) (by omega)
    obtain ⟨b, b1, b2, b3, c1, c2, c3, c4, c5, c6, c7⟩ := bkM_at h (i := i) (by omega)
    have sb := sz_bd b3
    have bd : 0 ≤ lSm (fun b => if b.2.2.1 = t then szB b else 0) (l.take i) ∧ lSm (fun b => if b.2.2.1 = t then szB b else 0) (l.take i) ≤ 60 * (i : Int) := by
      have : ∀ l2 : List vBk, (∀ x ∈ l2, okB G x) → 0 ≤ lSm (fun b => if b.2.2.1 = t then szB b else 0) l2 ∧ lSm (fun b => if b.2.2.1 = t then szB b else 0) l2 ≤ 60 * (l2.length : Int) := by
        intro l2
        induction l2 with
        | nil => intro _; exact ⟨Int.le_refl _, Int.le_refl _⟩
        | cons x l2 ihl =>
          intro hx
          have h1 := ihl (fun y hy => hx y (List.mem_cons_of_mem _ hy))
          have h2 := sz_bd (hx x List.mem_cons_self)
          show 0 ≤ (if x.2.2.1 = t then szB x else 0) + lSm (fun b => if b.2.2.1 = t then szB b else 0) l2 ∧ (if x.2.2.1 = t then szB x else 0) + lSm (fun b => if b.2.2.1 = t then szB b else 0) l2 ≤ 60 * ((l2.length + 1 : Nat) : Int)
          split <;> omega
      have h3 := this (l.take i) (fun x hx => h.2.2.2.2 x (List.mem_of_mem_take hx))
      have : (l.take i).length ≤ i := by rw [List.length_take]; omega
      omega
    rw [take_s b2, lSm_app] at nx
    have e0 : lSm (fun b : vBk => if b.2.2.1 = t then szB b else 0) [b] = (if b.2.2.1 = t then szB b else 0) := Int.add_zero _
    rw [e0] at nx
    refine v25_4 ⟨fun z => by rw [h.1] at z; omega, fun _ => ⟨by omega, by omega, ?_⟩⟩
    rw [Int.toNat_natCast, c3, w32_id (x := (i : Int) + 1) (by omega) (by omega)]
    refine ⟨fun z => ?_, fun z => pC1.of hd (s24 (by omega) c4 c5 c6 c7 b3) ?_⟩
    · rw [if_neg z] at nx
      rw [w32_id (by omega) (by omega)]
      rintro _ rfl _ rfl
      exact nx
    · rw [if_pos z] at nx
      rw [w32_id (by omega) (by omega)]
      rintro _ rfl _ rfl
      exact nx
theorem s26 {d : Nat} {G : pG} {l : List vBk} {s : Nat} (hP : rPart G) (h : bkM G l) (hl : l.length ≤ 1015) (hd : 1 ≤ d) : pRuns pMT d 26 [pR 92, pI (s : Int)] Yc G (some (pI (lSm (fun b => if dStep b.2.1 = (s : Int) then szB b else 0) l))) G := by
  refine pRuns.of rfl rfl (v26_0 ?_)
  have w4 := (cDw_bd hP).2
  suffices H : ∀ (n i : Nat), i + n = l.length → pEnds pMT d 26 Yc (fun r' g => r' = some (pI (lSm (fun b => if dStep b.2.1 = (s : Int) then szB b else 0) l)) ∧ g = G) 4 [pR 92, pI (s : Int), pI (lSm (fun b => if dStep b.2.1 = (s : Int) then szB b else 0) (l.take i)), pI (i : Int)] [] G by
    rintro _ rfl _ rfl
    exact H l.length 0 (by omega)
  intro n
  induction n with
  | zero =>
    intro i hi
    refine v26_4 ⟨fun _ => rI (by rw [List.take_of_length_le (by omega)]) rfl, fun z => by rw [h.1] at z; omega⟩
  | succ n ih =>
    intro i hi
    have nx := ih (i + 1) (by omega)
    obtain ⟨b, b1, b2, b3, c1, c2, c3, c4, c5, c6, c7⟩ := bkM_at h (i := i) (by omega)
    have sb := sz_bd b3
    have qb := b3.2.2
    have bd : 0 ≤ lSm (fun b => if dStep b.2.1 = (s : Int) then szB b else 0) (l.take i) ∧ lSm (fun b => if dStep b.2.1 = (s : Int) then szB b else 0) (l.take i) ≤ 60 * (i : Int) := by
      have : ∀ l2 : List vBk, (∀ x ∈ l2, okB G x) → 0 ≤ lSm (fun b => if dStep b.2.1 = (s : Int) then szB b else 0) l2 ∧ lSm (fun b => if dStep b.2.1 = (s : Int) then szB b else 0) l2 ≤ 60 * (l2.length : Int) := by
        intro l2
        induction l2 with
        | nil => intro _; exact ⟨Int.le_refl _, Int.le_refl _⟩
        | cons x l2 ihl =>
          intro hx
          have h1 := ihl (fun y hy => hx y (List.mem_cons_of_mem _ hy))
          have h2 := sz_bd (hx x List.mem_cons_self)
          show 0 ≤ (if dStep x.2.1 = (s : Int) then szB x else 0) + lSm (fun b => if dStep b.2.1 = (s : Int) then szB b else 0) l2 ∧ (if dStep x.2.1 = (s : Int) then szB x else 0) + lSm (fun b => if dStep b.2.1 = (s : Int) then szB b else 0) l2 ≤ 60 * ((l2.length + 1 : Nat) : Int)
          split <;> omega
      have h3 := this (l.take i) (fun x hx => h.2.2.2.2 x (List.mem_of_mem_take hx))
      have : (l.take i).length ≤ i := by rw [List.length_take]; omega
      omega
    rw [take_s b2, lSm_app] at nx
    have e0 : lSm (fun b : vBk => if dStep b.2.1 = (s : Int) then szB b else 0) [b] = (if dStep b.2.1 = (s : Int) then szB b else 0) := Int.add_zero _
    rw [e0] at nx
    have pos : dStep b.2.1 = (s : Int) → 1 ≤ dBy b.2.1 := by
      unfold dStep dBy
      intro z
      by_cases q : b.2.1 = 0
      · rw [if_pos q] at z; omega
      · rw [if_neg q]; omega
    refine v26_4 ⟨fun z => by rw [h.1] at z; omega, fun _ => ⟨by omega, by omega, ?_⟩⟩
    rw [Int.toNat_natCast, c2, w32_id (x := (i : Int) + 1) (by omega) (by omega)]
    refine pC1.of hd (s4 qb.1 (by omega)) ⟨fun z => ?_, fun z => pC1.of hd (s24 (by omega) c4 c5 c6 c7 b3) ?_⟩
    · have ne : ¬ dStep b.2.1 = (s : Int) := fun q => by rw [if_pos q] at z; have := pos q; omega
      rw [if_neg ne] at nx
      rw [w32_id (by omega) (by omega)]
      rintro _ rfl _ rfl
      exact nx
    · have eq : dStep b.2.1 = (s : Int) := by
        by_cases q : dStep b.2.1 = (s : Int)
        · exact q
        · rw [if_neg q] at z; omega
      rw [if_pos eq] at nx
      rw [w32_id (by omega) (by omega)]
      rintro _ rfl _ rfl
      exact nx
/-- causes counted by the reference -/
theorem l259 {d : Nat} {G : pG} {f : Nat → Bool} {t : Int} (hP : rPart G) (hM : ftM G f (vCau G).toNat) (ht : 0 ≤ t) (hd : 2 ≤ d) : pEnds pMT d 259 Yc (fun r' g => r' = some (pI (vSur (G 109 71) (vSm (fun n => if f n = true then (if wTool (vW G (n : Int)) = t then 1 else 0) else 0) (vCau G).toNat))) ∧ g = G) 28 [pR 109, pI t, pU, pI 0, pI 0] [] G := by
  obtain ⟨c1, c2, c3⟩ := vCau_e hP
  have w2 := (cWw_bd hP).2
  have bd : ∀ n : Nat, 0 ≤ vSm (fun n => if f n = true then (if wTool (vW G (n : Int)) = t then (1 : Int) else 0) else 0) n ∧ vSm (fun n => if f n = true then (if wTool (vW G (n : Int)) = t then (1 : Int) else 0) else 0) n ≤ (n : Int) := by
    intro n
    have := vSm_bd (f := fun n => if f n = true then (if wTool (vW G (n : Int)) = t then (1 : Int) else 0) else 0) (B := 1) (by omega) n (fun i _ => by show 0 ≤ (if f i = true then (if wTool (vW G (i : Int)) = t then (1 : Int) else 0) else 0) ∧ (if f i = true then (if wTool (vW G (i : Int)) = t then (1 : Int) else 0) else 0) ≤ 1; split <;> (try split) <;> omega)
    omega
  have H : ∀ (m n : Nat), n + m = (vCau G).toNat → pEnds pMT d 259 Yc (fun r' g => r' = some (pI (vSur (G 109 71) (vSm (fun n => if f n = true then (if wTool (vW G (n : Int)) = t then 1 else 0) else 0) (vCau G).toNat))) ∧ g = G) 28 [pR 109, pI t, pU, pI (vSm (fun n => if f n = true then (if wTool (vW G (n : Int)) = t then 1 else 0) else 0) n), pI (n : Int)] [] G := by
    intro m
    induction m with
    | zero =>
      intro n hn
      obtain rfl : n = (vCau G).toNat := by omega
      refine v259_28 (pC1.of (by omega) (s246 hP (by omega)) ⟨fun _ => pC1.of (by omega) s258 (rI rfl rfl), fun z => by omega⟩)
    | succ m ih =>
      intro n hn
      have nx := ih (n + 1) (by omega)
      have b := bd n
      have sn : vSm (fun n => if f n = true then (if wTool (vW G (n : Int)) = t then (1 : Int) else 0) else 0) (n + 1) = vSm (fun n => if f n = true then (if wTool (vW G (n : Int)) = t then (1 : Int) else 0) else 0) n + (if f n = true then (if wTool (vW G (n : Int)) = t then (1 : Int) else 0) else 0) := rfl
      rw [sn] at nx
      obtain ⟨-, -, k3, k4, -, -⟩ := cau_bd hP (n := (n : Int)) (by omega) (by omega)
      refine v259_28 (pC1.of (by omega) (s246 hP (by omega)) ⟨fun z => by omega, fun _ => pC1.of (by omega) (s254 hM (by omega) (by omega)) ?_⟩)
      rw [w32_id (x := (n : Int) + 1) (by omega) (by omega), w32_id (x := vSm (fun n => if f n = true then (if wTool (vW G (n : Int)) = t then (1 : Int) else 0) else 0) n + 0) (by omega) (by omega), w32_id (x := vSm (fun n => if f n = true then (if wTool (vW G (n : Int)) = t then (1 : Int) else 0) else 0) n + 1) (by omega) (by omega)]
      refine ⟨fun z => ?_, fun z => pC1.of (by omega) (s248 hP (by omega) (by omega) (by omega)) ⟨fun y => ?_, fun y => pC1.of (by omega) (s248 hP (by omega) (by omega) (by omega)) ⟨by omega, ?_⟩⟩⟩
      · rw [if_neg (b2i_0.mp z)] at nx
        rintro _ rfl _ rfl
        exact nx
      · rw [if_pos (b2i_n0.mp z), if_neg (by unfold wTool; rw [if_pos (by omega)]; omega)] at nx
        rintro _ rfl _ rfl
        exact nx
      · have ew : wTool (vW G (n : Int)) = (vW G (n : Int) - 1) / 60 := by unfold wTool; rw [if_neg (by omega)]
        rw [(r1_e (by omega) (by omega) (by omega) (by omega)).1, ← ew]
        refine ⟨fun w => ?_, fun w => ?_⟩
        · rw [if_pos (b2i_n0.mp z), if_neg w] at nx
          rintro _ rfl _ rfl
          exact nx
        · rw [if_pos (b2i_n0.mp z), if_pos w] at nx
          rintro _ rfl _ rfl
          exact nx
  exact H (vCau G).toNat 0 (by omega)
theorem l260 {d : Nat} {G : pG} {f : Nat → Bool} {t : Int} (hP : rPart G) (hM : ftM G f (vCau G).toNat) (ht : 0 ≤ t) (hd : 2 ≤ d) : pEnds pMT d 260 Yc (fun r' g => r' = some (pI (vSur (G 109 71) (vSm (fun n => if f n = true then (if dStep (vD G (n : Int)) = t then 1 else 0) else 0) (vCau G).toNat))) ∧ g = G) 28 [pR 109, pI t, pU, pI 0, pI 0] [] G := by
  obtain ⟨c1, c2, c3⟩ := vCau_e hP
  have w2 := (cDw_bd hP).2
  have bd : ∀ n : Nat, 0 ≤ vSm (fun n => if f n = true then (if dStep (vD G (n : Int)) = t then (1 : Int) else 0) else 0) n ∧ vSm (fun n => if f n = true then (if dStep (vD G (n : Int)) = t then (1 : Int) else 0) else 0) n ≤ (n : Int) := by
    intro n
    have := vSm_bd (f := fun n => if f n = true then (if dStep (vD G (n : Int)) = t then (1 : Int) else 0) else 0) (B := 1) (by omega) n (fun i _ => by show 0 ≤ (if f i = true then (if dStep (vD G (i : Int)) = t then (1 : Int) else 0) else 0) ∧ (if f i = true then (if dStep (vD G (i : Int)) = t then (1 : Int) else 0) else 0) ≤ 1; split <;> (try split) <;> omega)
    omega
  have H : ∀ (m n : Nat), n + m = (vCau G).toNat → pEnds pMT d 260 Yc (fun r' g => r' = some (pI (vSur (G 109 71) (vSm (fun n => if f n = true then (if dStep (vD G (n : Int)) = t then 1 else 0) else 0) (vCau G).toNat))) ∧ g = G) 28 [pR 109, pI t, pU, pI (vSm (fun n => if f n = true then (if dStep (vD G (n : Int)) = t then 1 else 0) else 0) n), pI (n : Int)] [] G := by
    intro m
    induction m with
    | zero =>
      intro n hn
      obtain rfl : n = (vCau G).toNat := by omega
      refine v260_28 (pC1.of (by omega) (s246 hP (by omega)) ⟨fun _ => pC1.of (by omega) s258 (rI rfl rfl), fun z => by omega⟩)
    | succ m ih =>
      intro n hn
      have nx := ih (n + 1) (by omega)
      have b := bd n
      have sn : vSm (fun n => if f n = true then (if dStep (vD G (n : Int)) = t then (1 : Int) else 0) else 0) (n + 1) = vSm (fun n => if f n = true then (if dStep (vD G (n : Int)) = t then (1 : Int) else 0) else 0) n + (if f n = true then (if dStep (vD G (n : Int)) = t then (1 : Int) else 0) else 0) := rfl
      rw [sn] at nx
      obtain ⟨-, -, -, -, k3, k4⟩ := cau_bd hP (n := (n : Int)) (by omega) (by omega)
      refine v260_28 (pC1.of (by omega) (s246 hP (by omega)) ⟨fun z => by omega, fun _ => pC1.of (by omega) (s254 hM (by omega) (by omega)) ?_⟩)
      rw [w32_id (x := (n : Int) + 1) (by omega) (by omega), w32_id (x := vSm (fun n => if f n = true then (if dStep (vD G (n : Int)) = t then (1 : Int) else 0) else 0) n + 0) (by omega) (by omega), w32_id (x := vSm (fun n => if f n = true then (if dStep (vD G (n : Int)) = t then (1 : Int) else 0) else 0) n + 1) (by omega) (by omega)]
      refine ⟨fun z => ?_, fun z => pC1.of (by omega) (s249 hP (by omega) (by omega) (by omega)) ⟨fun y => ?_, fun y => pC1.of (by omega) (s249 hP (by omega) (by omega) (by omega)) ⟨by omega, ?_⟩⟩⟩
      · rw [if_neg (b2i_0.mp z)] at nx
        rintro _ rfl _ rfl
        exact nx
      · rw [if_pos (b2i_n0.mp z), if_neg (by unfold dStep; rw [if_pos (by omega)]; omega)] at nx
        rintro _ rfl _ rfl
        exact nx
      · have ew : dStep (vD G (n : Int)) = (vD G (n : Int) - 1) / 4 := by unfold dStep; rw [if_neg (by omega)]
        rw [(r1_e (by omega) (by omega) (by omega) (by omega)).1, ← ew]
        refine ⟨fun w => ?_, fun w => ?_⟩
        · rw [if_pos (b2i_n0.mp z), if_neg w] at nx
          rintro _ rfl _ rfl
          exact nx
        · rw [if_pos (b2i_n0.mp z), if_pos w] at nx
          rintro _ rfl _ rfl
          exact nx
  exact H (vCau G).toNat 0 (by omega)
theorem bk_len {G : pG} (hP : rPart G) (K : Int) : (vAllG G K).length ≤ 1015 := by
  have n1 := hP.n1
  have t1 := hP.t1
  have lq : ∀ (j b : Nat), (cQ (fun q => bl (tlG G) (snL G K) (G 109 10).toNat ((j : Int) - 2) (q : Int)) b).length ≤ 7 * b := by
    intro j b
    induction b with
    | zero => exact Nat.le_refl _
    | succ b ih =>
      show (cQ (fun q => bl (tlG G) (snL G K) (G 109 10).toNat ((j : Int) - 2) (q : Int)) b ++ bl (tlG G) (snL G K) (G 109 10).toNat ((j : Int) - 2) (b : Int)).length ≤ _
      rw [List.length_append]
      have := bl_len (tlG G) (snL G K) (G 109 10).toNat ((j : Int) - 2) (b : Int)
      omega
  have lj : ∀ a : Nat, (cQ (fun j => cQ (fun q => bl (tlG G) (snL G K) (G 109 10).toNat ((j : Int) - 2) (q : Int)) (1 + 4 * (G 109 11).toNat)) a).length ≤ 7 * (29 * a) := by
    intro a
    induction a with
    | zero => exact Nat.le_refl _
    | succ a ih =>
      show (cQ (fun j => cQ (fun q => bl (tlG G) (snL G K) (G 109 10).toNat ((j : Int) - 2) (q : Int)) (1 + 4 * (G 109 11).toNat)) a ++ cQ (fun q => bl (tlG G) (snL G K) (G 109 10).toNat ((a : Int) - 2) (q : Int)) (1 + 4 * (G 109 11).toNat)).length ≤ _
      rw [List.length_append]
      have := lq a (1 + 4 * (G 109 11).toNat)
      omega
  exact lj 5
theorem worn_eq {G : pG} (hP : rPart G) (hG : rGau G) (K : Int) (hok : ∀ b ∈ vAllG G K, okB G b) {t : Int} (ht : 0 ≤ t) : vSm (fun n => if fN G K n = true then (if wTool (vW G (n : Int)) = t then 1 else 0) else 0) (vCau G).toNat = lSm (fun b => if b.2.2.1 = t then szB b else 0) (vAllG G K) := by
  rw [tot hP hG K (fun _ w _ => if wTool w = t then 1 else 0)]
  refine lSm_c _ (fun b hb => ?_)
  have o := hok b hb
  by_cases q : b.2.2.1 = t
  · rw [if_pos q, bSm_k (V := 1) o (fun z => by omega) (fun _ f c hf hc => ?_)]
    · omega
    · rw [if_pos]
      rw [(wN_e (by omega) (by omega) (by omega) (by omega) (by omega)).2.1]
      exact q
  · rw [if_neg q, bSm_k (V := 0) o (fun z => ?_) (fun ne f c hf hc => ?_)]
    · omega
    · show (if wTool 0 = t then (1 : Int) else 0) = 0
      rw [if_neg (by unfold wTool; rw [if_pos rfl]; omega)]
    · rw [if_neg]
      obtain ⟨-, -, -, -, oo⟩ := o
      rw [(wN_e (by omega) (by omega) (by omega) (by omega) (by omega)).2.1]
      exact q
theorem dull_eq {G : pG} (hP : rPart G) (hG : rGau G) (K : Int) (hok : ∀ b ∈ vAllG G K, okB G b) (t : Int) : vSm (fun n => if fN G K n = true then (if dStep (vD G (n : Int)) = t then 1 else 0) else 0) (vCau G).toNat = lSm (fun b => if dStep b.2.1 = t then szB b else 0) (vAllG G K) := by
  rw [tot hP hG K (fun _ _ q => if dStep q = t then 1 else 0)]
  refine lSm_c _ (fun b hb => ?_)
  have o := hok b hb
  by_cases q : dStep b.2.1 = t
  · rw [if_pos q, bSm_k (V := 1) o (fun z => by rw [if_pos q]) (fun _ f c hf hc => by rw [if_pos q])]
    omega
  · rw [if_neg q, bSm_k (V := 0) o (fun z => by rw [if_neg q]) (fun _ f c hf hc => by rw [if_neg q])]
    omega
theorem pr_sWorn (t K : Int) : pPx fW20 [71, 72] (fun G => rPart G ∧ rGau G ∧ rFit G) (fun _ G' => fitPost G') 160 259 [pI t, pI K] := by
  rintro G ⟨hP, hG, hF⟩
  by_cases hok : (0 ≤ t ∧ t ≤ G 109 10 - 1) ∧ (0 ≤ K ∧ K ≤ 999)
  · obtain ⟨A, a1, a2, hPA, hGA, hFA, a5, hok2, a6, a7, eC, eN, eV⟩ := views (d := 58) hP hG hF hok.2.1 hok.2.2 (by omega)
    obtain ⟨D, d1, d2, d3, d4, d5⟩ := s255 (d := 58) (K := K) hPA hGA (by omega)
    rw [eN, eC] at d3 d4
    have hPD : rPart D := d2.mv rPart_dep (by decide) (by decide) hPA
    have eCD : vCau D = vCau G := by rw [← eC]; unfold vCau; rw [d2.f 10 (by decide), d2.f 11 (by decide)]
    have eW : ∀ x : Int, vW D x = vW G x := fun x => by unfold vW cDw cWw; rw [d2.f 10 (by decide), d2.f 11 (by decide), a2.f 10 (by decide), a2.f 11 (by decide)]
    refine ⟨vSur (cN (fN G K) (vCau G).toNat) (lSm (fun b => if b.2.2.1 = t then szB b else 0) (vAllG G K)), A, D, pRuns.of rfl rfl (v160_0 ?_), pRuns.of rfl rfl (v259_0 ?_), a2.mono (by decide) (by decide), (a2.mono (by decide) (by decide)).trans (d2.mono (by decide) (by decide)), fitPost_mv d2 hGA hFA⟩
    · refine pC1.of (by omega) (s120 hP (by omega)) ⟨fun z => absurd hok.1 (b2i_0.mp z), fun _ => pC1.of (by omega) (s124 (by omega)) ⟨fun _ => pC0.of (by omega) a1 (pC1.of (by omega) (s25 a5 (bk_len hP K) (by omega)) (pC1.of (by omega) s27 (rI (by rw [a6]) rfl))), fun z => absurd hok.2 (b2i_0.mp z)⟩⟩
    · refine pC1.of (by omega) (s199 hPA (by omega)) ⟨fun z => absurd (by rw [a2.f 10 (by decide)]; exact hok.1) (b2i_0.mp z), fun _ => pC1.of (by omega) (s256 (by omega)) ⟨fun _ => pC0.of (by omega) d1 ?_, fun z => absurd hok.2 (b2i_0.mp z)⟩⟩
      rintro _ rfl _ rfl
      have := l259 (d := 59) (G := D) (f := fN G K) (t := t) hPD (by rw [eCD]; exact d3) hok.1.1 (by omega)
      simp only [eW] at this
      rw [eCD, worn_eq hP hG K hok2 hok.1.1, d4] at this
      exact this
  · refine ⟨-2, G, G, pRuns.of rfl rfl (v160_0 ?_), pRuns.of rfl rfl (v259_0 ?_), fr.refl _ _ _, fr.refl _ _ _, hG, hF⟩
    · exact pC1.of (by omega) (s120 hP (by omega)) ⟨fun z => rI rfl rfl, fun z => pC1.of (by omega) (s124 (by omega)) ⟨fun y => absurd ⟨b2i_n0.mp z, b2i_n0.mp y⟩ hok, fun _ => rI rfl rfl⟩⟩
    · exact pC1.of (by omega) (s199 hP (by omega)) ⟨fun z => rI rfl rfl, fun z => pC1.of (by omega) (s256 (by omega)) ⟨fun y => absurd ⟨b2i_n0.mp z, b2i_n0.mp y⟩ hok, fun _ => rI rfl rfl⟩⟩
theorem pr_sDull (t K : Int) : pPx fW20 [71, 72] (fun G => rPart G ∧ rGau G ∧ rFit G) (fun _ G' => fitPost G') 161 260 [pI t, pI K] := by
  rintro G ⟨hP, hG, hF⟩
  by_cases hok : (0 ≤ t ∧ t ≤ G 109 11 - 1) ∧ (0 ≤ K ∧ K ≤ 999)
  · obtain ⟨A, a1, a2, hPA, hGA, hFA, a5, hok2, a6, a7, eC, eN, eV⟩ := views (d := 58) hP hG hF hok.2.1 hok.2.2 (by omega)
    obtain ⟨D, d1, d2, d3, d4, d5⟩ := s255 (d := 58) (K := K) hPA hGA (by omega)
    rw [eN, eC] at d3 d4
    have hPD : rPart D := d2.mv rPart_dep (by decide) (by decide) hPA
    have eCD : vCau D = vCau G := by rw [← eC]; unfold vCau; rw [d2.f 10 (by decide), d2.f 11 (by decide)]
    have eW : ∀ x : Int, vD D x = vD G x := fun x => by unfold vD cDw; rw [d2.f 11 (by decide), a2.f 11 (by decide)]
    obtain ⟨s, rfl⟩ : ∃ s : Nat, t = (s : Int) := ⟨t.toNat, by omega⟩
    refine ⟨vSur (cN (fN G K) (vCau G).toNat) (lSm (fun b => if dStep b.2.1 = (s : Int) then szB b else 0) (vAllG G K)), A, D, pRuns.of rfl rfl (v161_0 ?_), pRuns.of rfl rfl (v260_0 ?_), a2.mono (by decide) (by decide), (a2.mono (by decide) (by decide)).trans (d2.mono (by decide) (by decide)), fitPost_mv d2 hGA hFA⟩
    · refine pC1.of (by omega) (s121 hP (by omega)) ⟨fun z => absurd hok.1 (b2i_0.mp z), fun _ => pC1.of (by omega) (s124 (by omega)) ⟨fun _ => pC0.of (by omega) a1 (pC1.of (by omega) (s26 hPA a5 (bk_len hP K) (by omega)) (pC1.of (by omega) s27 (rI (by rw [a6]) rfl))), fun z => absurd hok.2 (b2i_0.mp z)⟩⟩
    · refine pC1.of (by omega) (s198 hPA (by omega)) ⟨fun z => absurd (by rw [a2.f 11 (by decide)]; exact hok.1) (b2i_0.mp z), fun _ => pC1.of (by omega) (s256 (by omega)) ⟨fun _ => pC0.of (by omega) d1 ?_, fun z => absurd hok.2 (b2i_0.mp z)⟩⟩
      rintro _ rfl _ rfl
      have := l260 (d := 59) (G := D) (f := fN G K) (t := (s : Int)) hPD (by rw [eCD]; exact d3) hok.1.1 (by omega)
      simp only [eW] at this
      rw [eCD, dull_eq hP hG K hok2, d4] at this
      exact this
  · refine ⟨-2, G, G, pRuns.of rfl rfl (v161_0 ?_), pRuns.of rfl rfl (v260_0 ?_), fr.refl _ _ _, fr.refl _ _ _, hG, hF⟩
    · exact pC1.of (by omega) (s121 hP (by omega)) ⟨fun z => rI rfl rfl, fun z => pC1.of (by omega) (s124 (by omega)) ⟨fun y => absurd ⟨b2i_n0.mp z, b2i_n0.mp y⟩ hok, fun _ => rI rfl rfl⟩⟩
    · exact pC1.of (by omega) (s198 hP (by omega)) ⟨fun z => rI rfl rfl, fun z => pC1.of (by omega) (s256 (by omega)) ⟨fun y => absurd ⟨b2i_n0.mp z, b2i_n0.mp y⟩ hok, fun _ => rI rfl rfl⟩⟩
