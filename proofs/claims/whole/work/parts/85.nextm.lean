/-! what to gauge next: the class' way -/
theorem pE_eq {d m pc : Nat} {R : Option pV → pG → Prop} {L S : List pV} {g g' : pG} (e : g = g') (h : pEnds pMT d m Yc R pc L S g) : pEnds pMT d m Yc R pc L S g' := e ▸ h
theorem s267 {d : Nat} {G : pG} {r n : Nat} {x : Int} (hY : Yc.2.1 r = (100, (n : Int))) (hn : n ≤ 10000) (h9 : r ≠ 109) : ∃ G', pRuns pMT d 267 [pR r, pI x] Yc G none G' ∧ (fr [r] [] G G' ∧ ∀ j : Nat, j < n → G' r j = x) := by
  refine pX0 rfl rfl (v267_0 ?_)
  rw [hY]
  rintro _ rfl
  show ∀ x3 : Int, x3 = (n : Int) → _
  rintro _ rfl
  have H : ∀ (m i : Nat) (g : pG), i + m = n → fr [r] [] G g → (∀ j : Nat, j < i → g r j = x) → pEnds pMT d 267 Yc (fun r_1 g => r_1 = none ∧ (fr [r] [] G g ∧ ∀ j : Nat, j < n → g r j = x)) 5 [pR r, pI x, pI (i : Int), pI (n : Int)] [] g := by
    intro m
    induction m with
    | zero =>
      intro i g hi f1 f2
      exact v267_5 ⟨fun _ => ⟨rfl, f1, fun j hj => f2 j (by omega)⟩, fun z => by omega⟩
    | succ m ih =>
      intro i g hi f1 f2
      refine v267_5 ⟨fun z => by omega, fun _ => ?_⟩
      rw [hY]
      show 0 ≤ (i : Int) ∧ (i : Int) < (n : Int) ∧ _
      refine ⟨by omega, by omega, ?_⟩
      rw [w32_id (by omega) (by omega), Int.toNat_natCast]
      rintro _ rfl
      refine ih (i + 1) _ (by omega) (f1.trans (fr.set (by simp) h9 _ _ _)) (fun j hj => ?_)
      rw [pset_at, if_pos rfl]
      split
      · rfl
      · exact f2 j (by omega)
  exact H n 0 G (by omega) (fr.refl _ _ _) (fun j hj => by omega)
def nS (G : pG) (s : Nat) (T : Int) (l : List vBk) : Prop := (∀ c : Nat, c < 25 → G 104 c = lSm (oN s c) l) ∧ (∀ k : Nat, k < 125 → G 105 k = 0 ∧ G 106 k = 0) ∧ ∀ k f : Nat, k < 125 → f < 13 → G 107 (13 * k + f) = lSm (eN s T f k) l
def nW4 : List Nat := [104, 105, 106, 107]
theorem oN_bd {G : pG} {b : vBk} (h : okB G b) (s c : Nat) : -60 ≤ oN s c b ∧ oN s c b ≤ 60 := by
  have := sz_bd h
  unfold oN
  split <;> omega
theorem eN_bd (b : vBk) (s : Nat) (T : Int) (f k : Nat) : -1 ≤ eN s T f k b ∧ eN s T f k b ≤ 1 := by
  unfold eN
  split
  · split <;> split <;> omega
  · omega
theorem take_ok {G : pG} {l : List vBk} (h : ∀ b ∈ l, okB G b) (j : Nat) : ∀ b ∈ l.take j, okB G b := fun b hb => h b (List.mem_of_mem_take hb)
theorem take_len {α : Type} (l : List α) (j : Nat) : (l.take j).length ≤ j := by rw [List.length_take]; omega
theorem lSm_1 {α : Type} (f : α → Int) (b : α) : lSm f [b] = f b := Int.add_zero _
set_option maxHeartbeats 1000000 in
theorem s40 {d : Nat} {G : pG} {l : List vBk} {s : Nat} (hP : rPart G) (h : bkM G l) (hl : l.length ≤ 1015) (hs : (s : Int) < G 109 11) (hd : 2 ≤ d) : ∃ G', pRuns pMT d 40 [pR 103, pI (s : Int)] Yc G none G' ∧ (fr nW4 [] G G' ∧ nS G' s (G 115 s) l) := by
  have n1 := hP.n1
  have w4 := (cDw_bd hP).2
  have st := hP.step s hs
  refine pX0 rfl rfl (v40_0 ?_)
  refine pC0.ox (by omega) (s267 (n := 25) (r := 104) rfl (by omega) (by omega)) (fun A hA => ?_)
  refine pC0.ox (by omega) (s267 (n := 125) (r := 105) rfl (by omega) (by omega)) (fun B hB => ?_)
  refine pC0.ox (by omega) (s267 (n := 125) (r := 106) rfl (by omega) (by omega)) (fun C hC => ?_)
  refine pC0.ox (by omega) (s267 (n := 1625) (r := 107) rfl (by omega) (by omega)) (fun D hD => ?_)
  have fD : fr nW4 [] G D := (hA.1.mono (by decide) (by decide)).trans ((hB.1.mono (by decide) (by decide)).trans ((hC.1.mono (by decide) (by decide)).trans (hD.1.mono (by decide) (by decide))))
  suffices H : ∀ (m j : Nat) (g : pG), j + m = l.length → fr nW4 [] G g → nS g s (G 115 s) (l.take j) → pEnds pMT d 40 Yc (fun r g => r = none ∧ (fr nW4 [] G g ∧ nS g s (G 115 s) l)) 34 [pR 103, pI (s : Int), pI (j : Int), pU, pU, pU] [] g by
    rintro _ rfl
    refine H l.length 0 D (by omega) fD ⟨fun c hc => ?_, fun k hk => ?_, fun k f hk hf => ?_⟩
    · rw [hD.1.c 104 (by decide), hC.1.c 104 (by decide), hB.1.c 104 (by decide)]; exact hA.2 c hc
    · rw [hD.1.c 105 (by decide), hC.1.c 105 (by decide), hD.1.c 106 (by decide)]; exact ⟨hB.2 k hk, hC.2 k hk⟩
    · exact hD.2 (13 * k + f) (by omega)
  intro m
  induction m with
  | zero =>
    intro j g hj f1 f2
    refine v40_34 ⟨fun _ => ⟨rfl, f1, by rw [List.take_of_length_le (by omega)] at f2; exact f2⟩, fun z => ?_⟩
    rw [f1.c 92 (by decide), h.1] at z
    omega
  | succ m ih =>
    intro j g hj f1 f2
    obtain ⟨b, b1, b2, b3, c1, c2, c3, c4, c5, c6, c7⟩ := bkM_at h (i := j) (by omega)
    obtain ⟨k1, k2, k3, k4, k5⟩ := cBk_e b3 s
    have sb := sz_bd b3
    have o3 := b3.2.2
    have bf := okB_f b3
    have okg : okB g b := (cells_c (G := G) (G' := g) (f1.f 10 (by decide)) (f1.f 11 (by decide))).2.2 b |>.mpr b3
    have cm : (b.1 + 2) * 5 + gBk s b = (cBk s b : Int) := by
      have := b3.1
      unfold cBk
      omega
    refine v40_34 ⟨fun z => by rw [f1.c 92 (by decide), h.1] at z; omega, fun _ => ⟨by omega, by omega, by omega, by omega, ?_⟩⟩
    rw [Int.toNat_natCast, Int.toNat_natCast, f1.c 93 (by decide), f1.c 94 (by decide), c1, c2]
    refine pC1.of (by omega) (s4 (s := s) o3.1 (by omega)) ?_
    rw [show (if dStep b.2.1 = (s : Int) then dBy b.2.1 else 0) = gBk s b from rfl, w32_id (x := b.1 + 2) (by omega) (by omega), w32_id (x := (b.1 + 2) * 5) (by omega) (by omega), w32_id (by omega) (by omega), cm]
    intro x3 hx3
    rw [hx3, Int.toNat_natCast]
    refine ⟨by omega, by omega, pC1.of (by omega) (s24 (i := j) (by omega) (by rw [f1.c 96 (by decide)]; exact c4) (by rw [f1.c 97 (by decide)]; exact c5) (by rw [f1.c 98 (by decide)]; exact c6) (by rw [f1.c 99 (by decide)]; exact c7) okg) ?_⟩
    have ob := lSm_bd (f := oN s (cBk s b)) (B := 60) (l.take j) (fun x hx => oN_bd (take_ok h.2.2.2.2 j x hx) _ _)
    have tl := take_len l j
    rw [f2.1 (cBk s b) k1, w32_id (by omega) (by omega)]
    obtain ⟨g1, hg1⟩ : ∃ g1, g1 = pset g 104 (cBk s b) (lSm (oN s (cBk s b)) (l.take j) + szB b) := ⟨_, rfl⟩
    rw [← hg1]
    have fg : fr [104] [] g g1 := by rw [hg1]; exact fr.set (by decide) (by decide) _ _ _
    have fg1 : fr nW4 [] G g1 := f1.trans (fg.mono (by decide) (by decide))
    have o1 : ∀ c : Nat, c < 25 → g1 104 c = lSm (oN s c) (l.take (j + 1)) := by
      intro c hc
      rw [take_s b2, lSm_app, lSm_1, hg1, pset_at, if_pos rfl]
      unfold oN
      by_cases e : c = cBk s b
      · rw [if_pos e, e, if_pos rfl]
      · rw [if_neg e, if_neg (Ne.symm e), f2.1 c hc, Int.add_zero]
        rfl
    have fin : ∀ g2 : pG, fr [107] [] g1 g2 → (∀ k f : Nat, k < 125 → f < 13 → g2 107 (13 * k + f) = lSm (eN s (G 115 s) f k) (l.take j) + eN s (G 115 s) f k b) → ∀ x : Int, x = (j : Int) + 1 → pEnds pMT d 40 Yc (fun r g => r = none ∧ (fr nW4 [] G g ∧ nS g s (G 115 s) l)) 34 [pR 103, pI (s : Int), pI x, pU, pU, pU] [] g2 := by
      intro g2 h1 h2 x hx
      rw [hx]
      refine ih (j + 1) g2 (by omega) (fg1.trans (h1.mono (by decide) (by decide))) ⟨fun c hc => ?_, fun k hk => ?_, fun k f hk hf => ?_⟩
      · rw [h1.c 104 (by decide)]; exact o1 c hc
      · rw [h1.c 105 (by decide), h1.c 106 (by decide), fg.c 105 (by decide), fg.c 106 (by decide)]; exact f2.2.1 k hk
      · rw [h2 k f hk hf, take_s b2, lSm_app, lSm_1]
    rw [fg1.c 95 (by decide), fg1.c 98 (by decide), c3, c6, fg1.c 8 (by decide), st.1, w32_id (x := (j : Int) + 1) (by omega) (by omega)]
    refine ⟨by omega, by omega, by omega, by omega, by omega, by omega, fun z => ⟨by omega, by omega, ?_⟩, fun z => fin g1 (fr.refl _ _ _) (fun k f hk hf => ?_)⟩
    · have hb0 := b3.2.2.2.2
      have yb : 1 ≤ b.2.2.2.2.2.1 ∧ b.2.2.2.2.2.1 ≤ b.2.2.2.2.2.2 ∧ b.2.2.2.2.2.2 ≤ 5 := by omega
      have IN : ∀ (n : Nat) (x4 : Int) (g2 : pG), x4 + n = b.2.2.2.2.2.2 + 1 → b.2.2.2.2.2.1 ≤ x4 → fr [107] [] g1 g2 → (∀ k f : Nat, k < 125 → f < 13 → g2 107 (13 * k + f) = lSm (eN s (G 115 s) f k) (l.take j) + (if ((k % 5 : Nat) : Int) + 1 < x4 then eN s (G 115 s) f k b else 0)) → pEnds pMT d 40 Yc (fun r g => r = none ∧ (fr nW4 [] G g ∧ nS g s (G 115 s) l)) 125 [pR 103, pI (s : Int), pI (j : Int), pI (cBk s b : Int), pI x4, pU] [] g2 := by
        intro n
        induction n with
        | zero =>
          intro x4 g2 hx hx0 h1 h2
          have f2' : g2 99 = G 99 := by rw [h1.c 99 (by decide), fg1.c 99 (by decide)]
          refine v40_125 ⟨by omega, by omega, ?_⟩
          rw [Int.toNat_natCast, f2', c7, w32_id (x := (j : Int) + 1) (by omega) (by omega)]
          refine ⟨fun _ => fin g2 h1 (fun k f hk hf => ?_), fun z => by omega⟩
          rw [h2 k f hk hf]
          split
          · rfl
          · unfold eN
            rw [if_neg (by omega)]
        | succ n ihn =>
          intro x4 g2 hx hx0 h1 h2
          have f99 : g2 99 = G 99 := by rw [h1.c 99 (by decide), fg1.c 99 (by decide)]
          have f96 : g2 96 = G 96 := by rw [h1.c 96 (by decide), fg1.c 96 (by decide)]
          have f97 : g2 97 = G 97 := by rw [h1.c 97 (by decide), fg1.c 97 (by decide)]
          obtain ⟨K, hK⟩ : ∃ K : Nat, (K : Int) = (cBk s b : Int) * 5 + x4 - 1 := ⟨((cBk s b : Int) * 5 + x4 - 1).toNat, by omega⟩
          obtain ⟨f0, hf0⟩ : ∃ f0 : Nat, b.2.2.2.1 = (f0 : Int) := ⟨b.2.2.2.1.toNat, by omega⟩
          obtain ⟨f9, hf9⟩ : ∃ f9 : Nat, b.2.2.2.2.1 = (f9 : Int) := ⟨b.2.2.2.2.1.toNat, by omega⟩
          have i0 : w32 (w32 (w32 (w32 (w32 ((cBk s b : Int) * 5) + x4) - 1) * 13) + (f0 : Int)) = ((13 * K + f0 : Nat) : Int) := by
            rw [w32_id (x := (cBk s b : Int) * 5) (by omega) (by omega), w32_id (x := (cBk s b : Int) * 5 + x4) (by omega) (by omega), w32_id (x := (cBk s b : Int) * 5 + x4 - 1) (by omega) (by omega), w32_id (x := ((cBk s b : Int) * 5 + x4 - 1) * 13) (by omega) (by omega), w32_id (by omega) (by omega)]
            omega
          have i1 : w32 (w32 (w32 (w32 (w32 (w32 ((cBk s b : Int) * 5) + x4) - 1) * 13) + (f9 : Int)) + 1) = ((13 * K + (f9 + 1) : Nat) : Int) := by
            rw [w32_id (x := (cBk s b : Int) * 5) (by omega) (by omega), w32_id (x := (cBk s b : Int) * 5 + x4) (by omega) (by omega), w32_id (x := (cBk s b : Int) * 5 + x4 - 1) (by omega) (by omega), w32_id (x := ((cBk s b : Int) * 5 + x4 - 1) * 13) (by omega) (by omega), w32_id (x := ((cBk s b : Int) * 5 + x4 - 1) * 13 + (f9 : Int)) (by omega) (by omega), w32_id (by omega) (by omega)]
            omega
          refine v40_125 ⟨by omega, by omega, ?_⟩
          rw [Int.toNat_natCast, f99, c7, f96, c4, hf0]
          refine ⟨fun z => by omega, fun _ => ?_⟩
          intro x5 hx5
          rw [hx5, i0, Int.toNat_natCast, pset_cl (b := 97) _ _ (by decide), f97, c5, hf9, i1, Int.toNat_natCast, pset_ne _ _ (by omega), w32_id (x := x4 + 1) (by omega) (by omega)]
          have eb : ∀ f : Nat, -1015 ≤ lSm (eN s (G 115 s) f K) (l.take j) ∧ lSm (eN s (G 115 s) f K) (l.take j) ≤ 1015 := fun f => by
            have := lSm_bd (f := eN s (G 115 s) f K) (B := 1) (l.take j) (fun x _ => eN_bd x _ _ _ _)
            omega
          have v0 := h2 K f0 (by omega) (by omega)
          have v1 := h2 K (f9 + 1) (by omega) (by omega)
          rw [if_neg (by omega), Int.add_zero] at v0 v1
          have e0 := eb f0
          have e1 := eb (f9 + 1)
          rw [v0, v1, w32_id (x := lSm (eN s (G 115 s) f0 K) (l.take j) + 1) (by omega) (by omega), w32_id (x := lSm (eN s (G 115 s) (f9 + 1) K) (l.take j) - 1) (by omega) (by omega)]
          refine ⟨by omega, by omega, by omega, by omega, by omega, by omega, by omega, by omega, by omega, by omega, by omega, by omega, ?_⟩
          intro x4' hx4'
          rw [hx4']
          refine ihn (x4 + 1) _ (by omega) (by omega) (h1.trans ((fr.set (by decide) (by decide) _ _ _).trans (fr.set (by decide) (by decide) _ _ _))) (fun k f hk hf => ?_)
          have hI : inY s (G 115 s) K b := ⟨by omega, z, by omega, by omega⟩
          rw [pset_at, if_pos rfl]
          by_cases e : 13 * k + f = 13 * K + (f9 + 1)
          · obtain ⟨rfl, rfl⟩ : k = K ∧ f = f9 + 1 := by omega
            rw [if_pos rfl, if_pos (by omega)]
            unfold eN at *
            rw [if_pos hI, if_neg (c := ((f9 + 1 : Nat) : Int) = b.2.2.2.1) (by omega), if_pos (by omega)]
            rfl
          · rw [if_neg e, pset_at, if_pos rfl]
            by_cases e2 : 13 * k + f = 13 * K + f0
            · obtain ⟨rfl, rfl⟩ : k = K ∧ f = f0 := by omega
              rw [if_pos rfl, if_pos (by omega)]
              unfold eN at *
              rw [if_pos hI, if_pos (c := (f : Int) = b.2.2.2.1) (by omega), if_neg (by omega)]
              rfl
            · rw [if_neg e2, h2 k f hk hf]
              congr 1
              by_cases ek : k = K
              · subst ek
                rw [if_neg (by omega), if_pos (by omega)]
                unfold eN
                rw [if_pos hI, if_neg (by omega), if_neg (by omega)]
                rfl
              · by_cases q : ((k % 5 : Nat) : Int) + 1 < x4
                · rw [if_pos q, if_pos (by omega)]
                · rw [if_neg q]
                  by_cases q2 : ((k % 5 : Nat) : Int) + 1 < x4 + 1
                  · rw [if_pos q2]
                    unfold eN
                    rw [if_neg (by omega)]
                  · rw [if_neg q2]
      rintro _ rfl
      refine IN (b.2.2.2.2.2.2 + 1 - b.2.2.2.2.2.1).toNat _ g1 (by omega) (by omega) (fr.refl _ _ _) (fun k f hk hf => ?_)
      rw [fg.c 107 (by decide), f2.2.2 k f hk hf]
      split
      · unfold eN
        rw [if_neg (by omega), Int.add_zero]
      · rw [Int.add_zero]
    · rw [fg.c 107 (by decide), f2.2.2 k f hk hf]
      unfold eN
      rw [if_neg (c := inY s (G 115 s) k b) (fun w => z w.2.1), Int.add_zero]
def nM (G : pG) (s : Nat) (T : Int) (l : List vBk) (i : Int) (k : Nat) : Prop := (∀ j : Nat, j < 125 → G 106 j = lSm (jN s T (if j < k then i else i - 1) j) l ∧ G 105 j = lSm (tlN s T (if j < k then i else i - 1) j) l) ∧ (∀ c : Nat, c < 25 → G 104 c = lSm (oN s c) l - vSm (fun y => lSm (tlN s T (if c * 5 + y < k then i else i - 1) (c * 5 + y)) l) 5) ∧ ∀ j f : Nat, j < 125 → f < 13 → G 107 (13 * j + f) = lSm (eN s T f j) l
theorem nS_M {G g : pG} {s : Nat} {T : Int} {l : List vBk} (h : nS g s T l) (ok : ∀ b ∈ l, okB G b) : nM g s T l 0 0 := by
  have z : ∀ j : Nat, lSm (jN s T (-1) j) l = 0 ∧ lSm (tlN s T (-1) j) l = 0 := fun j => by
    constructor
    · rw [lSm_c (g := fun _ => 0) l (fun b hb => (jN_0 (ok b hb) s T j).1), lSm_z]
    · rw [lSm_c (g := fun _ => 0) l (fun b hb => (jN_0 (ok b hb) s T j).2), lSm_z]
  refine ⟨fun j hj => ?_, fun c hc => ?_, h.2.2⟩
  · rw [if_neg (by omega)]
    show g 106 j = lSm (jN s T (-1) j) l ∧ g 105 j = lSm (tlN s T (-1) j) l
    rw [(z j).1, (z j).2]
    exact ⟨(h.2.1 j hj).2, (h.2.1 j hj).1⟩
  · rw [h.1 c hc, vSm_c (g := fun _ => 0) 5 (fun y _ => by rw [if_neg (by omega)]; exact (z _).2), vSm_z]
    omega
theorem nM_n {g : pG} {s : Nat} {T : Int} {l : List vBk} {i : Int} (h : nM g s T l i 125) : nM g s T l (i + 1) 0 := by
  refine ⟨fun j hj => ?_, fun c hc => ?_, h.2.2⟩
  · have := h.1 j hj
    rw [if_pos hj] at this
    rw [if_neg (by omega), show i + 1 - 1 = i by omega]
    exact this
  · rw [h.2.1 c hc]
    congr 1
    refine vSm_c 5 (fun y hy => ?_)
    rw [if_pos (by omega), if_neg (by omega), show i + 1 - 1 = i by omega]
theorem vSm_ab {f : Nat → Int} {B : Int} : ∀ n : Nat, (∀ i, i < n → -B ≤ f i ∧ f i ≤ B) → -(B * (n : Int)) ≤ vSm f n ∧ vSm f n ≤ B * (n : Int)
  | 0, _ => ⟨by show -(B * 0) ≤ 0; omega, by show 0 ≤ B * 0; omega⟩
  | n + 1, h => by
    have h1 := h n (by omega)
    have h2 := vSm_ab (f := f) (B := B) n (fun i hi => h i (by omega))
    have e : B * ((n + 1 : Nat) : Int) = B + B * (n : Int) := by
      rw [show ((n + 1 : Nat) : Int) = 1 + (n : Int) by omega, Int.mul_add, Int.mul_one]
    rw [e]
    show -(B + B * (n : Int)) ≤ vSm f n + f n ∧ vSm f n + f n ≤ B + B * (n : Int)
    omega
theorem aV_bd {base TL O : Nat → Int} {v : Int} {k c : Nat} (hk : k ≤ 125) (hc : c ≤ 25) (h1 : ∀ j, -12180 ≤ TL j ∧ TL j ≤ 12180) (h2 : ∀ c, -60900 ≤ O c ∧ O c ≤ 60900) : -5000000 ≤ aV base TL O v k c ∧ aV base TL O v k c ≤ 5000000 := by
  have a := vSm_ab (f := fun k => if base (k / 5) + (((k % 5 : Nat) : Int) + 1) = v then TL k else 0) (B := 12180) k (fun i _ => by
    show -12180 ≤ (if base (i / 5) + (((i % 5 : Nat) : Int) + 1) = v then TL i else 0) ∧ _ ≤ _
    have := h1 i
    split <;> omega)
  have b := vSm_ab (f := fun c => if base c = v then O c - vSm (fun y => TL (c * 5 + y)) 5 else 0) (B := 121800) c (fun i _ => by
    show -121800 ≤ (if base i = v then O i - vSm (fun y => TL (i * 5 + y)) 5 else 0) ∧ _ ≤ _
    have o := h2 i
    have t := vSm_ab (f := fun y => TL (i * 5 + y)) (B := 12180) 5 (fun y _ => h1 _)
    split <;> omega)
  unfold aV
  omega
def mxN (f : Nat → Int) : Nat → Int
  | 0 => 0
  | n + 1 => max (mxN f n) (f n)
theorem mxN_pr (f : Nat → Int) : ∀ n : Nat, 0 ≤ mxN f n ∧ (∀ v, v < n → f v ≤ mxN f n) ∧ (mxN f n = 0 ∨ ∃ v, v < n ∧ mxN f n = f v)
  | 0 => ⟨Int.le_refl _, fun v hv => by omega, Or.inl rfl⟩
  | n + 1 => by
    obtain ⟨h1, h2, h3⟩ := mxN_pr f n
    show 0 ≤ max (mxN f n) (f n) ∧ (∀ v, v < n + 1 → f v ≤ max (mxN f n) (f n)) ∧ (max (mxN f n) (f n) = 0 ∨ ∃ v, v < n + 1 ∧ max (mxN f n) (f n) = f v)
    refine ⟨by omega, fun v hv => ?_, ?_⟩
    · by_cases e : v = n
      · subst e; omega
      · have := h2 v (by omega); omega
    · by_cases q : f n ≤ mxN f n
      · rcases h3 with h3 | ⟨v, v1, v2⟩
        · exact Or.inl (by omega)
        · exact Or.inr ⟨v, by omega, by omega⟩
      · exact Or.inr ⟨n, by omega, by omega⟩
theorem mxN_c {f g : Nat → Int} : ∀ n : Nat, (∀ v, v < n → f v = g v) → mxN f n = mxN g n
  | 0, _ => rfl
  | n + 1, h => by
    show max (mxN f n) (f n) = max (mxN g n) (g n)
    rw [mxN_c n (fun v hv => h v (by omega)), h n (by omega)]
theorem tl_b {G : pG} {b : vBk} (h : okB G b) (s : Nat) (T i : Int) (k : Nat) : (-12 ≤ tlN s T i k b ∧ tlN s T i k b ≤ 12) ∧ (-1 ≤ jN s T i k b ∧ jN s T i k b ≤ 1) := by
  have := okB_f h
  unfold tlN jN
  constructor
  · split <;> omega
  · split <;> omega
theorem bs_bd {i : Int} (h0 : 0 ≤ i) (h1 : i ≤ 19) {c : Nat} (hc : c < 25) : 1 ≤ bsC i c ∧ bsC i c ≤ 30 := by
  unfold bsC
  have hh : c / 5 = 0 ∨ c / 5 = 1 ∨ c / 5 = 2 ∨ c / 5 = 3 ∨ c / 5 = 4 := by omega
  have hg : c % 5 = 0 ∨ c % 5 = 1 ∨ c % 5 = 2 ∨ c % 5 = 3 ∨ c % 5 = 4 := by omega
  have t := td5 ((((c / 5 : Nat) : Int) - 2) * i)
  have a : -7 ≤ ((((c / 5 : Nat) : Int) - 2) * i).tdiv 5 ∧ ((((c / 5 : Nat) : Int) - 2) * i).tdiv 5 ≤ 7 := by
    rcases hh with h | h | h | h | h <;> rw [h] at t ⊢ <;> omega
  have b : 0 ≤ ((c % 5 : Nat) : Int) * i / 5 ∧ ((c % 5 : Nat) : Int) * i / 5 ≤ 15 := by
    rcases hg with h | h | h | h | h <;> rw [h] <;> omega
  omega
def nst (G : pG) (K c v : Nat) (J : Int) : pG := pset (pset (pset (pset G 106 K J) 105 K (G 105 K + J)) 104 c (G 104 c - J)) 108 v (G 108 v + (G 105 K + J))
theorem nst_e (G : pG) (K c v : Nat) (a : Int) (h1 : w32 (G 106 K + a) = G 106 K + a) (h2 : w32 (G 105 K + (G 106 K + a)) = G 105 K + (G 106 K + a)) (h3 : w32 (G 104 c - (G 106 K + a)) = G 104 c - (G 106 K + a)) (h4 : w32 (G 108 v + (G 105 K + (G 106 K + a))) = G 108 v + (G 105 K + (G 106 K + a))) : nst G K c v (G 106 K + a) = pset (pset (pset (pset G 106 K (w32 (G 106 K + a))) 105 K (w32 (pset G 106 K (w32 (G 106 K + a)) 105 K + pset G 106 K (w32 (G 106 K + a)) 106 K))) 104 c (w32 (pset (pset G 106 K (w32 (G 106 K + a))) 105 K (w32 (pset G 106 K (w32 (G 106 K + a)) 105 K + pset G 106 K (w32 (G 106 K + a)) 106 K)) 104 c - pset (pset G 106 K (w32 (G 106 K + a))) 105 K (w32 (pset G 106 K (w32 (G 106 K + a)) 105 K + pset G 106 K (w32 (G 106 K + a)) 106 K)) 106 K))) 108 v (w32 (pset (pset (pset G 106 K (w32 (G 106 K + a))) 105 K (w32 (pset G 106 K (w32 (G 106 K + a)) 105 K + pset G 106 K (w32 (G 106 K + a)) 106 K))) 104 c (w32 (pset (pset G 106 K (w32 (G 106 K + a))) 105 K (w32 (pset G 106 K (w32 (G 106 K + a)) 105 K + pset G 106 K (w32 (G 106 K + a)) 106 K)) 104 c - pset (pset G 106 K (w32 (G 106 K + a))) 105 K (w32 (pset G 106 K (w32 (G 106 K + a)) 105 K + pset G 106 K (w32 (G 106 K + a)) 106 K)) 106 K)) 108 v + pset (pset (pset G 106 K (w32 (G 106 K + a))) 105 K (w32 (pset G 106 K (w32 (G 106 K + a)) 105 K + pset G 106 K (w32 (G 106 K + a)) 106 K))) 104 c (w32 (pset (pset G 106 K (w32 (G 106 K + a))) 105 K (w32 (pset G 106 K (w32 (G 106 K + a)) 105 K + pset G 106 K (w32 (G 106 K + a)) 106 K)) 104 c - pset (pset G 106 K (w32 (G 106 K + a))) 105 K (w32 (pset G 106 K (w32 (G 106 K + a)) 105 K + pset G 106 K (w32 (G 106 K + a)) 106 K)) 106 K)) 105 K)) := by
  rw [h1]
  have e1 : pset G 106 K (G 106 K + a) 105 K = G 105 K := by rw [pset_cl _ _ (by decide)]
  have e2 : pset G 106 K (G 106 K + a) 106 K = G 106 K + a := pset_eq _ _ _ _
  rw [e1, e2, h2]
  have e3 : ∀ x : Int, pset (pset G 106 K (G 106 K + a)) 105 K x 104 c = G 104 c := fun x => by rw [pset_cl _ _ (by decide), pset_cl _ _ (by decide)]
  have e4 : ∀ x : Int, pset (pset G 106 K (G 106 K + a)) 105 K x 106 K = G 106 K + a := fun x => by rw [pset_cl _ _ (by decide), pset_eq]
  rw [e3, e4, h3]
  have e5 : ∀ x y : Int, pset (pset (pset G 106 K (G 106 K + a)) 105 K x) 104 c y 108 v = G 108 v := fun x y => by rw [pset_cl _ _ (by decide), pset_cl _ _ (by decide), pset_cl _ _ (by decide)]
  have e6 : ∀ x y : Int, pset (pset (pset G 106 K (G 106 K + a)) 105 K x) 104 c y 105 K = x := fun x y => by rw [pset_cl _ _ (by decide), pset_eq]
  rw [e5, e6, h4]
  rfl
