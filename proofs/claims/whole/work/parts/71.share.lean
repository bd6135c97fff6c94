/-! sharing out -/
def chL (f : Nat → Int × (Nat → Int) → Int × (Nat → Int)) : Nat → Int × (Nat → Int) → Int × (Nat → Int)
  | 0, st => st
  | k + 1, st => f k (chL f k st)
def vUpd (f : Nat → Int) (t : Nat) (v : Int) (j : Nat) : Int := if j = t then v else f j
def chF (cut : Int → Int → Bool) (has : Nat → Bool) (c : Nat → Nat → Int) (p : Int) : Nat → Nat → Int → Int → (Nat → Int) → Int × (Nat → Int) → Int × (Nat → Int)
  | 0, _, _, sum, cho, st => if cut st.1 sum = true then st else (sum, cho)
  | n + 1, t, used, sum, cho, st => if cut st.1 sum = true then st else if has t = true then chF cut has c p n (t + 1) used (sum + p) (vUpd cho t (-1)) (chL (fun k s => if bt used k = false ∧ c t k ≠ -1 then chF cut has c p n (t + 1) (por used (pshl 1 (k : Int))) (sum + c t k) (vUpd cho t (k : Int)) s else s) 4 st) else chF cut has c p n (t + 1) used sum (vUpd cho t (-1)) st
def cutC (b s : Int) : Bool := decide (b ≤ s)
def cutR (b s : Int) : Bool := decide (b ≠ -1 ∧ b ≤ s)
/-- what the class finds is no dearer than new discs for all -/
theorem chF_le {has : Nat → Bool} {c : Nat → Nat → Int} {p : Int} (hp : 0 ≤ p) : ∀ (n t : Nat) (used sum : Int) (cho : Nat → Int) (st : Int × (Nat → Int)), (chF cutC has c p n t used sum cho st).1 ≤ sum + (n : Int) * p := by
  intro n
  induction n with
  | zero =>
    intro t used sum cho st
    unfold chF
    split
    · next h => have := of_decide_eq_true h; omega
    · show sum ≤ _; omega
  | succ n ih =>
    intro t used sum cho st
    have m : 0 ≤ (n : Int) * p := Int.mul_nonneg (by omega) hp
    have e : ((n + 1 : Nat) : Int) * p = (n : Int) * p + p := by rw [show ((n + 1 : Nat) : Int) = (n : Int) + 1 by omega, Int.add_mul, Int.one_mul]
    unfold chF
    split
    · next h => have := of_decide_eq_true h; omega
    · split
      · have := ih (t + 1) used (sum + p) (vUpd cho t (-1)) (chL (fun k s => if bt used k = false ∧ c t k ≠ -1 then chF cutC has c p n (t + 1) (por used (pshl 1 (k : Int))) (sum + c t k) (vUpd cho t (k : Int)) s else s) 4 st)
        omega
      · have := ih (t + 1) used sum (vUpd cho t (-1)) st
        omega
/-- above M the reference finds nothing below M -/
theorem chF_big {has : Nat → Bool} {c : Nat → Nat → Int} {p M : Int} (hp : 0 ≤ p) (hc : ∀ t k : Nat, c t k ≠ -1 → 0 ≤ c t k) : ∀ (n t : Nat) (used sum : Int) (cho : Nat → Int) (st : Int × (Nat → Int)), M ≤ sum → (st.1 = -1 ∨ M ≤ st.1) → ((chF cutR has c p n t used sum cho st).1 = -1 ∨ M ≤ (chF cutR has c p n t used sum cho st).1) := by
  intro n
  induction n with
  | zero =>
    intro t used sum cho st h1 h2
    unfold chF
    split
    · exact h2
    · exact Or.inr h1
  | succ n ih =>
    intro t used sum cho st h1 h2
    unfold chF
    split
    · exact h2
    · split
      · refine ih _ _ _ _ _ (by omega) ?_
        have L : ∀ k : Nat, ((chL (fun k s => if bt used k = false ∧ c t k ≠ -1 then chF cutR has c p n (t + 1) (por used (pshl 1 (k : Int))) (sum + c t k) (vUpd cho t (k : Int)) s else s) k st).1 = -1 ∨ M ≤ (chL (fun k s => if bt used k = false ∧ c t k ≠ -1 then chF cutR has c p n (t + 1) (por used (pshl 1 (k : Int))) (sum + c t k) (vUpd cho t (k : Int)) s else s) k st).1) := by
          intro k
          induction k with
          | zero => exact h2
          | succ k ihk =>
            unfold chL
            by_cases q : bt used k = false ∧ c t k ≠ -1
            · rw [if_pos q]
              exact ih _ _ _ _ _ (by have := hc t k q.2; omega) ihk
            · rw [if_neg q]
              exact ihk
        exact L 4
      · exact ih _ _ _ _ _ h1 h2
/-- the two stand alike -/
def chRel (M : Int) (T : Nat) (a b : Int × (Nat → Int)) : Prop := (a.1 = M ∧ (b.1 = -1 ∨ M ≤ b.1)) ∨ (a.1 = b.1 ∧ 0 ≤ b.1 ∧ b.1 < M ∧ ∀ j : Nat, j < T → a.2 j = b.2 j)
theorem chF_rel {has : Nat → Bool} {c : Nat → Nat → Int} {p M : Int} {T : Nat} (hM : 0 ≤ M) (hp : 0 ≤ p) (hc : ∀ t k : Nat, c t k ≠ -1 → 0 ≤ c t k) : ∀ (n t : Nat) (used sum : Int) (cho : Nat → Int) (a b : Int × (Nat → Int)), 0 ≤ sum → chRel M T a b → chRel M T (chF cutC has c p n t used sum cho a) (chF cutR has c p n t used sum cho b) := by
  have big : ∀ (n t : Nat) (used sum : Int) (cho : Nat → Int) (a b : Int × (Nat → Int)), a.1 = M → (b.1 = -1 ∨ M ≤ b.1) → M ≤ sum → chRel M T (chF cutC has c p n t used sum cho a) (chF cutR has c p n t used sum cho b) := by
    intro n t used sum cho a b ha hb hs
    have e : chF cutC has c p n t used sum cho a = a := by cases n <;> (unfold chF; rw [if_pos (show cutC a.1 sum = true from decide_eq_true (by omega))])
    rw [e]
    exact Or.inl ⟨ha, chF_big hp hc n t used sum cho b hs hb⟩
  intro n
  induction n with
  | zero =>
    intro t used sum cho a b hs hr
    by_cases hbig : a.1 = M ∧ (b.1 = -1 ∨ M ≤ b.1) ∧ M ≤ sum
    · exact big 0 t used sum cho a b hbig.1 hbig.2.1 hbig.2.2
    · have cc : cutC a.1 sum = true ↔ cutR b.1 sum = true := by
        unfold cutC cutR
        rw [decide_eq_true_iff, decide_eq_true_iff]
        rcases hr with hr | hr <;> omega
      unfold chF
      by_cases q : cutC a.1 sum = true
      · rw [if_pos q, if_pos (cc.mp q)]; exact hr
      · rw [if_neg q, if_neg (fun z => q (cc.mpr z))]
        have q2 : ¬ a.1 ≤ sum := fun z => q (decide_eq_true z)
        refine Or.inr ⟨rfl, hs, ?_, fun _ _ => rfl⟩
        show sum < M
        rcases hr with hr | hr <;> omega
  | succ n ih =>
    intro t used sum cho a b hs hr
    by_cases hbig : a.1 = M ∧ (b.1 = -1 ∨ M ≤ b.1) ∧ M ≤ sum
    · exact big (n + 1) t used sum cho a b hbig.1 hbig.2.1 hbig.2.2
    · have cc : cutC a.1 sum = true ↔ cutR b.1 sum = true := by
        unfold cutC cutR
        rw [decide_eq_true_iff, decide_eq_true_iff]
        rcases hr with hr | hr <;> omega
      unfold chF
      by_cases q : cutC a.1 sum = true
      · rw [if_pos q, if_pos (cc.mp q)]; exact hr
      · rw [if_neg q, if_neg (fun z => q (cc.mpr z))]
        by_cases hh : has t = true
        · rw [if_pos hh, if_pos hh]
          refine ih _ _ _ _ _ _ (by omega) ?_
          have L : ∀ k : Nat, chRel M T (chL (fun k s => if bt used k = false ∧ c t k ≠ -1 then chF cutC has c p n (t + 1) (por used (pshl 1 (k : Int))) (sum + c t k) (vUpd cho t (k : Int)) s else s) k a) (chL (fun k s => if bt used k = false ∧ c t k ≠ -1 then chF cutR has c p n (t + 1) (por used (pshl 1 (k : Int))) (sum + c t k) (vUpd cho t (k : Int)) s else s) k b) := by
            intro k
            induction k with
            | zero => exact hr
            | succ k ihk =>
              unfold chL
              by_cases q : bt used k = false ∧ c t k ≠ -1
              · rw [if_pos q, if_pos q]
                exact ih _ _ _ _ _ _ (by have := hc t k q.2; omega) ihk
              · rw [if_neg q, if_neg q]
                exact ihk
          exact L 4
        · rw [if_neg hh, if_neg hh]
          exact ih _ _ _ _ _ _ hs hr
/-! what is filed off is no less than nothing -/
def vSm (f : Nat → Int) : Nat → Int
  | 0 => 0
  | n + 1 => vSm f n + f n
theorem vSm_sh (g : Nat → Int) : ∀ n : Nat, vSm (fun m => g (m + 1)) n = vSm g (n + 1) - g 0
  | 0 => by simp [vSm]
  | n + 1 => by
    have h := vSm_sh g n
    have e1 : vSm (fun m => g (m + 1)) (n + 1) = vSm (fun m => g (m + 1)) n + g (n + 1) := rfl
    have e2 : vSm g (n + 1 + 1) = vSm g (n + 1) + g (n + 1) := rfl
    omega
theorem vSm_c {f g : Nat → Int} : ∀ n : Nat, (∀ k, k < n → f k = g k) → vSm f n = vSm g n
  | 0, _ => rfl
  | n + 1, h => by unfold vSm; rw [vSm_c n (fun k hk => h k (by omega)), h n (by omega)]
theorem vSm_rot (o : Nat → Int) : ∀ r : Nat, vSm (fun m => o ((m + r) % 100)) 100 = vSm o 100
  | 0 => vSm_c 100 (fun k hk => by rw [show (k + 0) % 100 = k by omega])
  | r + 1 => by
    have h := vSm_rot o r
    have h2 := vSm_sh (fun m => o ((m + r) % 100)) 100
    have e1 : vSm (fun m => o ((m + (r + 1)) % 100)) 100 = vSm (fun m => o ((m + 1 + r) % 100)) 100 := vSm_c 100 (fun k hk => by rw [show k + (r + 1) = k + 1 + r by omega])
    have e2 : vSm (fun m => o ((m + r) % 100)) (100 + 1) = vSm (fun m => o ((m + r) % 100)) 100 + o ((100 + r) % 100) := rfl
    have e3 : (100 + r) % 100 = (0 + r) % 100 := by omega
    rw [e3] at e2
    have e4 : vSm (fun m => o ((m + 1 + r) % 100)) 100 = vSm (fun m => o ((m + r) % 100)) (100 + 1) - o ((0 + r) % 100) := h2
    omega
theorem vSu_e (o w : Nat → Int) : ∀ n : Nat, vSu o w n = vSm o n - vSm w n
  | 0 => by simp [vSu, vSm]
  | n + 1 => by have := vSu_e o w n; unfold vSu vSm; omega
theorem vB_le (o w : Nat → Int) (r m : Nat) (hm : m < 100) : vB o w r ≤ o ((m + r) % 100) - w m := by
  have h1 := vMn_anti 999 o w r 100 (m + 1) (by omega)
  have h2 : vMn 999 o w r (m + 1) = min (vMn 999 o w r m) (o ((m + r) % 100) - w m) := rfl
  unfold vB
  omega
theorem vSm_ge {f g : Nat → Int} {B : Int} : ∀ n : Nat, (∀ m, m < n → B ≤ f m - g m) → (n : Int) * B ≤ vSm f n - vSm g n
  | 0, _ => by simp [vSm]
  | n + 1, h => by
    have h1 := vSm_ge n (fun m hm => h m (by omega))
    have h2 := h n (by omega)
    have e : ((n + 1 : Nat) : Int) * B = (n : Int) * B + B := by rw [show ((n + 1 : Nat) : Int) = (n : Int) + 1 by omega, Int.add_mul, Int.one_mul]
    unfold vSm
    omega
theorem vBt_in (o w : Nat → Int) : ∀ n : Nat, (vBt o w n).1 = -1 ∨ ∃ r : Nat, r < n ∧ vBt o w n = ((r : Int), vB o w r)
  | 0 => Or.inl rfl
  | n + 1 => by
    unfold vBt
    split
    · exact Or.inr ⟨n, by omega, rfl⟩
    · rcases vBt_in o w n with h | ⟨r, h1, h2⟩
      · exact Or.inl h
      · exact Or.inr ⟨r, by omega, h2⟩
theorem vFs_0 {G : pG} {t k : Nat} (h : (vFt G t k).1 ≠ -1) : 0 ≤ vFs G t k := by
  rcases vBt_in (vO G k) (vWd G t) 100 with q | ⟨r, h1, h2⟩
  · exact absurd q h
  · have h3 := vSm_ge (f := fun m => vO G k ((m + r) % 100)) (g := vWd G t) (B := vB (vO G k) (vWd G t) r) 100 (fun m hm => vB_le _ _ r m hm)
    rw [vSm_rot, ← vSu_e] at h3
    unfold vFs vFt
    rw [h2]
    show 0 ≤ vSu (vO G k) (vWd G t) 100 - 100 * vB (vO G k) (vWd G t) r
    omega
/-- what a disc costs when filed -/
def vCo (G : pG) (t k : Nat) : Int := if (vFt G t k).1 = -1 then -1 else vFs G t k
theorem vCo_0 (G : pG) (t k : Nat) (h : vCo G t k ≠ -1) : 0 ≤ vCo G t k := by
  unfold vCo at *
  by_cases q : (vFt G t k).1 = -1
  · rw [if_pos q] at h; exact absurd rfl h
  · rw [if_neg q]; exact vFs_0 q
theorem vCo_bd {G : pG} (hP : rPart G) (hL : rPl G) (hO : rOld G) {t k : Nat} (hk : k < 4) : -1 ≤ vCo G t k ∧ vCo G t k ≤ 99900 := by
  have sb := vSu_bd (ow_bd hP hL hO (t := t) hk) 100 (by omega)
  have tb := vBt_bd (o := vO G k) (w := vWd G t) 100
  unfold vCo
  by_cases q : (vFt G t k).1 = -1
  · rw [if_pos q]; omega
  · rw [if_neg q]
    have h0 := vFs_0 q
    have q2 : ¬ (vFt G t k).2 = -1 := fun z => q (tb.2.2.2.2.mpr z)
    have e : vFs G t k = vSu (vO G k) (vWd G t) 100 - 100 * (vFt G t k).2 := rfl
    have e2 : -1 ≤ (vFt G t k).2 := tb.1
    omega
def vHas (G : pG) (t : Nat) : Bool := vAny (fun k => decide (G 115 k = (t : Int))) (G 109 11).toNat
theorem s223 {d : Nat} {G : pG} {t : Nat} (hP : rPart G) : pRuns pMT d 223 [pR 109, pI (t : Int)] Yc G (some (pI (b2i (vHas G t = true)))) G := by
  have n0 := hP.n0
  have n1 := hP.n1
  refine pRuns.of rfl rfl (v223_0 ?_)
  suffices H : ∀ (n i : Nat), (i : Int) + n = G 109 11 → (∀ j, j < i → decide (G 115 j = (t : Int)) = false) → pEnds pMT d 223 Yc (fun r' g => r' = some (pI (b2i (vHas G t = true))) ∧ g = G) 2 [pR 109, pI (t : Int), pI (i : Int)] [] G by
    rintro _ rfl
    exact H (G 109 11).toNat 0 (by omega) (fun j hj => by omega)
  intro n
  induction n with
  | zero => exact fun i hi hn => v223_2 ⟨fun _ => ⟨Or.inl rfl, q0 (by unfold vHas; rw [show (G 109 11).toNat = i by omega, vAny_no hn]; decide), rfl⟩, fun h => by omega⟩
  | succ n ih =>
    intro i hi hn
    refine v223_2 ⟨fun h => by omega, fun h => ⟨by omega, by omega, fun g => ?_, fun g => ⟨Or.inr rfl, q1 ((vAny_ex _ _).mpr ⟨i, by omega, decide_eq_true (by rw [Int.toNat_natCast] at g; exact g)⟩), rfl⟩⟩⟩
    rw [w32_id (by omega) (by omega)]
    rw [Int.toNat_natCast] at g
    rintro _ rfl
    exact ih (i + 1) (by omega) (fun j hj => by
      by_cases e : j = i
      · subst e; exact decide_eq_false g
      · exact hn j (by omega))
theorem s55 {d : Nat} {G : pG} {t : Nat} (hP : rPart G) : pRuns pMT d 55 [pR 43, pI (t : Int)] Yc G (some (pI (b2i (vHas G t = true)))) G := by
  have n0 := hP.n0
  have n1 := hP.n1
  refine pRuns.of rfl rfl (v55_0 ?_)
  suffices H : ∀ (n i : Nat), (i : Int) + n = G 109 11 → (∀ j, j < i → decide (G 115 j = (t : Int)) = false) → pEnds pMT d 55 Yc (fun r' g => r' = some (pI (b2i (vHas G t = true))) ∧ g = G) 2 [pR 43, pI (t : Int), pI (i : Int)] [] G by
    rintro _ rfl
    exact H (G 109 11).toNat 0 (by omega) (fun j hj => by omega)
  intro n
  induction n with
  | zero => exact fun i hi hn => v55_2 (by rw [hP.steps]; exact ⟨fun _ => ⟨Or.inl rfl, q0 (by unfold vHas; rw [show (G 109 11).toNat = i by omega, vAny_no hn]; decide), rfl⟩, fun h => by omega⟩)
  | succ n ih =>
    intro i hi hn
    refine v55_2 ?_
    rw [hP.steps]
    refine ⟨fun h => by omega, fun h => ⟨by omega, by omega, ?_⟩⟩
    rw [Int.toNat_natCast, (hP.step i h).1]
    refine ⟨fun g => ?_, fun g => ⟨Or.inr rfl, q1 ((vAny_ex _ _).mpr ⟨i, by omega, decide_eq_true g⟩), rfl⟩⟩
    rw [w32_id (by omega) (by omega)]
    rintro _ rfl
    exact ih (i + 1) (by omega) (fun j hj => by
      by_cases e : j = i
      · subst e; exact decide_eq_false g
      · exact hn j (by omega))
def chB (cut : Int → Int → Bool) (has : Nat → Bool) (c : Nat → Nat → Int) (p : Int) (n t : Nat) (used sum : Int) (cho : Nat → Int) (k : Nat) (s : Int × (Nat → Int)) : Int × (Nat → Int) := if bt used k = false ∧ c t k ≠ -1 then chF cut has c p n (t + 1) (por used (pshl 1 (k : Int))) (sum + c t k) (vUpd cho t (k : Int)) s else s
theorem chF_s (cut : Int → Int → Bool) (has : Nat → Bool) (c : Nat → Nat → Int) (p : Int) (n t : Nat) (used sum : Int) (cho : Nat → Int) (st : Int × (Nat → Int)) : chF cut has c p (n + 1) t used sum cho st = if cut st.1 sum = true then st else if has t = true then chF cut has c p n (t + 1) used (sum + p) (vUpd cho t (-1)) (chL (chB cut has c p n t used sum cho) 4 st) else chF cut has c p n (t + 1) used sum (vUpd cho t (-1)) st := rfl
def sW : List Nat := [43, 49, 72, 50, 52, 53, 54, 55, 56, 57, 59, 60, 61, 62, 63, 64, 66, 67, 68, 69, 70, 71]
theorem rOld_dep : dep [45, 46, 47, 48, 155] [] rOld := by
  intro G G' h1 h2 h k m hk hm
  have e : G' (45 + k) = G (45 + k) := h1 (45 + k) (by simp; omega)
  rw [e, h1 155 (by decide)]
  exact h k m hk hm
theorem rCa_dep : dep [52, 53, 54, 55, 56, 57, 59, 60, 61, 62, 63, 64, 66, 67, 68, 69, 70, 71, 155, 112, 113, 115, 116, 117, 152] [10, 11, 12, 34] rCa := by
  intro G G' h1 h2 h t k ht6 ht hk
  rw [h2 10 (by decide)] at ht
  have q := h t k ht6 ht hk
  have eF := vFt_c (h1 155 (by decide)) (vDsc_c (fun c hc => h1 c (by revert hc; revert c; decide)) (fun j hj => h2 j (by revert hj; revert j; decide))) t k
  unfold rCa1 at *
  rw [eF.1, eF.2, h1 (52 + t) (by simp; omega), h1 (59 + t) (by simp; omega), h1 (66 + t) (by simp; omega)]
  exact q
theorem vHas_c {G G' : pG} (h1 : G' 115 = G 115) (h2 : G' 109 11 = G 109 11) (t : Nat) : vHas G' t = vHas G t := by
  unfold vHas
  rw [h1, h2]
theorem s48x {d : Nat} {G : pG} {t k : Nat} (hP : rPart G) (hL : rPl G) (hD : rDisc G) (hO : rOld G) (hC : rCa G) (ht : (t : Int) < G 109 10) (hk : k < 4) (hd : 3 ≤ d) : ∃ G', pRuns pMT d 48 [pR 43, pI (t : Int), pI (k : Int)] Yc G (some (pI (vFt G t k).1)) G' ∧ fr fW [] G G' ∧ rCa G' ∧ G' (66 + t) k = vFs G t k := by
  have t1 := hP.t1
  obtain ⟨A, a1, a2, a3, a4, a5, a6⟩ := s51 (d := d - 1) (G := G) (t := t) (k := k) hP hL hD hO hC ht hk (by omega)
  obtain ⟨w1, w2, w3⟩ := row51 t (by omega)
  exact ⟨A, pRuns.of rfl rfl (v48_0 (pC0.of (by omega) a1 ⟨by omega, by omega, 52 + t, by rw [Int.toNat_natCast]; exact w1, bif_t w2 ⟨by omega, by rw [w3]; omega, rI (by rw [Int.toNat_natCast, a4]) rfl⟩⟩)), a2, a3, a6⟩
theorem pcpy_at (G : pG) (a0 sp a dp n c j : Nat) : pcpy G a0 sp a dp n c j = if c = a then (if dp ≤ j ∧ j < dp + n then G a0 (sp + (j - dp)) else G c j) else G c j := by
  unfold pcpy
  split <;> rfl
theorem s54 {G0 : pG} {p : Int} {T : Nat} (hP : rPart G0) (hL : rPl G0) (hD : rDisc G0) (hO : rOld G0) (hp0 : 0 ≤ p) (hp : p ≤ 99999) (hT : G0 109 10 = (T : Int)) : ∀ (n t : Nat) (used sum : Int) (cho : Nat → Int) (st : Int × (Nat → Int)) (G : pG) (d : Nat), t + n = T → n + 5 ≤ d → fr sW [] G0 G → rCa G → 0 ≤ used → used < 16 → 0 ≤ sum → sum ≤ 100000 * (t : Int) → G 43 9 = st.1 → (∀ j : Nat, j < T → G 49 j = st.2 j) → (∀ j : Nat, j < t → G 72 j = cho j) → ∃ G', pRuns pMT d 54 [pR 43, pI (t : Int), pI used, pI sum, pI p] Yc G none G' ∧ (fr sW [] G0 G' ∧ rCa G' ∧ G' 43 9 = (chF cutC (vHas G0) (vCo G0) p n t used sum cho st).1 ∧ (∀ j : Nat, j < T → G' 49 j = (chF cutC (vHas G0) (vCo G0) p n t used sum cho st).2 j) ∧ ∀ j : Nat, j < t → G' 72 j = G 72 j) := by
  have t1 := hP.t1
  intro n
  induction n with
  | zero =>
    intro t used sum cho st G d htn hd f1 hC hu0 hu hs0 hs g1 g2 g3
    have hPg : rPart G := f1.mv rPart_dep (by decide) (by decide) hP
    refine pX0 rfl rfl (v54_0 ⟨fun q => by omega, fun _ => ?_⟩)
    rw [g1, hPg.tools, f1.f 10 (by decide), hT]
    refine ⟨fun q => ⟨fun q2 => by omega, fun _ => ⟨by omega, rfl, ?_⟩⟩, fun q => ⟨rfl, f1, hC, ?_⟩⟩
    · have Fn : fr [43, 49, 72] [] G (pcpy (pset G 43 9 sum) 72 (Int.toNat 0) 49 (Int.toNat 0) (Int.toNat 6)) := (fr.set (by decide) (by decide) _ _ _).trans (fr.cpy (by decide) (by decide) _ _ _ _ _)
      have F : fr sW [] G (pcpy (pset G 43 9 sum) 72 (Int.toNat 0) 49 (Int.toNat 0) (Int.toNat 6)) := Fn.mono (by decide) (by decide)
      have e : chF cutC (vHas G0) (vCo G0) p 0 t used sum cho st = (sum, cho) := by unfold chF; rw [if_neg (show ¬ cutC st.1 sum = true from fun z => by have := of_decide_eq_true z; omega)]
      rw [e]
      refine ⟨f1.trans F, ?_, ?_, fun j hj => ?_, fun j hj => ?_⟩
      · exact Fn.mv rCa_dep (by decide) (by decide) hC
      · simp [pcpy_at, pset_at]
      · simp [pcpy_at, pset_at]
        rw [if_pos (by omega)]
        exact g3 j (by omega)
      · simp [pcpy_at, pset_at]
    · have e : chF cutC (vHas G0) (vCo G0) p 0 t used sum cho st = st := by unfold chF; rw [if_pos (show cutC st.1 sum = true from decide_eq_true q)]
      rw [e]
      exact ⟨rfl, g2, fun _ _ => rfl⟩
  | succ n ih =>
    intro t used sum cho st G d htn hd f1 hC hu0 hu hs0 hs g1 g2 g3
    have hPg : rPart G := f1.mv rPart_dep (by decide) (by decide) hP
    rw [chF_s]
    refine pX0 rfl rfl (v54_0 ⟨fun q => by omega, fun _ => ?_⟩)
    rw [g1, hPg.tools, f1.f 10 (by decide), hT]
    refine ⟨fun q => ⟨fun _ => ?_, fun q2 => by omega⟩, fun q => ?_⟩
    · rw [if_neg (show ¬ cutC st.1 sum = true from fun z => by have := of_decide_eq_true z; omega), Int.toNat_natCast]
      have e1 : w32 ((t : Int) + 1) = ((t + 1 : Nat) : Int) := by rw [w32_id (by omega) (by omega)]; rfl
      have F1n : fr [43, 49, 72] [] G (pset G 72 t (-1)) := fr.set (by decide) (by decide) _ _ _
      have F1 : fr sW [] G (pset G 72 t (-1)) := F1n.mono (by decide) (by decide)
      have hP1 : rPart (pset G 72 t (-1)) := F1.mv rPart_dep (by decide) (by decide) hPg
      refine ⟨by omega, by omega, pC1.of (by omega) (s55 hP1) ⟨fun h => ?_, fun h => ?_⟩⟩
      · have h := b2i_n0.mp h
        rw [vHas_c (F1.c 115 (by decide)) (F1.f 11 (by decide)), vHas_c (f1.c 115 (by decide)) (f1.f 11 (by decide))] at h
        rw [if_pos h]
        rintro _ rfl
        have LP : ∀ (m k : Nat) (g : pG), k + m = 4 → fr sW [] G0 g → rCa g → g 43 9 = (chL (chB cutC (vHas G0) (vCo G0) p n t used sum cho) k st).1 → (∀ j : Nat, j < T → g 49 j = (chL (chB cutC (vHas G0) (vCo G0) p n t used sum cho) k st).2 j) → (∀ j : Nat, j < t → g 72 j = cho j) → pEnds pMT d 54 Yc (fun r g => r = none ∧ (fr sW [] G0 g ∧ rCa g ∧ g 43 9 = (chF cutC (vHas G0) (vCo G0) p n (t + 1) used (sum + p) (vUpd cho t (-1)) (chL (chB cutC (vHas G0) (vCo G0) p n t used sum cho) 4 st)).1 ∧ (∀ j : Nat, j < T → g 49 j = (chF cutC (vHas G0) (vCo G0) p n (t + 1) used (sum + p) (vUpd cho t (-1)) (chL (chB cutC (vHas G0) (vCo G0) p n t used sum cho) 4 st)).2 j) ∧ ∀ j : Nat, j < t → g 72 j = G 72 j)) 77 [pR 43, pI (t : Int), pI used, pI sum, pI p, pI (k : Int)] [] g := by
          intro m
          induction m with
          | zero =>
            intro k g hk k1 k2 k3 k4 k5
            obtain rfl : k = 4 := by omega
            refine v54_77 ⟨fun _ => ⟨by omega, by omega, ?_⟩, fun z => by omega⟩
            rw [e1, w32_id (x := sum + p) (by omega) (by omega), Int.toNat_natCast]
            have F2n : fr [43, 49, 72] [] g (pset g 72 t (-1)) := fr.set (by decide) (by decide) _ _ _
            have F2 : fr sW [] g (pset g 72 t (-1)) := F2n.mono (by decide) (by decide)
            refine pC0.ox (by omega) (ih (t + 1) used (sum + p) (vUpd cho t (-1)) _ (pset g 72 t (-1)) (d - 1) (by omega) (by omega) (k1.trans F2) (F2n.mv rCa_dep (by decide) (by decide) k2) hu0 hu (by omega) (by omega) (by rw [pset_cl _ _ (by decide)]; exact k3) (fun j hj => by rw [pset_cl _ _ (by decide)]; exact k4 j hj) (fun j hj => ?_)) (fun A hA => ⟨rfl, hA.1, hA.2.1, hA.2.2.1, hA.2.2.2.1, fun j hj => ?_⟩)
            · unfold vUpd
              by_cases e : j = t
              · rw [if_pos e, e, pset_eq]
              · rw [if_neg e, pset_ne _ _ e]; exact k5 j (by omega)
            · rw [hA.2.2.2.2 j (by omega), pset_ne _ _ (by omega), k5 j hj, g3 j hj]
          | succ m ihm =>
            intro k g hk k1 k2 k3 k4 k5
            have hPk : rPart g := k1.mv rPart_dep (by decide) (by decide) hP
            have hLk : rPl g := k1.mv rPl_dep (by decide) (by decide) hL
            have hDk : rDisc g := k1.mv rDisc_dep (by decide) (by decide) hD
            have hOk : rOld g := k1.mv rOld_dep (by decide) (by decide) hO
            have e2 : w32 ((k : Int) + 1) = ((k + 1 : Nat) : Int) := by rw [w32_id (by omega) (by omega)]; rfl
            have sk : chL (chB cutC (vHas G0) (vCo G0) p n t used sum cho) (k + 1) st = chB cutC (vHas G0) (vCo G0) p n t used sum cho k (chL (chB cutC (vHas G0) (vCo G0) p n t used sum cho) k st) := rfl
            have eF := vFt_c (k1.c 155 (by decide)) (k1.dsc (by decide) (by decide)) t k
            have cb := vCo_bd hP hL hO (t := t) (k := k) (by omega)
            refine v54_77 ⟨fun z => by omega, fun _ => ?_⟩
            rw [e2]
            refine pC1.of (by omega) (s119i hu0 (by omega) (by omega)) ⟨fun z => ?_, fun z => ?_⟩
            · have z := b2i_n0.mp z
              rintro _ rfl
              have no : chL (chB cutC (vHas G0) (vCo G0) p n t used sum cho) (k + 1) st = chL (chB cutC (vHas G0) (vCo G0) p n t used sum cho) k st := by rw [sk, chB, if_neg (fun q => by rw [q.1] at z; exact absurd z (by decide))]
              exact ihm (k + 1) g (by omega) k1 k2 (by rw [no]; exact k3) (by rw [no]; exact k4) k5
            · have z := b2i_0.mp z
              obtain ⟨B, b1, b2, b3, b4⟩ := s48x (d := d - 1) (G := g) (t := t) (k := k) hPk hLk hDk hOk k2 (by rw [k1.f 10 (by decide), hT]; omega) (by omega) (by omega)
              rw [eF.1] at b1
              rw [eF.2] at b4
              have FB : fr sW [] g B := b2.mono (by decide) (by decide)
              refine pC1.of (by omega) b1 ⟨fun y => ?_, fun y => ?_⟩
              · rintro _ rfl
                have no : chL (chB cutC (vHas G0) (vCo G0) p n t used sum cho) (k + 1) st = chL (chB cutC (vHas G0) (vCo G0) p n t used sum cho) k st := by rw [sk, chB, if_neg (fun q => q.2 (by unfold vCo; rw [if_pos y]))]
                exact ihm (k + 1) B (by omega) (k1.trans FB) b3 (by rw [no, b2.c 43 (by decide)]; exact k3) (fun j hj => by rw [no, b2.c 49 (by decide)]; exact k4 j hj) (fun j hj => by rw [b2.c 72 (by decide)]; exact k5 j hj)
              · obtain ⟨w1, w2, w3⟩ := row65 t (by omega)
                have ec : vCo G0 t k = vFs G0 t k := by unfold vCo; rw [if_neg y]
                have ec0 := vFs_0 y
                obtain ⟨u1, u2, u3, u4⟩ := por_set hu0 (show used < 2147483648 by omega) (show k < 31 by omega)
                have u5 := u4 4 (by omega) (by omega) (by omega)
                refine ⟨by omega, by omega, by omega, by omega, 66 + t, by rw [Int.toNat_natCast]; exact w1, bif_t w2 ⟨by omega, by rw [w3]; omega, ?_⟩⟩
                rw [e1, Int.toNat_natCast, Int.toNat_natCast, pset_cl (b := 66 + t) _ _ (by omega), b4, w32_id (x := sum + vFs G0 t k) (by omega) (by omega)]
                have F2n : fr [43, 49, 72] [] B (pset B 72 t (k : Int)) := fr.set (by decide) (by decide) _ _ _
                have F2 : fr sW [] B (pset B 72 t (k : Int)) := F2n.mono (by decide) (by decide)
                refine pC0.ox (by omega) (ih (t + 1) _ (sum + vFs G0 t k) (vUpd cho t (k : Int)) (chL (chB cutC (vHas G0) (vCo G0) p n t used sum cho) k st) (pset B 72 t (k : Int)) (d - 1) (by omega) (by omega) (k1.trans (FB.trans F2)) (F2n.mv rCa_dep (by decide) (by decide) b3) u1 (by omega) (by omega) (by omega) (by rw [pset_cl _ _ (by decide), b2.c 43 (by decide)]; exact k3) (fun j hj => by rw [pset_cl _ _ (by decide), b2.c 49 (by decide)]; exact k4 j hj) (fun j hj => ?_)) (fun A hA => ?_)
                · unfold vUpd
                  by_cases e : j = t
                  · rw [if_pos e, e, pset_eq]
                  · rw [if_neg e, pset_ne _ _ e, b2.c 72 (by decide)]; exact k5 j (by omega)
                · have ye : chL (chB cutC (vHas G0) (vCo G0) p n t used sum cho) (k + 1) st = chF cutC (vHas G0) (vCo G0) p n (t + 1) (por used (pshl 1 (k : Int))) (sum + vFs G0 t k) (vUpd cho t (k : Int)) (chL (chB cutC (vHas G0) (vCo G0) p n t used sum cho) k st) := by
                    rw [sk, chB, if_pos ⟨Bool.eq_false_iff.mpr z, by rw [ec]; omega⟩, ec]
                  rintro _ rfl
                  exact ihm (k + 1) A (by omega) hA.1 hA.2.1 (by rw [ye]; exact hA.2.2.1) (by rw [ye]; exact hA.2.2.2.1) (fun j hj => by rw [hA.2.2.2.2 j (by omega), pset_ne _ _ (by omega), b2.c 72 (by decide)]; exact k5 j hj)
        exact LP 4 0 _ rfl (f1.trans F1) (F1n.mv rCa_dep (by decide) (by decide) hC) (by rw [pset_cl _ _ (by decide)]; exact g1) (fun j hj => by rw [pset_cl _ _ (by decide)]; exact g2 j hj) (fun j hj => by rw [pset_ne _ _ (by omega)]; exact g3 j hj)
      · have h := b2i_0.mp h
        rw [vHas_c (F1.c 115 (by decide)) (F1.f 11 (by decide)), vHas_c (f1.c 115 (by decide)) (f1.f 11 (by decide))] at h
        rw [if_neg h, e1]
        refine pC0.ox (by omega) (ih (t + 1) used sum (vUpd cho t (-1)) st (pset G 72 t (-1)) (d - 1) (by omega) (by omega) (f1.trans F1) (F1n.mv rCa_dep (by decide) (by decide) hC) hu0 hu hs0 (by omega) (by rw [pset_cl _ _ (by decide)]; exact g1) (fun j hj => by rw [pset_cl _ _ (by decide)]; exact g2 j hj) (fun j hj => ?_)) (fun A hA => ⟨rfl, hA.1, hA.2.1, hA.2.2.1, hA.2.2.2.1, fun j hj => ?_⟩)
        · unfold vUpd
          by_cases e : j = t
          · rw [if_pos e, e, pset_eq]
          · rw [if_neg e, pset_ne _ _ e]; exact g3 j (by omega)
        · rw [hA.2.2.2.2 j (by omega), pset_ne _ _ (by omega)]
    · rw [if_pos (show cutC st.1 sum = true from decide_eq_true q)]
      exact ⟨rfl, f1, hC, rfl, g2, fun _ _ => rfl⟩
theorem l224 {G : pG} {d T : Nat} (hT : G 109 10 = (T : Int)) (hT6 : T ≤ 6) {R : Option pV → pG → Prop} (hR : ∀ g, fr [157] [] G g → (∀ j : Nat, j < T → g 157 j = G 159 j) → R none g) : pEnds pMT d 224 Yc R 33 [pR 109, pU, pU, pU, pU, pI 0] [] G := by
  have H : ∀ (n i : Nat) (g : pG), i + n = T → fr [157] [] G g → (∀ j : Nat, j < i → g 157 j = G 159 j) → pEnds pMT d 224 Yc R 33 [pR 109, pU, pU, pU, pU, pI (i : Int)] [] g := by
    intro n
    induction n with
    | zero =>
      intro i g hi f1 f2
      obtain rfl : i = T := by omega
      exact v224_33 ⟨fun _ => hR g f1 f2, fun h => by rw [f1.f 10 (by decide), hT] at h; omega⟩
    | succ n ih =>
      intro i g hi f1 f2
      refine v224_33 ⟨fun h => by rw [f1.f 10 (by decide), hT] at h; omega, fun h => ⟨by omega, by omega, by omega, by omega, ?_⟩⟩
      rw [w32_id (by omega) (by omega), Int.toNat_natCast, f1.c 159 (by decide)]
      rintro _ rfl
      refine ih (i + 1) _ (by omega) (f1.trans (fr.set (by decide) (by decide) _ _ _)) (fun j hj => ?_)
      by_cases e : j = i
      · subst e; rw [pset_eq]
      · rw [pset_ne _ _ e]; exact f2 j (by omega)
  exact H T 0 G (by omega) (fr.refl _ _ _) (fun j hj => by omega)
theorem s224 {G0 : pG} {p : Int} {T : Nat} (hP : rPart G0) (hp0 : 0 ≤ p) (hp : p ≤ 99999) (hT : G0 109 10 = (T : Int)) {c : Nat → Nat → Int} (hc : ∀ t k : Nat, t < T → k < 4 → vHas G0 t = true → G0 158 (4 * t + k) = c t k) (hcb : ∀ t k : Nat, k < 4 → c t k ≠ -1 → 0 ≤ c t k ∧ c t k ≤ 99900) : ∀ (n t : Nat) (used sum : Int) (cho : Nat → Int) (st : Int × (Nat → Int)) (G : pG) (d : Nat), t + n = T → n + 2 ≤ d → fr [157, 159] [48] G0 G → 0 ≤ used → used < 16 → 0 ≤ sum → sum ≤ 100000 * (t : Int) → G 109 48 = st.1 → (∀ j : Nat, j < T → G 157 j = st.2 j) → (∀ j : Nat, j < t → G 159 j = cho j) → ∃ G', pRuns pMT d 224 [pR 109, pI (t : Int), pI used, pI sum, pI p] Yc G none G' ∧ (fr [157, 159] [48] G0 G' ∧ G' 109 48 = (chF cutR (vHas G0) c p n t used sum cho st).1 ∧ (∀ j : Nat, j < T → G' 157 j = (chF cutR (vHas G0) c p n t used sum cho st).2 j) ∧ ∀ j : Nat, j < t → G' 159 j = G 159 j) := by
  have t1 := hP.t1
  intro n
  induction n with
  | zero =>
    intro t used sum cho st G d htn hd f1 hu0 hu hs0 hs g1 g2 g3
    have leaf : ¬ cutR st.1 sum = true → ∀ x5 : Int, x5 = 0 → pEnds pMT d 224 Yc (fun r g => r = none ∧ (fr [157, 159] [48] G0 g ∧ g 109 48 = (chF cutR (vHas G0) c p 0 t used sum cho st).1 ∧ (∀ j : Nat, j < T → g 157 j = (chF cutR (vHas G0) c p 0 t used sum cho st).2 j) ∧ ∀ j : Nat, j < t → g 159 j = G 159 j)) 33 [pR 109, pU, pU, pU, pU, pI x5] [] (pset G 109 48 sum) := by
      intro q
      rintro _ rfl
      have e : chF cutR (vHas G0) c p 0 t used sum cho st = (sum, cho) := by unfold chF; rw [if_neg q]
      rw [e]
      have F : fr [157, 159] [48] G (pset G 109 48 sum) := fr.setF (by decide) _ _
      refine l224 (T := T) (by rw [pset_ne _ _ (by decide), f1.f 10 (by decide), hT]) (by omega) (fun g h1 h2 => ⟨rfl, f1.trans (F.trans (h1.mono (by decide) (by decide))), by rw [h1.f 48 (by decide), pset_eq], fun j hj => ?_, fun j hj => ?_⟩)
      · rw [h2 j hj, pset_cl _ _ (by decide)]; exact g3 j (by omega)
      · rw [h1.c 159 (by decide), pset_cl _ _ (by decide)]
    refine pX0 rfl rfl (v224_0 ?_)
    rw [f1.f 10 (by decide), hT]
    refine ⟨fun q => ⟨fun q2 => by omega, fun _ => leaf (fun z => by have := of_decide_eq_true z; omega)⟩, fun q => ⟨fun q1 => ⟨fun q2 => by omega, fun _ => leaf (fun z => by have := of_decide_eq_true z; omega)⟩, fun q1 => ⟨rfl, f1, ?_⟩⟩⟩
    have e : chF cutR (vHas G0) c p 0 t used sum cho st = st := by unfold chF; rw [if_pos (show cutR st.1 sum = true from decide_eq_true (by omega))]
    rw [e]
    exact ⟨g1, g2, fun _ _ => rfl⟩
  | succ n ih =>
    intro t used sum cho st G d htn hd f1 hu0 hu hs0 hs g1 g2 g3
    rw [chF_s]
    have e1 : w32 ((t : Int) + 1) = ((t + 1 : Nat) : Int) := by rw [w32_id (by omega) (by omega)]; rfl
    have F1 : fr [157, 159] [48] G (pset G 159 t (-1)) := fr.set (by decide) (by decide) _ _ _
    have f2 := f1.trans F1
    have hP1 : rPart (pset G 159 t (-1)) := f2.mv rPart_dep (by decide) (by decide) hP
    have body : ¬ cutR st.1 sum = true → pC1 pMT d 223 [pR 109, pI (t : Int)] Yc (pset G 159 t (-1)) (fun r G_2 => ((¬ r = (0 : Int) → ∀ x5 : Int, x5 = (0 : Int) → pEnds pMT d 224 Yc (fun r g => r = none ∧ (fr [157, 159] [48] G0 g ∧ g 109 48 = (if cutR st.1 sum = true then st else if vHas G0 t = true then chF cutR (vHas G0) c p n (t + 1) used (sum + p) (vUpd cho t (-1)) (chL (chB cutR (vHas G0) c p n t used sum cho) 4 st) else chF cutR (vHas G0) c p n (t + 1) used sum (vUpd cho t (-1)) st).1 ∧ (∀ j : Nat, j < T → g 157 j = (if cutR st.1 sum = true then st else if vHas G0 t = true then chF cutR (vHas G0) c p n (t + 1) used (sum + p) (vUpd cho t (-1)) (chL (chB cutR (vHas G0) c p n t used sum cho) 4 st) else chF cutR (vHas G0) c p n (t + 1) used sum (vUpd cho t (-1)) st).2 j) ∧ ∀ j : Nat, j < t → g 159 j = G 159 j)) 93 [pR 109, pI (t : Int), pI used, pI sum, pI p, pI x5] [] G_2) ∧ (r = (0 : Int) → pC0 pMT d 224 [pR 109, pI (w32 ((t : Int) + (1 : Int))), pI used, pI sum, pI p] Yc G_2 (fun G_3 => (none : Option pV) = none ∧ (fr [157, 159] [48] G0 G_3 ∧ G_3 109 48 = (if cutR st.1 sum = true then st else if vHas G0 t = true then chF cutR (vHas G0) c p n (t + 1) used (sum + p) (vUpd cho t (-1)) (chL (chB cutR (vHas G0) c p n t used sum cho) 4 st) else chF cutR (vHas G0) c p n (t + 1) used sum (vUpd cho t (-1)) st).1 ∧ (∀ j : Nat, j < T → G_3 157 j = (if cutR st.1 sum = true then st else if vHas G0 t = true then chF cutR (vHas G0) c p n (t + 1) used (sum + p) (vUpd cho t (-1)) (chL (chB cutR (vHas G0) c p n t used sum cho) 4 st) else chF cutR (vHas G0) c p n (t + 1) used sum (vUpd cho t (-1)) st).2 j) ∧ ∀ j : Nat, j < t → G_3 159 j = G 159 j))))) := by
      intro q
      rw [if_neg q]
      refine pC1.of (by omega) (s223 hP1) ⟨fun h => ?_, fun h => ?_⟩
      · have h := b2i_n0.mp h
        rw [vHas_c (f2.c 115 (by decide)) (f2.f 11 (by decide))] at h
        rw [if_pos h]
        rintro _ rfl
        have LP : ∀ (m k : Nat) (g : pG), k + m = 4 → fr [157, 159] [48] G0 g → g 109 48 = (chL (chB cutR (vHas G0) c p n t used sum cho) k st).1 → (∀ j : Nat, j < T → g 157 j = (chL (chB cutR (vHas G0) c p n t used sum cho) k st).2 j) → (∀ j : Nat, j < t → g 159 j = cho j) → pEnds pMT d 224 Yc (fun r g => r = none ∧ (fr [157, 159] [48] G0 g ∧ g 109 48 = (chF cutR (vHas G0) c p n (t + 1) used (sum + p) (vUpd cho t (-1)) (chL (chB cutR (vHas G0) c p n t used sum cho) 4 st)).1 ∧ (∀ j : Nat, j < T → g 157 j = (chF cutR (vHas G0) c p n (t + 1) used (sum + p) (vUpd cho t (-1)) (chL (chB cutR (vHas G0) c p n t used sum cho) 4 st)).2 j) ∧ ∀ j : Nat, j < t → g 159 j = G 159 j)) 93 [pR 109, pI (t : Int), pI used, pI sum, pI p, pI (k : Int)] [] g := by
          intro m
          induction m with
          | zero =>
            intro k g hk k1 k3 k4 k5
            obtain rfl : k = 4 := by omega
            refine v224_93 ⟨fun _ => ⟨by omega, by omega, ?_⟩, fun z => by omega⟩
            rw [e1, w32_id (x := sum + p) (by omega) (by omega), Int.toNat_natCast]
            have F2 : fr [157, 159] [48] g (pset g 159 t (-1)) := fr.set (by decide) (by decide) _ _ _
            refine pC0.ox (by omega) (ih (t + 1) used (sum + p) (vUpd cho t (-1)) _ (pset g 159 t (-1)) (d - 1) (by omega) (by omega) (k1.trans F2) hu0 hu (by omega) (by omega) (by rw [pset_cl _ _ (by decide)]; exact k3) (fun j hj => by rw [pset_cl _ _ (by decide)]; exact k4 j hj) (fun j hj => ?_)) (fun A hA => ⟨rfl, hA.1, hA.2.1, hA.2.2.1, fun j hj => ?_⟩)
            · unfold vUpd
              by_cases e : j = t
              · rw [if_pos e, e, pset_eq]
              · rw [if_neg e, pset_ne _ _ e]; exact k5 j (by omega)
            · rw [hA.2.2.2 j (by omega), pset_ne _ _ (by omega), k5 j hj, g3 j hj]
          | succ m ihm =>
            intro k g hk k1 k3 k4 k5
            have e2 : w32 ((k : Int) + 1) = ((k + 1 : Nat) : Int) := by rw [w32_id (by omega) (by omega)]; rfl
            have e3 : w32 (w32 (4 * (t : Int)) + (k : Int)) = ((4 * t + k : Nat) : Int) := by rw [w32_id (x := 4 * (t : Int)) (by omega) (by omega), w32_id (by omega) (by omega)]; omega
            have sk : chL (chB cutR (vHas G0) c p n t used sum cho) (k + 1) st = chB cutR (vHas G0) c p n t used sum cho k (chL (chB cutR (vHas G0) c p n t used sum cho) k st) := rfl
            refine v224_93 ⟨fun z => by omega, fun _ => ?_⟩
            rw [e2, e3, bit_i hu0 (by omega) (by omega), Int.toNat_natCast, Int.toNat_natCast, pset_cl (b := 158) _ _ (by omega), k1.c 158 (by decide), hc t k (by omega) (by omega) h]
            refine ⟨fun z => ?_, fun z => ⟨by omega, by omega, fun y => ⟨by omega, by omega, by omega, by omega, ?_⟩, fun y => ?_⟩⟩
            · have z := b2i_1.mp z
              rintro _ rfl
              have no : chL (chB cutR (vHas G0) c p n t used sum cho) (k + 1) st = chL (chB cutR (vHas G0) c p n t used sum cho) k st := by rw [sk, chB, if_neg (fun q => by rw [q.1] at z; exact absurd z (by decide))]
              exact ihm (k + 1) g (by omega) k1 (by rw [no]; exact k3) (by rw [no]; exact k4) k5
            · have z : bt used k = false := Bool.eq_false_iff.mpr (fun q => z (b2i_t q))
              obtain ⟨u1, u2, u3, u4⟩ := por_set hu0 (show used < 2147483648 by omega) (show k < 31 by omega)
              have u5 := u4 4 (by omega) (by omega) (by omega)
              have cb := hcb t k (by omega) y
              rw [e1, w32_id (x := sum + c t k) (by omega) (by omega)]
              have F2 : fr [157, 159] [48] g (pset g 159 t (k : Int)) := fr.set (by decide) (by decide) _ _ _
              refine pC0.ox (by omega) (ih (t + 1) _ (sum + c t k) (vUpd cho t (k : Int)) (chL (chB cutR (vHas G0) c p n t used sum cho) k st) (pset g 159 t (k : Int)) (d - 1) (by omega) (by omega) (k1.trans F2) u1 (by omega) (by omega) (by omega) (by rw [pset_cl _ _ (by decide)]; exact k3) (fun j hj => by rw [pset_cl _ _ (by decide)]; exact k4 j hj) (fun j hj => ?_)) (fun A hA => ?_)
              · unfold vUpd
                by_cases e : j = t
                · rw [if_pos e, e, pset_eq]
                · rw [if_neg e, pset_ne _ _ e]; exact k5 j (by omega)
              · have ye : chL (chB cutR (vHas G0) c p n t used sum cho) (k + 1) st = chF cutR (vHas G0) c p n (t + 1) (por used (pshl 1 (k : Int))) (sum + c t k) (vUpd cho t (k : Int)) (chL (chB cutR (vHas G0) c p n t used sum cho) k st) := by
                  rw [sk, chB, if_pos ⟨z, y⟩]
                rintro _ rfl
                exact ihm (k + 1) A (by omega) hA.1 (by rw [ye]; exact hA.2.1) (by rw [ye]; exact hA.2.2.1) (fun j hj => by rw [hA.2.2.2 j (by omega), pset_ne _ _ (by omega)]; exact k5 j hj)
            · rintro _ rfl
              have no : chL (chB cutR (vHas G0) c p n t used sum cho) (k + 1) st = chL (chB cutR (vHas G0) c p n t used sum cho) k st := by rw [sk, chB, if_neg (fun q => q.2 y)]
              exact ihm (k + 1) g (by omega) k1 (by rw [no]; exact k3) (by rw [no]; exact k4) k5
        exact LP 4 0 _ rfl f2 (by rw [pset_cl _ _ (by decide)]; exact g1) (fun j hj => by rw [pset_cl _ _ (by decide)]; exact g2 j hj) (fun j hj => by rw [pset_ne _ _ (by omega)]; exact g3 j hj)
      · have h := b2i_0.mp h
        rw [vHas_c (f2.c 115 (by decide)) (f2.f 11 (by decide))] at h
        rw [if_neg h, e1]
        refine pC0.ox (by omega) (ih (t + 1) used sum (vUpd cho t (-1)) st (pset G 159 t (-1)) (d - 1) (by omega) (by omega) f2 hu0 hu hs0 (by omega) (by rw [pset_cl _ _ (by decide)]; exact g1) (fun j hj => by rw [pset_cl _ _ (by decide)]; exact g2 j hj) (fun j hj => ?_)) (fun A hA => ⟨rfl, hA.1, hA.2.1, hA.2.2.1, fun j hj => ?_⟩)
        · unfold vUpd
          by_cases e : j = t
          · rw [if_pos e, e, pset_eq]
          · rw [if_neg e, pset_ne _ _ e]; exact g3 j (by omega)
        · rw [hA.2.2.2 j (by omega), pset_ne _ _ (by omega)]
    refine pX0 rfl rfl (v224_0 ?_)
    rw [f1.f 10 (by decide), hT, Int.toNat_natCast]
    refine ⟨fun q => ⟨fun _ => ⟨by omega, by omega, body (fun z => by have := of_decide_eq_true z; omega)⟩, fun q2 => by omega⟩, fun q => ⟨fun q1 => ⟨fun _ => ⟨by omega, by omega, body (fun z => by have := of_decide_eq_true z; omega)⟩, fun q2 => by omega⟩, fun q1 => ⟨rfl, f1, ?_⟩⟩⟩
    rw [if_pos (show cutR st.1 sum = true from decide_eq_true (by omega))]
    exact ⟨g1, g2, fun _ _ => rfl⟩
/-- the reference's costs -/
theorem l225 {G : pG} {p : Int} {d T : Nat} (hP : rPart G) (hL : rPl G) (hO : ∀ k m : Nat, k < 4 → m < 100 → 0 ≤ vO G k m ∧ vO G k m ≤ 999) (hT : G 109 10 = (T : Int)) (hd : 5 ≤ d) {R : Option pV → pG → Prop} (hR : ∀ g, fr [156, 158] [43, 44, 45] G g → (∀ t k : Nat, t < T → k < 4 → vHas G t = true → g 158 (4 * t + k) = vCo G t k) → pEnds pMT d 225 Yc R 17 [pR 109, pI p, pI (T : Int), pU] [] g) : pEnds pMT d 225 Yc R 17 [pR 109, pI p, pI 0, pU] [] G := by
  have t1 := hP.t1
  have H2 : ∀ (t : Nat) (K : ∀ g, fr [156, 158] [43, 44, 45] G g → (∀ t' k : Nat, t' < t + 1 → k < 4 → vHas G t' = true → g 158 (4 * t' + k) = vCo G t' k) → pEnds pMT d 225 Yc R 17 [pR 109, pI p, pI ((t + 1 : Nat) : Int), pU] [] g), t < T → ∀ (n k : Nat) (g : pG), k + n = 4 → fr [156, 158] [43, 44, 45] G g → (∀ t' k' : Nat, t' < t → k' < 4 → vHas G t' = true → g 158 (4 * t' + k') = vCo G t' k') → (∀ k' : Nat, k' < k → vHas G t = true → g 158 (4 * t + k') = vCo G t k') → pEnds pMT d 225 Yc R 27 [pR 109, pI p, pI (t : Int), pI (k : Int)] [] g := by
    intro t K htT n
    induction n with
    | zero =>
      intro k g hk f1 f2 f3
      obtain rfl : k = 4 := by omega
      refine v225_27 ⟨fun _ => ?_, fun h => by omega⟩
      rw [w32_id (by omega) (by omega)]
      rintro _ rfl
      refine K g f1 (fun t' k' ht' hk' hh => ?_)
      by_cases e : t' = t
      · subst e; exact f3 k' hk' hh
      · exact f2 t' k' (by omega) hk' hh
    | succ n ih =>
      intro k g hk f1 f2 f3
      have hPg : rPart g := f1.mv rPart_dep (by decide) (by decide) hP
      have hLg : rPl g := f1.mv rPl_dep (by decide) (by decide) hL
      have e2 : w32 ((k : Int) + 1) = ((k + 1 : Nat) : Int) := by rw [w32_id (by omega) (by omega)]; rfl
      have e3 : w32 (w32 (4 * (t : Int)) + (k : Int)) = ((4 * t + k : Nat) : Int) := by rw [w32_id (x := 4 * (t : Int)) (by omega) (by omega), w32_id (by omega) (by omega)]; omega
      have nx : ∀ (g' : pG) (v : Int), fr [156, 158] [43, 44, 45] g g' → g' 158 = g 158 → (vHas G t = true → v = vCo G t k) → pEnds pMT d 225 Yc R 27 [pR 109, pI p, pI (t : Int), pI ((k + 1 : Nat) : Int)] [] (pset g' 158 (4 * t + k) v) := by
        intro g' v h1 h2 h3
        refine ih (k + 1) _ (by omega) (f1.trans (h1.trans (fr.set (by decide) (by decide) _ _ _))) (fun t' k' ht' hk' hh => ?_) (fun k' hk' hh => ?_)
        · rw [pset_ne _ _ (by omega), h2]; exact f2 t' k' ht' hk' hh
        · by_cases e : k' = k
          · subst e; rw [pset_eq]; exact h3 hh
          · rw [pset_ne _ _ (by omega), h2]; exact f3 k' (by omega) hh
      refine v225_27 ⟨fun h => by omega, fun h => ?_⟩
      rw [e2, e3]
      refine pC1.of (by omega) (s223 hPg) ⟨fun q => ⟨by omega, by omega, ?_⟩, fun q => ?_⟩
      · have q := b2i_0.mp q
        rw [vHas_c (f1.c 115 (by decide)) (f1.f 11 (by decide))] at q
        rw [Int.toNat_natCast]
        rintro _ rfl
        exact nx g (-1) (fr.refl _ _ _) rfl (fun z => absurd z q)
      · have eF := vFt_c (f1.c 155 (by decide)) (f1.dsc (by decide) (by decide)) t k
        obtain ⟨A, a1, a2, a3⟩ := s221 (d := d - 1) (G := g) (t := t) (k := k) hPg hLg (fun m hm => by unfold vO; rw [f1.c 155 (by decide)]; exact hO k m (by omega) hm) (by omega) (by omega)
        rw [eF.1] at a1
        rw [eF.1, eF.2] at a3
        refine pC1.of (by omega) a1 ⟨fun y => ⟨by omega, by omega, ?_⟩, fun y => ⟨by omega, by omega, ?_⟩⟩
        · have y := Decidable.not_not.mp (b2i_0.mp y)
          rw [Int.toNat_natCast]
          rintro _ rfl
          exact nx A (-1) (a2.mono (by decide) (by decide)) (a2.c 158 (by decide)) (fun _ => by unfold vCo; rw [if_pos y])
        · have y := b2i_n0.mp y
          rw [Int.toNat_natCast, (a3 y).2.2]
          rintro _ rfl
          exact nx A _ (a2.mono (by decide) (by decide)) (a2.c 158 (by decide)) (fun _ => by unfold vCo; rw [if_neg y])
  have H1 : ∀ (n t : Nat) (g : pG), t + n = T → fr [156, 158] [43, 44, 45] G g → (∀ t' k : Nat, t' < t → k < 4 → vHas G t' = true → g 158 (4 * t' + k) = vCo G t' k) → pEnds pMT d 225 Yc R 17 [pR 109, pI p, pI (t : Int), pU] [] g := by
    intro n
    induction n with
    | zero =>
      intro t g ht f1 f2
      obtain rfl : t = T := by omega
      exact hR g f1 f2
    | succ n ih =>
      intro t g ht f1 f2
      refine v225_17 ⟨fun h => by rw [f1.f 10 (by decide), hT] at h; omega, fun h => ?_⟩
      rintro _ rfl
      exact H2 t (fun g' h1 h2 => ih (t + 1) g' (by omega) h1 h2) (by omega) 4 0 g rfl f1 f2 (fun k' hk' => by omega)
  exact H1 T 0 G (by omega) (fr.refl _ _ _) (fun t' k ht' => by omega)
theorem pr_share (x : Int) : pPx [43, 49, 72, 50, 52, 53, 54, 55, 56, 57, 59, 60, 61, 62, 63, 64, 66, 67, 68, 69, 70, 71, 156, 157, 158, 159] [43, 44, 45, 48] (fun G => rPart G ∧ rPl G ∧ rDisc G ∧ rOld G ∧ rCa G ∧ rGets G) (fun G G' => rCa G' ∧ rGets G') 145 225 [pI x] := by
  rintro G ⟨hP, hL, hD, hO, hC, hG⟩
  have t0 := hP.t0
  have t1 := hP.t1
  by_cases hx : 0 ≤ x ∧ x ≤ 99999
  · obtain ⟨T, hT⟩ : ∃ T : Nat, G 109 10 = (T : Int) := ⟨(G 109 10).toNat, by omega⟩
    have F0n : fr [43, 49, 72] [] G (pset G 43 9 (x * 6 + 1)) := fr.set (by decide) (by decide) _ _ _
    have F0 : fr sW [] G (pset G 43 9 (x * 6 + 1)) := F0n.mono (by decide) (by decide)
    obtain ⟨A, a1, a2, a3, a4, a5, a6⟩ := s54 hP hL hD hO hx.1 hx.2 hT T 0 0 0 (fun _ => 0) (x * 6 + 1, G 49) (pset G 43 9 (x * 6 + 1)) 57 (by omega) (by omega) F0 (F0n.mv rCa_dep (by decide) (by decide) hC) (by omega) (by omega) (by omega) (by omega) (by rw [pset_eq]) (fun j hj => by rw [pset_cl _ _ (by decide)]) (fun j hj => by omega)
    have hPA : rPart A := a2.mv rPart_dep (by decide) (by decide) hP
    have hLA : rPl A := a2.mv rPl_dep (by decide) (by decide) hL
    have eO : ∀ k m : Nat, k < 4 → m < 100 → 0 ≤ vO A k m ∧ vO A k m ≤ 999 := fun k m hk hm => by unfold vO; rw [a2.c 155 (by decide)]; exact (hO k m hk hm).2
    have eCo : ∀ t k : Nat, vCo A t k = vCo G t k := fun t k => by
      have e := vFt_c (a2.c 155 (by decide)) (a2.dsc (by decide) (by decide)) t k
      unfold vCo
      rw [e.1, e.2]
    have eH : ∀ t : Nat, vHas A t = vHas G t := fun t => vHas_c (a2.c 115 (by decide)) (a2.f 11 (by decide)) t
    have eHf : vHas A = vHas G := funext eH
    have c1 : pRuns pMT 59 145 [pR 0, pI x] Yc G (some (pI (A 43 9))) A := by
      refine pRuns.of rfl rfl (v145_0 (pC1.of (by omega) s118 ⟨fun q => absurd hx (b2i_0.mp q), fun _ => pC1.of (r := A 43 9) (G' := A) (by omega) (pRuns.of rfl rfl (v53_0 ?_)) (rI rfl rfl)⟩))
      rw [w32_id (x := x * 6) (by omega) (by omega), w32_id (by omega) (by omega)]
      exact pC0.of (by omega) a1 (rI rfl rfl)
    have r2 : ∃ v G', pRuns pMT 59 225 [pR 109, pI x] Yc A (some (pI v)) G' ∧ (v = (chF cutR (vHas G) (vCo G) x T 0 0 0 (fun _ => 0) (-1, A 157)).1 ∧ fr [156, 157, 158, 159] [43, 44, 45, 48] A G' ∧ ∀ j : Nat, j < T → G' 157 j = (chF cutR (vHas G) (vCo G) x T 0 0 0 (fun _ => 0) (-1, A 157)).2 j) := by
      refine pX1 rfl rfl (v225_0 (pC1.of (by omega) s166 ⟨fun _ => ?_, fun q => absurd hx (b2i_0.mp q)⟩))
      rintro _ rfl
      refine l225 (T := T) hPA hLA eO (by rw [a2.f 10 (by decide), hT]) (by omega) (fun g h1 h2 => ?_)
      refine v225_17 ⟨fun _ => ?_, fun q => by rw [h1.f 10 (by decide), a2.f 10 (by decide), hT] at q; omega⟩
      have Fg : fr [156, 157, 158, 159] [43, 44, 45, 48] g (pset g 109 48 (-1)) := fr.setF (by decide) _ _
      have F1 : fr [156, 157, 158, 159] [43, 44, 45, 48] A (pset g 109 48 (-1)) := (h1.mono (by decide) (by decide)).trans Fg
      have hP1 : rPart (pset g 109 48 (-1)) := F1.mv rPart_dep (by decide) (by decide) hPA
      have eH1 : vHas (pset g 109 48 (-1)) = vHas G := by rw [← eHf]; exact funext fun t => vHas_c (F1.c 115 (by decide)) (F1.f 11 (by decide)) t
      have q := s224 (G0 := pset g 109 48 (-1)) (p := x) (T := T) hP1 hx.1 hx.2 (by rw [F1.f 10 (by decide), a2.f 10 (by decide), hT]) (c := vCo G) (fun t k ht hk hh => by
        rw [eH1] at hh
        rw [pset_cl _ _ (by decide), h2 t k ht hk (by rw [eH]; exact hh), eCo]) (fun t k hk hc => ⟨vCo_0 G t k hc, (vCo_bd hP hL hO hk).2⟩) T 0 0 0 (fun _ => 0) (-1, A 157) (pset g 109 48 (-1)) 58 (by omega) (by omega) (fr.refl _ _ _) (by omega) (by omega) (by omega) (by omega) (by rw [pset_eq]) (fun j hj => by rw [pset_cl _ _ (by decide), h1.c 157 (by decide)]) (fun j hj => by omega)
      rw [eH1] at q
      exact pC0.ox (by omega) q (fun B hB => ⟨_, rfl, hB.2.1, F1.trans (hB.1.mono (by decide) (by decide)), hB.2.2.1⟩)
    obtain ⟨v, C, c2, rfl, f2, m2⟩ := r2
    have rel := chF_rel (has := vHas G) (c := vCo G) (p := x) (M := x * 6 + 1) (T := T) (by omega) hx.1 (vCo_0 G) T 0 0 0 (fun _ => 0) (x * 6 + 1, G 49) (-1, A 157) (by omega) (Or.inl ⟨rfl, Or.inl rfl⟩)
    have le := chF_le (has := vHas G) (c := vCo G) (p := x) hx.1 T 0 0 0 (fun _ => 0) (x * 6 + 1, G 49)
    have le2 : (T : Int) * x ≤ 6 * x := Int.mul_le_mul_of_nonneg_right (by omega) hx.1
    rcases rel with rel | rel
    · omega
    · have FD : fr [43, 49, 72, 50, 52, 53, 54, 55, 56, 57, 59, 60, 61, 62, 63, 64, 66, 67, 68, 69, 70, 71, 156, 157, 158, 159] [43, 44, 45, 48] G C := (a2.mono (by decide) (by decide)).trans (f2.mono (by decide) (by decide))
      refine ⟨_, A, C, c1, ?_, a2.mono (by decide) (by decide), FD, f2.mv rCa_dep (by decide) (by decide) a3, fun j hj => ?_⟩
      · rw [a4, rel.1]; exact c2
      · rw [FD.f 10 (by decide), hT] at hj
        rw [f2.c 49 (by decide), a5 j (by omega), m2 j (by omega)]
        exact rel.2.2.2 j (by omega)
  · exact ⟨-2, G, G, pRuns.of rfl rfl (v145_0 (pC1.of (by omega) s118 ⟨fun q => rI rfl rfl, fun q => absurd (b2i_n0.mp q) hx⟩)), pRuns.of rfl rfl (v225_0 (pC1.of (by omega) s166 ⟨fun q => absurd (b2i_n0.mp q) hx, fun q => rI rfl rfl⟩)), fr.refl _ _ _, fr.refl _ _ _, hC, hG⟩
