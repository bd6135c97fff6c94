/-! trains: the search -/
abbrev vTS : Type := (Int × Int × Int × (Nat → Nat)) × Int
def nUpd (f : Nat → Nat) (t v j : Nat) : Nat := if j = t then v else f j
def tUp (tt : Nat → Int) (many : Nat) (row : Nat → Nat) : Int := if many = 4 then tt (row 0) * tt (row 2) else tt (row 0)
def tLo (tt : Nat → Int) (many : Nat) (row : Nat → Nat) : Int := if many = 4 then tt (row 1) * tt (row 3) else tt (row 1)
def tMis (tt : Nat → Int) (p q : Int) (many : Nat) (row : Nat → Nat) : Int := tUp tt many row * q - p * tLo tt many row
def tFar (tt : Nat → Int) (p q : Int) (many : Nat) (row : Nat → Nat) : Int := if 0 ≤ tMis tt p q many row then tMis tt p q many row else -tMis tt p q many row
def wgh (tt : Nat → Int) (p q : Int) (many : Nat) (row : Nat → Nat) (s : vTS) : vTS := (if s.1.1 = 0 ∨ tFar tt p q many row * s.1.2.2.1 < s.1.2.1 * tLo tt many row then ((many : Int), tFar tt p q many row, tLo tt many row, row) else s.1, if tFar tt p q many row = 0 then s.2 + 1 else s.2)
def enL (f : Nat → vTS → vTS) : Nat → vTS → vTS
  | 0, s => s
  | w + 1, s => f w (enL f w s)
def enu (W : Nat) (lf : (Nat → Nat) → vTS → vTS) : Nat → Nat → Int → (Nat → Nat) → vTS → vTS
  | 0, _, _, row, s => lf row s
  | n + 1, dep, used, row, s => enL (fun w s => if bt used w = false then enu W lf n (dep + 1) (por used (pshl 1 (w : Int))) (nUpd row dep w) s else s) W s
def enB (W : Nat) (lf : (Nat → Nat) → vTS → vTS) (n dep : Nat) (used : Int) (row : Nat → Nat) (w : Nat) (s : vTS) : vTS := if bt used w = false then enu W lf n (dep + 1) (por used (pshl 1 (w : Int))) (nUpd row dep w) s else s
theorem enu_s (W : Nat) (lf : (Nat → Nat) → vTS → vTS) (n dep : Nat) (used : Int) (row : Nat → Nat) (s : vTS) : enu W lf (n + 1) dep used row s = enL (enB W lf n dep used row) W s := rfl
theorem t_bd {tt : Nat → Int} {W : Nat} (ht : ∀ i : Nat, i < W → 10 ≤ tt i ∧ tt i ≤ 200) {many : Nat} {row : Nat → Nat} (hm : many = 2 ∨ many = 4) (hr : ∀ j : Nat, j < many → row j < W) : 1 ≤ tUp tt many row ∧ tUp tt many row ≤ 40000 ∧ 1 ≤ tLo tt many row ∧ tLo tt many row ≤ 40000 := by
  rcases hm with rfl | rfl
  · have a := ht _ (hr 0 (by omega))
    have b := ht _ (hr 1 (by omega))
    simp [tUp, tLo]
    omega
  · have a := ht _ (hr 0 (by omega))
    have b := ht _ (hr 1 (by omega))
    have c := ht _ (hr 2 (by omega))
    have e := ht _ (hr 3 (by omega))
    have m1 := mulb (A := 200) (B := 200) (show 0 ≤ tt (row 0) by omega) a.2 (show 0 ≤ tt (row 2) by omega) c.2
    have m2 := mulb (A := 200) (B := 200) (show 0 ≤ tt (row 1) by omega) b.2 (show 0 ≤ tt (row 3) by omega) e.2
    have m3 : 10 * 10 ≤ tt (row 0) * tt (row 2) := Int.mul_le_mul a.1 c.1 (by omega) (by omega)
    have m4 : 10 * 10 ≤ tt (row 1) * tt (row 3) := Int.mul_le_mul b.1 e.1 (by omega) (by omega)
    simp [tUp, tLo]
    omega
theorem far_bd {u l p q : Int} (h1 : 1 ≤ u) (h2 : u ≤ 40000) (h3 : 1 ≤ l) (h4 : l ≤ 40000) (hp : 1 ≤ p) (hp2 : p ≤ 9999) (hq : 1 ≤ q) (hq2 : q ≤ 9999) : w64 (w64 (u * q) - w64 (p * l)) = u * q - p * l ∧ -399960000 ≤ u * q - p * l ∧ u * q - p * l ≤ 399960000 ∧ 1 ≤ l * q ∧ l * q ≤ 399960000 := by
  have m1 := mulb (A := 40000) (B := 9999) (show 0 ≤ u by omega) h2 (show 0 ≤ q by omega) hq2
  have m2 := mulb (A := 9999) (B := 40000) (show 0 ≤ p by omega) hp2 (show 0 ≤ l by omega) h4
  have m3 := mulb (A := 40000) (B := 9999) (show 0 ≤ l by omega) h4 (show 0 ≤ q by omega) hq2
  have m4 : 1 * 1 ≤ l * q := Int.mul_le_mul h3 hq (by omega) (by omega)
  rw [w64_id (x := u * q) (by omega) (by omega), w64_id (x := p * l) (by omega) (by omega), w64_id (by omega) (by omega)]
  omega
theorem tFar_bd {tt : Nat → Int} {p q : Int} {many : Nat} {row : Nat → Nat} (h1 : 1 ≤ tUp tt many row) (h2 : tUp tt many row ≤ 40000) (h3 : 1 ≤ tLo tt many row) (h4 : tLo tt many row ≤ 40000) (hp : 1 ≤ p) (hp2 : p ≤ 9999) (hq : 1 ≤ q) (hq2 : q ≤ 9999) : 0 ≤ tFar tt p q many row ∧ tFar tt p q many row ≤ 399960000 := by
  have := far_bd h1 h2 h3 h4 hp hp2 hq hq2
  unfold tFar tMis
  split <;> omega
/-- the search's state is well -/
def tOk (tt : Nat → Int) (W : Nat) (s : vTS) : Prop := s.1.1 = 0 ∨ ((s.1.1 = 2 ∨ s.1.1 = 4) ∧ 0 ≤ s.1.2.1 ∧ s.1.2.1 ≤ 399960000 ∧ 1 ≤ s.1.2.2.1 ∧ s.1.2.2.1 ≤ 40000 ∧ (∀ j : Nat, (j : Int) < s.1.1 → s.1.2.2.2 j < W) ∧ s.1.2.2.1 = tLo tt s.1.1.toNat s.1.2.2.2)
theorem wgh_ok {tt : Nat → Int} {W : Nat} (ht : ∀ i : Nat, i < W → 10 ≤ tt i ∧ tt i ≤ 200) {p q : Int} {many : Nat} {row : Nat → Nat} (hm : many = 2 ∨ many = 4) (hr : ∀ j : Nat, j < many → row j < W) (hp : 1 ≤ p) (hp2 : p ≤ 9999) (hq : 1 ≤ q) (hq2 : q ≤ 9999) {s : vTS} (h : tOk tt W s) : tOk tt W (wgh tt p q many row s) ∧ (wgh tt p q many row s).1.1 ≠ 0 := by
  obtain ⟨b1, b2, b3, b4⟩ := t_bd ht hm hr
  have fb := tFar_bd b1 b2 b3 b4 hp hp2 hq hq2
  unfold wgh tOk
  by_cases c : s.1.1 = 0 ∨ tFar tt p q many row * s.1.2.2.1 < s.1.2.1 * tLo tt many row
  · simp only [if_pos c]
    exact ⟨Or.inr ⟨by omega, fb.1, fb.2, b3, b4, fun j hj => hr j (by omega), by simp⟩, by omega⟩
  · simp only [if_neg c]
    exact ⟨h, fun z => c (Or.inl z)⟩
/-- the state in the class' memory -/
def stC (G : pG) (s : vTS) : Prop := G 73 10 = s.1.1 ∧ G 73 13 = s.2 ∧ (s.1.1 ≠ 0 → G 73 11 = s.1.2.1 ∧ G 73 12 = s.1.2.2.1 ∧ ∀ j : Nat, (j : Int) < s.1.1 → G 79 j = (s.1.2.2.2 j : Int))
/-- the box and the ratio, as the class holds them -/
def enC (G : pG) (W : Nat) (tt : Nat → Int) (p q : Int) : Prop := W ≤ 10 ∧ G 73 1 = (W : Int) ∧ (∀ i : Nat, i < W → G 74 i = tt i) ∧ G 73 14 = p ∧ G 73 15 = q
/-- what of cell 73 does not change -/
def fr73 (G G' : pG) : Prop := ∀ j : Nat, j ≠ 10 → j ≠ 11 → j ≠ 12 → j ≠ 13 → G' 73 j = G 73 j
theorem enC.mv {G G' : pG} {W : Nat} {tt : Nat → Int} {p q : Int} (h : enC G W tt p q) (h1 : G' 74 = G 74) (h2 : fr73 G G') : enC G' W tt p q := ⟨h.1, by rw [h2 1 (by omega) (by omega) (by omega) (by omega)]; exact h.2.1, by rw [h1]; exact h.2.2.1, by rw [h2 14 (by omega) (by omega) (by omega) (by omega)]; exact h.2.2.2.1, by rw [h2 15 (by omega) (by omega) (by omega) (by omega)]; exact h.2.2.2.2⟩
theorem s115 {d : Nat} {G : pG} {W : Nat} {tt : Nat → Int} (ht : ∀ i : Nat, i < W → 10 ≤ tt i ∧ tt i ≤ 200) {p q : Int} {many : Nat} {row : Nat → Nat} (hm : many = 2 ∨ many = 4) (hr : ∀ j : Nat, j < many → row j < W) (hp : 1 ≤ p) (hp2 : p ≤ 9999) (hq : 1 ≤ q) (hq2 : q ≤ 9999) {s : vTS} (hE : enC G W tt p q) (h78 : ∀ j : Nat, j < many → G 78 j = (row j : Int)) (hs : tOk tt W s) (hst : stC G s) (hx0 : 0 ≤ s.2) (hx1 : s.2 ≤ 20000) : ∃ G', pRuns pMT d 115 [pR 73, pI (many : Int)] Yc G none G' ∧ (fr [73, 79] [] G G' ∧ fr73 G G' ∧ stC G' (wgh tt p q many row s)) := by
  obtain ⟨b1, b2, b3, b4⟩ := t_bd ht hm hr
  have fb := tFar_bd b1 b2 b3 b4 hp hp2 hq hq2
  obtain ⟨e1, e2, e3, e4, e5⟩ := far_bd b1 b2 b3 b4 hp hp2 hq hq2
  obtain ⟨W10, E1, E2, E3, E4⟩ := hE
  obtain ⟨S1, S2, S3⟩ := hst
  have r0 := hr 0 (by omega)
  have r1 := hr 1 (by omega)
  have q0' := h78 0 (by omega)
  have q1' := h78 1 (by omega)

  have L156 : ∀ g : pG, fr [73, 79] [] G g → fr73 G g → stC g (wgh tt p q many row s) → pEnds pMT d 115 Yc (fun r g => r = none ∧ (fr [73, 79] [] G g ∧ fr73 G g ∧ stC g (wgh tt p q many row s))) 156 [pU, pU, pU, pU, pU, pU, pU, pU] [] g := fun g h1 h2 h3 => v115_156 ⟨rfl, h1, h2, h3⟩
  have L125 : ∀ g : pG, fr [73, 79] [] G g → fr73 G g → g 78 = G 78 → g 73 13 = (wgh tt p q many row s).2 → (s.1.1 = 0 ∨ tFar tt p q many row * s.1.2.2.1 < s.1.2.1 * tLo tt many row) → pEnds pMT d 115 Yc (fun r g => r = none ∧ (fr [73, 79] [] G g ∧ fr73 G g ∧ stC g (wgh tt p q many row s))) 125 [pR 73, pI (many : Int), pU, pU, pL (tLo tt many row), pU, pL (tFar tt p q many row), pU] [] g := by
    intro g h1 h2 h3 h4 hc
    refine v115_125 ⟨by omega, L156 _ (h1.trans ((fr.set (by decide) (by decide) _ _ _).trans ((fr.set (by decide) (by decide) _ _ _).trans ((fr.set (by decide) (by decide) _ _ _).trans (fr.cpy (by decide) (by decide) _ _ _ _ _))))) ?_ ?_⟩
    · intro j j1 j2 j3 j4
      simp [pcpy_at, pset_at, j1, j2, j3]
      exact h2 j j1 j2 j3 j4
    · unfold stC
      have ew : (wgh tt p q many row s).1 = ((many : Int), tFar tt p q many row, tLo tt many row, row) := by unfold wgh; simp only [if_pos hc]
      rw [ew]
      refine ⟨by simp [pcpy_at, pset_at], by simp [pcpy_at, pset_at]; exact h4, fun _ => ⟨by simp [pcpy_at, pset_at], by simp [pcpy_at, pset_at], fun j hj => ?_⟩⟩
      simp [pcpy_at, pset_at]
      rw [if_pos (show j < many by simp at hj; omega), h3]
      exact h78 j (by simp at hj; omega)
  have L100 : ∀ g : pG, fr [73, 79] [] G g → fr73 G g → g 78 = G 78 → g 79 = G 79 → g 73 10 = s.1.1 → (s.1.1 ≠ 0 → g 73 11 = s.1.2.1 ∧ g 73 12 = s.1.2.2.1) → g 73 13 = (wgh tt p q many row s).2 → pEnds pMT d 115 Yc (fun r g => r = none ∧ (fr [73, 79] [] G g ∧ fr73 G g ∧ stC g (wgh tt p q many row s))) 100 [pR 73, pI (many : Int), pU, pU, pL (tLo tt many row), pU, pL (tFar tt p q many row), pU] [] g := by
    intro g h1 h2 h3 h4 h5 h6 h7
    refine v115_100 ⟨fun z => L125 g h1 h2 h3 h7 (Or.inl (by rw [← h5]; exact z)), fun z => ?_⟩
    rw [h5] at z
    obtain ⟨k1, k2⟩ := h6 z
    rcases hs with hs | ⟨o1, o2, o3, o4, o5, o6, o7⟩
    · exact absurd hs z
    have m1 := mulb (A := 399960000) (B := 40000) fb.1 fb.2 (show 0 ≤ s.1.2.2.1 by omega) o5
    have m2 := mulb (A := 399960000) (B := 40000) o2 o3 (show 0 ≤ tLo tt many row by omega) b4
    rw [k1, k2, w64_id (x := tFar tt p q many row * s.1.2.2.1) (by omega) (by omega), w64_id (x := s.1.2.1 * tLo tt many row) (by omega) (by omega), cmp_ge, cmp_lt]
    refine ⟨fun y => L156 g h1 h2 ?_, fun y => L125 g h1 h2 h3 h7 (Or.inr y)⟩
    have ew : (wgh tt p q many row s).1 = s.1 := by unfold wgh; simp only [if_neg (show ¬ (s.1.1 = 0 ∨ tFar tt p q many row * s.1.2.2.1 < s.1.2.1 * tLo tt many row) by omega)]
    unfold stC
    rw [ew]
    exact ⟨h5, h7, fun _ => ⟨k1, k2, by rw [h4]; exact (S3 z).2.2⟩⟩
  have L64 : pEnds pMT d 115 Yc (fun r g => r = none ∧ (fr [73, 79] [] G g ∧ fr73 G g ∧ stC g (wgh tt p q many row s))) 64 [pR 73, pI (many : Int), pL (tUp tt many row), pU, pL (tLo tt many row), pU, pU, pU] [] G := by
    refine v115_64 ?_
    rw [E3, E4, e1]
    have ef : (if 0 < tUp tt many row * q - p * tLo tt many row then tUp tt many row * q - p * tLo tt many row else w64 (-(tUp tt many row * q - p * tLo tt many row))) = tFar tt p q many row := by
      rw [w64_id (by omega) (by omega)]
      unfold tFar tMis
      split <;> split <;> omega
    rw [ef]
    rintro _ rfl
    rw [cmp_eq]
    refine ⟨fun z => L100 G (fr.refl _ _ _) (fun _ _ _ _ _ => rfl) rfl rfl S1 (fun z => ⟨(S3 z).1, (S3 z).2.1⟩) (by unfold wgh; simp only [if_neg z]; exact S2), fun z => L100 _ (fr.set (by decide) (by decide) _ _ _) (fun j j1 j2 j3 j4 => by rw [pset_ne _ _ j4]) (by rw [pset_cl _ _ (by decide)]) (by rw [pset_cl _ _ (by decide)]) (by rw [pset_ne _ _ (by decide)]; exact S1) (fun z => by rw [pset_ne _ _ (by decide), pset_ne _ _ (by decide)]; exact ⟨(S3 z).1, (S3 z).2.1⟩) ?_⟩
    rw [pset_eq, S2, w32_id (by omega) (by omega)]
    unfold wgh
    simp only [if_pos z]
  refine pX0 rfl rfl (v115_0 ?_)
  rw [show Int.toNat 0 = 0 from rfl, show Int.toNat 1 = 1 from rfl, show Int.toNat 2 = 2 from rfl, show Int.toNat 3 = 3 from rfl, q0', q1', Int.toNat_natCast, Int.toNat_natCast, E2 _ r0, E2 _ r1]
  refine ⟨by omega, by omega, by omega, by omega, ?_⟩
  rintro _ rfl
  refine ⟨by omega, by omega, by omega, by omega, ?_⟩
  rintro _ rfl
  refine ⟨fun z => ?_, fun z => ?_⟩
  · have hm2 : many = 2 := by omega
    have u1 : tUp tt many row = tt (row 0) := by unfold tUp; rw [if_neg (by omega)]
    have u2 : tLo tt many row = tt (row 1) := by unfold tLo; rw [if_neg (by omega)]
    rw [u1, u2] at L64
    exact L64
  · have hm4 : many = 4 := by omega
    have u1 : tUp tt many row = tt (row 0) * tt (row 2) := by unfold tUp; rw [if_pos hm4]
    have u2 : tLo tt many row = tt (row 1) * tt (row 3) := by unfold tLo; rw [if_pos hm4]
    have r2 := hr 2 (by omega)
    have r3 := hr 3 (by omega)
    rw [h78 2 (by omega), h78 3 (by omega), Int.toNat_natCast, Int.toNat_natCast, E2 _ r2, E2 _ r3]
    rw [u1, u2] at L64
    rw [u1] at b1 b2
    rw [u2] at b3 b4
    refine ⟨by omega, by omega, by omega, by omega, ?_⟩
    rw [w64_id (by omega) (by omega)]
    rintro _ rfl
    refine ⟨by omega, by omega, by omega, by omega, ?_⟩
    rw [w64_id (by omega) (by omega)]
    rintro _ rfl
    exact L64
theorem nUpd_lt {row : Nat → Nat} {dep w W : Nat} (h : ∀ j : Nat, j < dep → row j < W) (hw : w < W) : ∀ j : Nat, j < dep + 1 → nUpd row dep w j < W := by
  intro j hj
  unfold nUpd
  split
  · exact hw
  · exact h j (by omega)
theorem enu_ok {tt : Nat → Int} {W : Nat} (hW : W ≤ 10) (ht : ∀ i : Nat, i < W → 10 ≤ tt i ∧ tt i ≤ 200) {p q : Int} {many : Nat} (hm : many = 2 ∨ many = 4) (hp : 1 ≤ p) (hp2 : p ≤ 9999) (hq : 1 ≤ q) (hq2 : q ≤ 9999) : ∀ (n dep : Nat) (used : Int) (row : Nat → Nat) (s : vTS), dep + n = many → (∀ j : Nat, j < dep → row j < W) → tOk tt W s → tOk tt W (enu W (wgh tt p q many) n dep used row s) ∧ s.2 ≤ (enu W (wgh tt p q many) n dep used row s).2 ∧ (enu W (wgh tt p q many) n dep used row s).2 ≤ s.2 + 10 ^ n := by
  intro n
  induction n with
  | zero =>
    intro dep used row s hd hr hs
    refine ⟨(wgh_ok ht hm (fun j hj => hr j (by omega)) hp hp2 hq hq2 hs).1, ?_⟩
    show s.2 ≤ (if tFar tt p q many row = 0 then s.2 + 1 else s.2) ∧ (if tFar tt p q many row = 0 then s.2 + 1 else s.2) ≤ s.2 + 10 ^ 0
    split <;> omega
  | succ n ih =>
    intro dep used row s hd hr hs
    rw [enu_s]
    have e10 : (10 : Int) ^ (n + 1) = 10 ^ n * 10 := Int.pow_succ _ _
    have p10 : (0 : Int) ≤ 10 ^ n := Int.pow_nonneg (by omega)
    have L : ∀ w : Nat, w ≤ W → tOk tt W (enL (enB W (wgh tt p q many) n dep used row) w s) ∧ s.2 ≤ (enL (enB W (wgh tt p q many) n dep used row) w s).2 ∧ (enL (enB W (wgh tt p q many) n dep used row) w s).2 ≤ s.2 + (w : Int) * 10 ^ n := by
      intro w
      induction w with
      | zero => intro _; refine ⟨hs, Int.le_refl _, ?_⟩; show s.2 ≤ s.2 + ((0 : Nat) : Int) * 10 ^ n; omega
      | succ w ihw =>
        intro hw
        obtain ⟨i1, i2, i3⟩ := ihw (by omega)
        have ew : ((w + 1 : Nat) : Int) * 10 ^ n = (w : Int) * 10 ^ n + 10 ^ n := by rw [show ((w + 1 : Nat) : Int) = (w : Int) + 1 by omega, Int.add_mul, Int.one_mul]
        show tOk tt W (enB W (wgh tt p q many) n dep used row w (enL (enB W (wgh tt p q many) n dep used row) w s)) ∧ s.2 ≤ (enB W (wgh tt p q many) n dep used row w (enL (enB W (wgh tt p q many) n dep used row) w s)).2 ∧ (enB W (wgh tt p q many) n dep used row w (enL (enB W (wgh tt p q many) n dep used row) w s)).2 ≤ s.2 + ((w + 1 : Nat) : Int) * 10 ^ n
        unfold enB
        by_cases hb : bt used w = false
        · simp only [if_pos hb]
          obtain ⟨k1, k2, k3⟩ := ih (dep + 1) (por used (pshl 1 (w : Int))) (nUpd row dep w) (enL (enB W (wgh tt p q many) n dep used row) w s) (by omega) (nUpd_lt hr (by omega)) i1
          unfold enB at k1 k2 k3 i2 i3
          refine ⟨k1, by omega, by omega⟩
        · simp only [if_neg hb]
          unfold enB at i1 i2 i3
          exact ⟨i1, i2, by omega⟩
    obtain ⟨l1, l2, l3⟩ := L W (Nat.le_refl _)
    have : (W : Int) * 10 ^ n ≤ 10 * 10 ^ n := Int.mul_le_mul_of_nonneg_right (by omega) p10
    exact ⟨l1, l2, by omega⟩
theorem enL_ok {tt : Nat → Int} {W : Nat} (hW : W ≤ 10) (ht : ∀ i : Nat, i < W → 10 ≤ tt i ∧ tt i ≤ 200) {p q : Int} {many : Nat} (hm : many = 2 ∨ many = 4) (hp : 1 ≤ p) (hp2 : p ≤ 9999) (hq : 1 ≤ q) (hq2 : q ≤ 9999) {n dep : Nat} {used : Int} {row : Nat → Nat} {s : vTS} (hd : dep + (n + 1) = many) (hr : ∀ j : Nat, j < dep → row j < W) (hs : tOk tt W s) : ∀ w : Nat, w ≤ W → tOk tt W (enL (enB W (wgh tt p q many) n dep used row) w s) ∧ s.2 ≤ (enL (enB W (wgh tt p q many) n dep used row) w s).2 ∧ (enL (enB W (wgh tt p q many) n dep used row) w s).2 ≤ s.2 + (w : Int) * 10 ^ n := by
  intro w
  induction w with
  | zero => intro _; refine ⟨hs, Int.le_refl _, ?_⟩; show s.2 ≤ s.2 + ((0 : Nat) : Int) * 10 ^ n; omega
  | succ w ihw =>
    intro hw
    obtain ⟨i1, i2, i3⟩ := ihw (by omega)
    have p10 : (0 : Int) ≤ 10 ^ n := Int.pow_nonneg (by omega)
    have ew : ((w + 1 : Nat) : Int) * 10 ^ n = (w : Int) * 10 ^ n + 10 ^ n := by rw [show ((w + 1 : Nat) : Int) = (w : Int) + 1 by omega, Int.add_mul, Int.one_mul]
    have sw : enL (enB W (wgh tt p q many) n dep used row) (w + 1) s = if bt used w = false then enu W (wgh tt p q many) n (dep + 1) (por used (pshl 1 (w : Int))) (nUpd row dep w) (enL (enB W (wgh tt p q many) n dep used row) w s) else enL (enB W (wgh tt p q many) n dep used row) w s := rfl
    rw [sw]
    by_cases hb : bt used w = false
    · rw [if_pos hb]
      obtain ⟨k1, k2, k3⟩ := enu_ok hW ht hm hp hp2 hq hq2 n (dep + 1) (por used (pshl 1 (w : Int))) (nUpd row dep w) (enL (enB W (wgh tt p q many) n dep used row) w s) (by omega) (nUpd_lt hr (by omega)) i1
      exact ⟨k1, by omega, by omega⟩
    · rw [if_neg hb]
      exact ⟨i1, i2, by omega⟩
theorem s114 {G0 : pG} {W : Nat} {tt : Nat → Int} (ht : ∀ i : Nat, i < W → 10 ≤ tt i ∧ tt i ≤ 200) {p q : Int} {many : Nat} (hm : many = 2 ∨ many = 4) (hp : 1 ≤ p) (hp2 : p ≤ 9999) (hq : 1 ≤ q) (hq2 : q ≤ 9999) (hE : enC G0 W tt p q) : ∀ (n dep : Nat) (used : Int) (row : Nat → Nat) (s : vTS) (G : pG) (d : Nat), dep + n = many → n + 2 ≤ d → fr [73, 78, 79] [] G0 G → fr73 G0 G → 0 ≤ used → used < 1024 → (∀ j : Nat, j < dep → row j < W) → (∀ j : Nat, j < dep → G 78 j = (row j : Int)) → tOk tt W s → stC G s → 0 ≤ s.2 → s.2 + 10 ^ n ≤ 20000 → ∃ G', pRuns pMT d 114 [pR 73, pI (many : Int), pI (dep : Int), pI used] Yc G none G' ∧ (fr [73, 78, 79] [] G0 G' ∧ fr73 G0 G' ∧ stC G' (enu W (wgh tt p q many) n dep used row s) ∧ ∀ j : Nat, j < dep → G' 78 j = G 78 j) := by
  have hW := hE.1
  intro n
  induction n with
  | zero =>
    intro dep used row s G d hdn hd f1 f2 hu0 hu hr h78 hs hst hx0 hx1
    obtain rfl : dep = many := by omega
    have hEg : enC G W tt p q := hE.mv (f1.c 74 (by decide)) f2
    obtain ⟨A, a1, a2, a3, a4⟩ := s115 (d := d - 1) ht hm hr hp hp2 hq hq2 hEg h78 hs hst hx0 (by omega)
    refine pX0 rfl rfl (v114_0 ⟨fun _ => pC0.of (by omega) a1 ⟨rfl, f1.trans (a2.mono (by decide) (by decide)), fun j j1 j2 j3 j4 => (a3 j j1 j2 j3 j4).trans (f2 j j1 j2 j3 j4), a4, fun j hj => by rw [a2.c 78 (by decide)]⟩, fun z => by omega⟩)
  | succ n ih =>
    intro dep used row s G d hdn hd f1 f2 hu0 hu hr h78 hs hst hx0 hx1
    have e10 : (10 : Int) ^ (n + 1) = 10 ^ n * 10 := Int.pow_succ _ _
    have p10 : (0 : Int) ≤ 10 ^ n := Int.pow_nonneg (by omega)
    rw [enu_s]
    refine pX0 rfl rfl (v114_0 ⟨fun z => by omega, fun _ => ⟨fun _ => ?_, fun z => by omega⟩⟩)
    rintro _ rfl
    have LP : ∀ (m w : Nat) (g : pG), w + m = W → fr [73, 78, 79] [] G0 g → fr73 G0 g → (∀ j : Nat, j < dep → g 78 j = (row j : Int)) → stC g (enL (enB W (wgh tt p q many) n dep used row) w s) → pEnds pMT d 114 Yc (fun r g => r = none ∧ (fr [73, 78, 79] [] G0 g ∧ fr73 G0 g ∧ stC g (enL (enB W (wgh tt p q many) n dep used row) W s) ∧ ∀ j : Nat, j < dep → g 78 j = G 78 j)) 19 [pR 73, pI (many : Int), pI (dep : Int), pI used, pI (w : Int)] [] g := by
      intro m
      induction m with
      | zero =>
        intro w g hw k1 k2 k3 k4
        obtain rfl : w = W := by omega
        refine v114_19 ⟨fun _ => ⟨rfl, k1, k2, k4, fun j hj => by rw [k3 j hj, h78 j hj]⟩, fun z => ?_⟩
        rw [k2 1 (by omega) (by omega) (by omega) (by omega), hE.2.1] at z
        omega
      | succ m ihm =>
        intro w g hw k1 k2 k3 k4
        have e1 : w32 ((w : Int) + 1) = ((w + 1 : Nat) : Int) := by rw [w32_id (by omega) (by omega)]; rfl
        have e2 : w32 ((dep : Int) + 1) = ((dep + 1 : Nat) : Int) := by rw [w32_id (by omega) (by omega)]; rfl
        have sw : enL (enB W (wgh tt p q many) n dep used row) (w + 1) s = if bt used w = false then enu W (wgh tt p q many) n (dep + 1) (por used (pshl 1 (w : Int))) (nUpd row dep w) (enL (enB W (wgh tt p q many) n dep used row) w s) else enL (enB W (wgh tt p q many) n dep used row) w s := rfl
        obtain ⟨l1, l2, l3⟩ := enL_ok hW ht hm hp hp2 hq hq2 (used := used) hdn hr hs w (by omega)
        have l4 : (w : Int) * 10 ^ n ≤ 9 * 10 ^ n := Int.mul_le_mul_of_nonneg_right (by omega) p10
        refine v114_19 ⟨fun z => ?_, fun _ => ?_⟩
        · rw [k2 1 (by omega) (by omega) (by omega) (by omega), hE.2.1] at z
          omega
        · rw [e1, e2]
          refine pC1.of (by omega) (s119i hu0 (by omega) (by omega)) ⟨fun z => ?_, fun z => ⟨by omega, by omega, ?_⟩⟩
          · have z := b2i_n0.mp z
            rintro _ rfl
            exact ihm (w + 1) g (by omega) k1 k2 k3 (by rw [sw, if_neg (by rw [z]; decide)]; exact k4)
          · have z := Bool.eq_false_iff.mpr (b2i_0.mp z)
            obtain ⟨u1, u2, u3, u4⟩ := por_set hu0 (show used < 2147483648 by omega) (show w < 31 by omega)
            have u5 := u4 10 (by omega) (by omega) (by omega)
            rw [Int.toNat_natCast]
            have F2 : fr [73, 78, 79] [] g (pset g 78 dep (w : Int)) := fr.set (by decide) (by decide) _ _ _
            refine pC0.ox (by omega) (ih (dep + 1) _ (nUpd row dep w) (enL (enB W (wgh tt p q many) n dep used row) w s) (pset g 78 dep (w : Int)) (d - 1) (by omega) (by omega) (k1.trans F2) (fun j j1 j2 j3 j4 => by rw [pset_cl _ _ (by decide)]; exact k2 j j1 j2 j3 j4) u1 (by omega) (nUpd_lt hr (by omega)) (fun j hj => ?_) l1 (by unfold stC at *; rw [pset_cl _ _ (by decide), pset_cl _ _ (by decide)]; exact k4) (by omega) (by omega)) (fun A hA => ?_)
            · unfold nUpd
              by_cases e : j = dep
              · rw [if_pos e, e, pset_eq]
              · rw [if_neg e, pset_ne _ _ e]; exact k3 j (by omega)
            · rintro _ rfl
              exact ihm (w + 1) A (by omega) hA.1 hA.2.1 (fun j hj => by rw [hA.2.2.2 j (by omega), pset_ne _ _ (by omega)]; exact k3 j hj) (by rw [sw, if_pos z]; exact hA.2.2.1)
    exact LP W 0 G (by omega) f1 f2 h78 hst
/-- the state in the reference's memory -/
def stR (tt : Nat → Int) (p q : Int) (G : pG) (s : vTS) : Prop := (s.1.1 = 0 → G 109 59 = 0) ∧ (s.1.1 ≠ 0 → G 109 50 = s.1.1 ∧ G 109 58 = s.1.2.1 ∧ G 109 59 = s.1.2.2.1 ∧ G 109 56 = tMis tt p q s.1.1.toNat s.1.2.2.2 ∧ G 109 57 = s.1.2.2.1 * q ∧ ∀ j : Nat, (j : Int) < s.1.1 → G 162 j = (s.1.2.2.2 j : Int) ∧ G 163 j = tt (s.1.2.2.2 j))
def enR (G : pG) (W : Nat) (tt : Nat → Int) : Prop := W ≤ 10 ∧ G 109 49 = (W : Int) ∧ ∀ i : Nat, i < W → G 160 i = tt i
theorem s231 {d : Nat} {G : pG} {W : Nat} {tt : Nat → Int} (ht : ∀ i : Nat, i < W → 10 ≤ tt i ∧ tt i ≤ 200) {p q : Int} {many : Nat} {row : Nat → Nat} (hm : many = 2 ∨ many = 4) (hr : ∀ j : Nat, j < many → row j < W) (hp : 1 ≤ p) (hp2 : p ≤ 9999) (hq : 1 ≤ q) (hq2 : q ≤ 9999) {s : vTS} (hE : enR G W tt) (h164 : ∀ j : Nat, j < many → G 164 j = (row j : Int)) (hs : tOk tt W s) (hst : stR tt p q G s) : ∃ G', pRuns pMT d 231 [pR 109, pI (many : Int), pI p, pI q] Yc G none G' ∧ (fr [162, 163] [50, 56, 57, 58, 59] G G' ∧ stR tt p q G' (wgh tt p q many row s)) := by
  obtain ⟨b1, b2, b3, b4⟩ := t_bd ht hm hr
  have fb := tFar_bd b1 b2 b3 b4 hp hp2 hq hq2
  obtain ⟨e1, e2, e3, e4, e5⟩ := far_bd b1 b2 b3 b4 hp hp2 hq hq2
  obtain ⟨W10, E1, E2⟩ := hE
  obtain ⟨S0, S1⟩ := hst
  have r0 := hr 0 (by omega)
  have r1 := hr 1 (by omega)
  have q0' := h164 0 (by omega)
  have q1' := h164 1 (by omega)
  have L160 : (s.1.1 = 0 ∨ tFar tt p q many row * s.1.2.2.1 < s.1.2.1 * tLo tt many row) → ∀ (n i : Nat) (g : pG), i + n = many → fr [162, 163] [50, 56, 57, 58, 59] G g → g 109 50 = (many : Int) → g 109 58 = tFar tt p q many row → g 109 59 = tLo tt many row → g 109 56 = tMis tt p q many row → g 109 57 = tLo tt many row * q → (∀ j : Nat, j < i → g 162 j = (row j : Int) ∧ g 163 j = tt (row j)) → pEnds pMT d 231 Yc (fun r g => r = none ∧ (fr [162, 163] [50, 56, 57, 58, 59] G g ∧ stR tt p q g (wgh tt p q many row s))) 160 [pR 109, pI (many : Int), pU, pU, pU, pU, pU, pU, pU, pU, pU, pU, pI (i : Int)] [] g := by
    intro hc n
    have ew : (wgh tt p q many row s).1 = ((many : Int), tFar tt p q many row, tLo tt many row, row) := by unfold wgh; simp only [if_pos hc]
    induction n with
    | zero =>
      intro i g hi f1 k1 k2 k3 k4 k5 k6
      obtain rfl : i = many := by omega
      refine v231_160 ⟨fun _ => ⟨rfl, f1, ?_⟩, fun z => by omega⟩
      unfold stR
      rw [ew]
      refine ⟨fun z => ?_, fun _ => ⟨k1, k2, k3, by rw [Int.toNat_natCast]; exact k4, k5, fun j hj => k6 j (by simp at hj; omega)⟩⟩
      simp at z
      omega
    | succ n ih =>
      intro i g hi f1 k1 k2 k3 k4 k5 k6
      have ri := hr i (by omega)
      refine v231_160 ⟨fun z => by omega, fun _ => ?_⟩
      rw [Int.toNat_natCast, pset_cl (b := 164) _ _ (by decide), pset_cl (b := 160) _ _ (by decide), f1.c 164 (by decide), h164 i (by omega), Int.toNat_natCast, f1.c 160 (by decide), E2 _ ri, w32_id (by omega) (by omega)]
      refine ⟨by omega, by omega, by omega, by omega, by omega, by omega, by omega, by omega, by omega, by omega, ?_⟩
      rintro _ rfl
      refine ih (i + 1) _ (by omega) (f1.trans ((fr.set (by decide) (by decide) _ _ _).trans (fr.set (by decide) (by decide) _ _ _))) (by rw [pset_cl _ _ (by decide), pset_cl _ _ (by decide)]; exact k1) (by rw [pset_cl _ _ (by decide), pset_cl _ _ (by decide)]; exact k2) (by rw [pset_cl _ _ (by decide), pset_cl _ _ (by decide)]; exact k3) (by rw [pset_cl _ _ (by decide), pset_cl _ _ (by decide)]; exact k4) (by rw [pset_cl _ _ (by decide), pset_cl _ _ (by decide)]; exact k5) (fun j hj => ?_)
      by_cases e : j = i
      · subst e
        rw [pset_cl (b := 162) _ _ (by decide), pset_eq, pset_eq]
        exact ⟨rfl, rfl⟩
      · rw [pset_cl (b := 162) _ _ (by decide), pset_ne _ _ e, pset_ne _ _ e, pset_cl (b := 163) _ _ (by decide)]
        exact k6 j (by omega)
  have L125 : (s.1.1 = 0 ∨ tFar tt p q many row * s.1.2.2.1 < s.1.2.1 * tLo tt many row) → pEnds pMT d 231 Yc (fun r g => r = none ∧ (fr [162, 163] [50, 56, 57, 58, 59] G g ∧ stR tt p q g (wgh tt p q many row s))) 125 [pR 109, pI (many : Int), pU, pI q, pU, pU, pL (tLo tt many row), pU, pL (tMis tt p q many row), pU, pL (tFar tt p q many row), pU, pU] [] G := by
    intro hc
    refine v231_125 ?_
    rw [w64_id (by omega) (by omega)]
    rintro _ rfl
    refine L160 hc many 0 _ (by omega) ((fr.setF (by decide) _ _).trans ((fr.setF (by decide) _ _).trans ((fr.setF (by decide) _ _).trans ((fr.setF (by decide) _ _).trans (fr.setF (by decide) _ _))))) ?_ ?_ ?_ ?_ ?_ (fun j hj => by omega)
    all_goals simp [pset_at]
  have L67 : pEnds pMT d 231 Yc (fun r g => r = none ∧ (fr [162, 163] [50, 56, 57, 58, 59] G g ∧ stR tt p q g (wgh tt p q many row s))) 67 [pR 109, pI (many : Int), pI p, pI q, pL (tUp tt many row), pU, pL (tLo tt many row), pU, pU, pU, pU, pU, pU] [] G := by
    refine v231_67 ?_
    rw [e1, show tUp tt many row * q - p * tLo tt many row = tMis tt p q many row from rfl]
    rw [show tUp tt many row * q - p * tLo tt many row = tMis tt p q many row from rfl] at e2 e3
    rintro _ rfl
    rw [w64_id (x := -tMis tt p q many row) (by omega) (by omega)]
    have body : ∀ x10 : Int, x10 = tFar tt p q many row → (((plcmp (G 109 59) 0) = 0 → pEnds pMT d 231 Yc (fun r g => r = none ∧ (fr [162, 163] [50, 56, 57, 58, 59] G g ∧ stR tt p q g (wgh tt p q many row s))) 125 [pR 109, pI (many : Int), pU, pI q, pU, pU, pL (tLo tt many row), pU, pL (tMis tt p q many row), pU, pL x10, pU, pU] [] G) ∧ (¬ (plcmp (G 109 59) 0) = 0 → (((plcmp (w64 (x10 * (G 109 59))) (w64 ((G 109 58) * tLo tt many row))) < 0 → pEnds pMT d 231 Yc (fun r g => r = none ∧ (fr [162, 163] [50, 56, 57, 58, 59] G g ∧ stR tt p q g (wgh tt p q many row s))) 125 [pR 109, pI (many : Int), pU, pI q, pU, pU, pL (tLo tt many row), pU, pL (tMis tt p q many row), pU, pL x10, pU, pU] [] G) ∧ (0 ≤ (plcmp (w64 (x10 * (G 109 59))) (w64 ((G 109 58) * tLo tt many row))) → (none : Option pV) = none ∧ (fr [162, 163] [50, 56, 57, 58, 59] G G ∧ stR tt p q G (wgh tt p q many row s)))))) := by
      rintro _ rfl
      rw [cmp_eq]
      rcases hs with hs | ⟨o1, o2, o3, o4, o5, o6, o7⟩
      · exact ⟨fun _ => L125 (Or.inl hs), fun z => absurd (S0 hs) z⟩
      · obtain ⟨k1, k2, k3, -⟩ := S1 (by omega)
        have m1 := mulb (A := 399960000) (B := 40000) fb.1 fb.2 (show 0 ≤ s.1.2.2.1 by omega) o5
        have m2 := mulb (A := 399960000) (B := 40000) o2 o3 (show 0 ≤ tLo tt many row by omega) b4
        rw [k2, k3, w64_id (x := tFar tt p q many row * s.1.2.2.1) (by omega) (by omega), w64_id (x := s.1.2.1 * tLo tt many row) (by omega) (by omega), cmp_ge, cmp_lt]
        refine ⟨fun z => by omega, fun _ => ⟨fun y => L125 (Or.inr y), fun y => ⟨rfl, fr.refl _ _ _, ?_⟩⟩⟩
        have ew : (wgh tt p q many row s).1 = s.1 := by unfold wgh; simp only [if_neg (show ¬ (s.1.1 = 0 ∨ tFar tt p q many row * s.1.2.2.1 < s.1.2.1 * tLo tt many row) by omega)]
        unfold stR
        rw [ew]
        exact ⟨S0, S1⟩
    rw [cmp_ge, cmp_lt]
    refine ⟨fun z x10 hx => body x10 ?_, fun z x10 hx => body x10 ?_⟩
    · rw [hx]; unfold tFar; rw [if_pos z]
    · rw [hx]; unfold tFar; rw [if_neg (by omega)]
  refine pX0 rfl rfl (v231_0 ?_)
  rw [show Int.toNat 0 = 0 from rfl, show Int.toNat 1 = 1 from rfl, show Int.toNat 2 = 2 from rfl, show Int.toNat 3 = 3 from rfl, q0', q1', Int.toNat_natCast, Int.toNat_natCast, E2 _ r0, E2 _ r1]
  refine ⟨by omega, by omega, by omega, by omega, ?_⟩
  rintro _ rfl
  refine ⟨by omega, by omega, by omega, by omega, ?_⟩
  rintro _ rfl
  refine ⟨fun z => ?_, fun z => ?_⟩
  · have hm2 : many = 2 := by omega
    have u1 : tUp tt many row = tt (row 0) := by unfold tUp; rw [if_neg (by omega)]
    have u2 : tLo tt many row = tt (row 1) := by unfold tLo; rw [if_neg (by omega)]
    rw [u1, u2] at L67
    exact L67
  · have hm4 : many = 4 := by omega
    have u1 : tUp tt many row = tt (row 0) * tt (row 2) := by unfold tUp; rw [if_pos hm4]
    have u2 : tLo tt many row = tt (row 1) * tt (row 3) := by unfold tLo; rw [if_pos hm4]
    have r2 := hr 2 (by omega)
    have r3 := hr 3 (by omega)
    rw [h164 2 (by omega), h164 3 (by omega), Int.toNat_natCast, Int.toNat_natCast, E2 _ r2, E2 _ r3]
    rw [u1, u2] at L67
    rw [u1] at b1 b2
    rw [u2] at b3 b4
    refine ⟨by omega, by omega, by omega, by omega, ?_⟩
    rw [w64_id (by omega) (by omega)]
    rintro _ rfl
    refine ⟨by omega, by omega, by omega, by omega, ?_⟩
    rw [w64_id (by omega) (by omega)]
    rintro _ rfl
    exact L67
theorem s232 {G0 : pG} {W : Nat} {tt : Nat → Int} (ht : ∀ i : Nat, i < W → 10 ≤ tt i ∧ tt i ≤ 200) {p q : Int} {many : Nat} (hm : many = 2 ∨ many = 4) (hp : 1 ≤ p) (hp2 : p ≤ 9999) (hq : 1 ≤ q) (hq2 : q ≤ 9999) (hE : enR G0 W tt) : ∀ (n dep : Nat) (used : Int) (row : Nat → Nat) (s : vTS) (G : pG) (d : Nat), dep + n = many → n + 2 ≤ d → fr [162, 163, 164] [50, 56, 57, 58, 59] G0 G → 0 ≤ used → used < 1024 → (∀ j : Nat, j < dep → row j < W) → (∀ j : Nat, j < dep → G 164 j = (row j : Int)) → tOk tt W s → stR tt p q G s → ∃ G', pRuns pMT d 232 [pR 109, pI (dep : Int), pI (many : Int), pI used, pI p, pI q] Yc G none G' ∧ (fr [162, 163, 164] [50, 56, 57, 58, 59] G0 G' ∧ stR tt p q G' (enu W (wgh tt p q many) n dep used row s) ∧ ∀ j : Nat, j < dep → G' 164 j = G 164 j) := by
  have hW := hE.1
  intro n
  induction n with
  | zero =>
    intro dep used row s G d hdn hd f1 hu0 hu hr h164 hs hst
    obtain rfl : dep = many := by omega
    have hEg : enR G W tt := ⟨hW, by rw [f1.f 49 (by decide)]; exact hE.2.1, by rw [f1.c 160 (by decide)]; exact hE.2.2⟩
    obtain ⟨A, a1, a2, a4⟩ := s231 (d := d - 1) ht hm hr hp hp2 hq hq2 hEg h164 hs hst
    refine pX0 rfl rfl (v232_0 ⟨fun z => absurd rfl z, fun _ => pC0.of (by omega) a1 ⟨rfl, f1.trans (a2.mono (by decide) (by decide)), a4, fun j hj => by rw [a2.c 164 (by decide)]⟩⟩)
  | succ n ih =>
    intro dep used row s G d hdn hd f1 hu0 hu hr h164 hs hst
    rw [enu_s]
    refine pX0 rfl rfl (v232_0 ⟨fun _ => ?_, fun z => by omega⟩)
    rintro _ rfl
    have LP : ∀ (m w : Nat) (g : pG), w + m = W → fr [162, 163, 164] [50, 56, 57, 58, 59] G0 g → (∀ j : Nat, j < dep → g 164 j = (row j : Int)) → stR tt p q g (enL (enB W (wgh tt p q many) n dep used row) w s) → pEnds pMT d 232 Yc (fun r g => r = none ∧ (fr [162, 163, 164] [50, 56, 57, 58, 59] G0 g ∧ stR tt p q g (enL (enB W (wgh tt p q many) n dep used row) W s) ∧ ∀ j : Nat, j < dep → g 164 j = G 164 j)) 18 [pR 109, pI (dep : Int), pI (many : Int), pI used, pI p, pI q, pI (w : Int)] [] g := by
      intro m
      induction m with
      | zero =>
        intro w g hw k1 k3 k4
        obtain rfl : w = W := by omega
        refine v232_18 ⟨fun _ => ⟨rfl, k1, k4, fun j hj => by rw [k3 j hj, h164 j hj]⟩, fun z => ?_⟩
        rw [k1.f 49 (by decide), hE.2.1] at z
        omega
      | succ m ihm =>
        intro w g hw k1 k3 k4
        have e1 : w32 ((w : Int) + 1) = ((w + 1 : Nat) : Int) := by rw [w32_id (by omega) (by omega)]; rfl
        have e2 : w32 ((dep : Int) + 1) = ((dep + 1 : Nat) : Int) := by rw [w32_id (by omega) (by omega)]; rfl
        have sw : enL (enB W (wgh tt p q many) n dep used row) (w + 1) s = if bt used w = false then enu W (wgh tt p q many) n (dep + 1) (por used (pshl 1 (w : Int))) (nUpd row dep w) (enL (enB W (wgh tt p q many) n dep used row) w s) else enL (enB W (wgh tt p q many) n dep used row) w s := rfl
        obtain ⟨l1, -, -⟩ := enL_ok hW ht hm hp hp2 hq hq2 (used := used) hdn hr hs w (by omega)
        refine v232_18 ⟨fun z => ?_, fun _ => ?_⟩
        · rw [k1.f 49 (by decide), hE.2.1] at z
          omega
        · rw [e1, e2, bit_i hu0 (by omega) (by omega)]
          refine ⟨fun z => ⟨by omega, by omega, ?_⟩, fun z => ?_⟩
          · have z : bt used w = false := Bool.eq_false_iff.mpr (fun y => z (b2i_t y))
            obtain ⟨u1, u2, u3, u4⟩ := por_set hu0 (show used < 2147483648 by omega) (show w < 31 by omega)
            have u5 := u4 10 (by omega) (by omega) (by omega)
            rw [Int.toNat_natCast]
            have F2 : fr [162, 163, 164] [50, 56, 57, 58, 59] g (pset g 164 dep (w : Int)) := fr.set (by decide) (by decide) _ _ _
            refine pC0.ox (by omega) (ih (dep + 1) _ (nUpd row dep w) (enL (enB W (wgh tt p q many) n dep used row) w s) (pset g 164 dep (w : Int)) (d - 1) (by omega) (by omega) (k1.trans F2) u1 (by omega) (nUpd_lt hr (by omega)) (fun j hj => ?_) l1 (by unfold stR at *; rw [pset_cl _ _ (by decide), pset_cl _ _ (by decide), pset_cl _ _ (by decide)]; exact k4)) (fun A hA => ?_)
            · unfold nUpd
              by_cases e : j = dep
              · rw [if_pos e, e, pset_eq]
              · rw [if_neg e, pset_ne _ _ e]; exact k3 j (by omega)
            · rintro _ rfl
              exact ihm (w + 1) A (by omega) hA.1 (fun j hj => by rw [hA.2.2 j (by omega), pset_ne _ _ (by omega)]; exact k3 j hj) (by rw [sw, if_pos z]; exact hA.2.1)
          · have z := b2i_1.mp z
            rintro _ rfl
            exact ihm (w + 1) g (by omega) k1 k3 (by rw [sw, if_neg (by rw [z]; decide)]; exact k4)
    exact LP W 0 G (by omega) f1 h164 hst
/-! the greatest common divisor -/
theorem rem_e {x y : Nat} (hx : x < 9223372036854775808) (hy : y < 9223372036854775808) (h : 0 < y) : plrem (x : Int) (y : Int) = ((x % y : Nat) : Int) := by
  rw [plrem_id (by omega) (by omega) (by omega) (by omega), Int.tmod_eq_emod_of_nonneg (by omega)]
  rfl
theorem gcd_step (x y : Nat) : Nat.gcd x y = Nat.gcd y (x % y) := by rw [Nat.gcd_comm, Nat.gcd_rec, Nat.gcd_comm]
theorem l230 {d : Nat} {G : pG} {R : Option pV → pG → Prop} : ∀ (n x y : Nat), y ≤ n → x < 9223372036854775808 → y < 9223372036854775808 → R (some (pL (Nat.gcd x y : Int))) G → pEnds pMT d 230 Yc R 17 [pU, pU, pU, pU, pL (x : Int), pU, pL (y : Int), pU, pU, pU] [] G := by
  intro n
  induction n with
  | zero =>
    intro x y hy hx hy2 hR
    obtain rfl : y = 0 := by omega
    rw [Nat.gcd_zero_right] at hR
    refine v230_17 ?_
    rw [cmp_eq]
    exact ⟨fun _ => hR, fun z => absurd rfl z⟩
  | succ n ih =>
    intro x y hy hx hy2 hR
    refine v230_17 ?_
    rw [cmp_eq]
    refine ⟨fun z => ?_, fun z => ⟨z, ?_⟩⟩
    · obtain rfl : y = 0 := by omega
      rw [Nat.gcd_zero_right] at hR
      exact hR
    · rw [rem_e hx hy2 (by omega)]
      rintro _ rfl _ rfl _ rfl
      have := Nat.mod_lt x (show y > 0 by omega)
      exact ih y (x % y) (by omega) hy2 (by omega) (by rw [← gcd_step]; exact hR)
theorem l111 {d : Nat} {G : pG} {R : Option pV → pG → Prop} : ∀ (m x y i : Nat), y < 2 ^ m → i + 2 * m + 1 ≤ 200 → x < 9223372036854775808 → y < 9223372036854775808 → 1 ≤ Nat.gcd x y → R (some (pL (Nat.gcd x y : Int))) G → pEnds pMT d 111 Yc R 9 [pU, pU, pU, pU, pL (x : Int), pU, pL (y : Int), pU, pI (i : Int), pU, pU] [] G := by
  have fin : ∀ (x i : Nat), i < 200 → 1 ≤ x → R (some (pL (x : Int))) G → pEnds pMT d 111 Yc R 9 [pU, pU, pU, pU, pL (x : Int), pU, pL 0, pU, pI (i : Int), pU, pU] [] G := by
    intro x i hi hx hR
    refine v111_9 ?_
    rw [cmp_eq]
    exact ⟨fun _ => hR, fun _ => ⟨fun _ => hR, fun z => absurd rfl z⟩⟩
  intro m
  induction m with
  | zero =>
    intro x y i hy hi hx hy2 hg hR
    obtain rfl : y = 0 := by omega
    rw [Nat.gcd_zero_right] at hR hg
    exact fin x i (by omega) hg hR
  | succ m ih =>
    intro x y i hy hi hx hy2 hg hR
    by_cases hy0 : y = 0
    · subst hy0
      rw [Nat.gcd_zero_right] at hR hg
      exact fin x i (by omega) hg hR
    · refine v111_9 ?_
      rw [cmp_eq, rem_e hx hy2 (by omega), w32_id (by omega) (by omega)]
      refine ⟨fun z => by omega, fun _ => ⟨fun z => by omega, fun z => ⟨z, ?_⟩⟩⟩
      rintro _ rfl _ rfl _ rfl _ rfl
      have hr := Nat.mod_lt x (show y > 0 by omega)
      generalize hq : x % y = r at *
      rw [gcd_step, hq] at hR hg
      by_cases hr0 : r = 0
      · subst hr0
        rw [Nat.gcd_zero_right] at hR hg
        exact fin y (i + 1) (by omega) hg hR
      · refine v111_9 ?_
        rw [cmp_eq, rem_e hy2 (by omega) (by omega), w32_id (by omega) (by omega)]
        refine ⟨fun z => by omega, fun _ => ⟨fun z => by omega, fun z => ⟨z, ?_⟩⟩⟩
        rintro _ rfl _ rfl _ rfl _ rfl
        have hr2 := Nat.mod_lt y (show r > 0 by omega)
        have hh : y % r < 2 ^ m := by
          have e2 : 2 ^ (m + 1) = 2 * 2 ^ m := by rw [Nat.pow_succ, Nat.mul_comm]
          have e3 := Nat.div_add_mod y r
          have e4 : 1 ≤ y / r := Nat.div_pos (by omega) (by omega)
          have e5 : r * 1 ≤ r * (y / r) := Nat.mul_le_mul_left r e4
          omega
        rw [gcd_step] at hR hg
        exact ih r (y % r) (i + 1 + 1) hh (by omega) (by omega) (by omega) hg hR
theorem wgh_nz (tt : Nat → Int) (p q : Int) {many : Nat} (hm : many ≠ 0) (row : Nat → Nat) (s : vTS) : (wgh tt p q many row s).1.1 ≠ 0 := by
  unfold wgh
  by_cases c : s.1.1 = 0 ∨ tFar tt p q many row * s.1.2.2.1 < s.1.2.1 * tLo tt many row
  · simp only [if_pos c]; omega
  · simp only [if_neg c]; exact fun z => c (Or.inl z)
theorem enL_nz {f : Nat → vTS → vTS} (hf : ∀ w s, s.1.1 ≠ 0 → (f w s).1.1 ≠ 0) : ∀ (W : Nat) (s : vTS), (s.1.1 ≠ 0 ∨ ∃ w, w < W ∧ ∀ s, (f w s).1.1 ≠ 0) → (enL f W s).1.1 ≠ 0 := by
  intro W
  induction W with
  | zero =>
    rintro s (h | ⟨w, h, -⟩)
    · exact h
    · omega
  | succ W ih =>
    rintro s (h | ⟨w, h, h2⟩)
    · exact hf _ _ (ih s (Or.inl h))
    · by_cases e : w = W
      · subst e; exact h2 _
      · exact hf _ _ (ih s (Or.inr ⟨w, by omega, h2⟩))
theorem enu_nz {W : Nat} {lf : (Nat → Nat) → vTS → vTS} (hl : ∀ row s, (lf row s).1.1 ≠ 0) : ∀ (n dep : Nat) (used : Int) (row : Nat → Nat) (s : vTS), s.1.1 ≠ 0 → (enu W lf n dep used row s).1.1 ≠ 0 := by
  intro n
  induction n with
  | zero => intro dep used row s _; exact hl row s
  | succ n ih =>
    intro dep used row s h
    rw [enu_s]
    refine enL_nz (fun w s hs => ?_) W s (Or.inl h)
    unfold enB
    split
    · exact ih _ _ _ _ hs
    · exact hs
theorem enB_nz {W : Nat} {lf : (Nat → Nat) → vTS → vTS} (hl : ∀ row s, (lf row s).1.1 ≠ 0) (n dep : Nat) (used : Int) (row : Nat → Nat) (w : Nat) (s : vTS) (hs : s.1.1 ≠ 0) : (enB W lf n dep used row w s).1.1 ≠ 0 := by
  unfold enB
  split
  · exact enu_nz hl _ _ _ _ _ hs
  · exact hs
theorem enL_id {f : Nat → vTS → vTS} : ∀ (W : Nat), (∀ w, w < W → ∀ s, f w s = s) → ∀ s, enL f W s = s := by
  intro W
  induction W with
  | zero => intro _ s; rfl
  | succ W ih =>
    intro h s
    show f W (enL f W s) = s
    rw [h W (by omega), ih (fun w hw => h w (by omega))]
/-- two wheels at hand: a train -/
theorem enu_yes {W : Nat} (hW : W ≤ 10) {lf : (Nat → Nat) → vTS → vTS} (hl : ∀ row s, (lf row s).1.1 ≠ 0) {used : Int} (hu0 : 0 ≤ used) (hu : used < 1024) {a b : Nat} (ha : a < W) (hb : b < W) (hab : a ≠ b) (h1 : bt used a = false) (h2 : bt used b = false) (row : Nat → Nat) (s : vTS) : (enu W lf 2 0 used row s).1.1 ≠ 0 := by
  rw [enu_s]
  refine enL_nz (enB_nz hl 1 0 used row) W s (Or.inr ⟨a, ha, fun s => ?_⟩)
  unfold enB
  rw [if_pos h1, enu_s]
  refine enL_nz (enB_nz hl 0 _ _ _) W s (Or.inr ⟨b, hb, fun s => ?_⟩)
  have hbb : bt (por used (pshl 1 (a : Int))) b = false := by
    rw [(por_set hu0 (by omega) (by omega)).2.2.1 b, h2, decide_eq_false (Ne.symm hab)]
    rfl
  unfold enB
  rw [if_pos hbb]
  exact hl _ _
/-- fewer: none -/
theorem enu_no {W : Nat} (hW : W ≤ 10) {lf : (Nat → Nat) → vTS → vTS} {used : Int} (hu0 : 0 ≤ used) (hu : used < 1024) (h : ∀ a b : Nat, a < W → b < W → bt used a = false → bt used b = false → a = b) (n dep : Nat) (row : Nat → Nat) (s : vTS) : enu W lf (n + 2) dep used row s = s := by
  rw [enu_s]
  refine enL_id W (fun a ha s => ?_) s
  unfold enB
  by_cases h1 : bt used a = false
  · rw [if_pos h1, enu_s]
    refine enL_id W (fun b hb s => ?_) s
    unfold enB
    rw [if_neg]
    rw [(por_set hu0 (by omega) (by omega)).2.2.1 b]
    intro z
    rw [Bool.or_eq_false_iff] at z
    exact of_decide_eq_false z.2 (h b a hb ha z.1 h1)
  · rw [if_neg h1]
/-- what is used at first -/
def tUs (x : Int) : Int := if x = -1 then 0 else pshl 1 x
theorem tUs_bd {W : Nat} (hW : W ≤ 10) {x : Int} (hx : x = -1 ∨ (0 ≤ x ∧ x ≤ (W : Int) - 1)) : 0 ≤ tUs x ∧ tUs x < 1024 ∧ ∀ j : Nat, bt (tUs x) j = decide ((j : Int) = x) := by
  unfold tUs
  by_cases h : x = -1
  · subst h
    rw [if_pos rfl]
    refine ⟨by omega, by omega, fun j => ?_⟩
    rw [decide_eq_false (by omega)]
    simp [bt]
  · rw [if_neg h]
    obtain ⟨k, rfl⟩ : ∃ k : Nat, x = (k : Int) := ⟨x.toNat, by omega⟩
    have h2 : (2 : Nat) ^ k ≤ 2 ^ 9 := Nat.pow_le_pow_right (by omega) (by omega)
    have h3 : ((2 ^ k : Nat) : Int) ≤ ((2 ^ 9 : Nat) : Int) := Int.ofNat_le.mpr h2
    rw [pshl_1 (by omega)]
    refine ⟨Int.natCast_nonneg _, Int.lt_of_le_of_lt h3 (by decide), fun j => ?_⟩
    unfold bt
    rw [Int.toNat_natCast, Nat.testBit_two_pow]
    by_cases e : j = k
    · subst e; simp
    · rw [decide_eq_false (Ne.symm e), decide_eq_false (by omega)]
def t0 : vTS := ((0, 0, 0, fun _ => 0), 0)
/-- what the search finds -/
def tFin (W : Nat) (tt : Nat → Int) (p q x : Int) : vTS := enu W (wgh tt p q 4) 4 0 (tUs x) (fun _ => 0) (enu W (wgh tt p q 2) 2 0 (tUs x) (fun _ => 0) t0)
theorem tFin_ok {tt : Nat → Int} {W : Nat} (hW : W ≤ 10) (ht : ∀ i : Nat, i < W → 10 ≤ tt i ∧ tt i ≤ 200) {p q : Int} (hp : 1 ≤ p) (hp2 : p ≤ 9999) (hq : 1 ≤ q) (hq2 : q ≤ 9999) (x : Int) : tOk tt W (enu W (wgh tt p q 2) 2 0 (tUs x) (fun _ => 0) t0) ∧ tOk tt W (tFin W tt p q x) ∧ 0 ≤ (enu W (wgh tt p q 2) 2 0 (tUs x) (fun _ => 0) t0).2 ∧ (enu W (wgh tt p q 2) 2 0 (tUs x) (fun _ => 0) t0).2 ≤ 100 := by
  obtain ⟨a1, a2, a3⟩ := enu_ok hW ht (Or.inl rfl) hp hp2 hq hq2 2 0 (tUs x) (fun _ => 0) t0 rfl (fun j hj => by omega) (Or.inl rfl)
  obtain ⟨b1, -, -⟩ := enu_ok hW ht (Or.inr rfl) hp hp2 hq hq2 4 0 (tUs x) (fun _ => 0) _ rfl (fun j hj => by omega) a1
  have e : t0.2 = 0 := rfl
  exact ⟨a1, b1, by omega, by omega⟩
def fr73' (G G' : pG) : Prop := ∀ j : Nat, j < 10 → G' 73 j = G 73 j
theorem s113 {d : Nat} {G : pG} {W : Nat} {tt : Nat → Int} (hW : W ≤ 10) (ht : ∀ i : Nat, i < W → 10 ≤ tt i ∧ tt i ≤ 200) (h1 : G 73 1 = (W : Int)) (h74 : ∀ i : Nat, i < W → G 74 i = tt i) {p q x : Int} (hp : 1 ≤ p) (hp2 : p ≤ 9999) (hq : 1 ≤ q) (hq2 : q ≤ 9999) (hx : x = -1 ∨ (0 ≤ x ∧ x ≤ (W : Int) - 1)) (hd : 7 ≤ d) : ∃ G', pRuns pMT d 113 [pR 73, pI p, pI q, pI x] Yc G none G' ∧ (fr [73, 78, 79] [] G G' ∧ fr73' G G' ∧ enC G' W tt p q ∧ stC G' (tFin W tt p q x)) := by
  obtain ⟨u0, u1, u2⟩ := tUs_bd hW hx
  obtain ⟨o1, o2, o3, o4⟩ := tFin_ok hW ht hp hp2 hq hq2 x
  have FA : fr [73, 78, 79] [] G (pset (pset (pset (pset G 73 14 p) 73 15 q) 73 10 0) 73 13 0) := (fr.set (by decide) (by decide) _ _ _).trans ((fr.set (by decide) (by decide) _ _ _).trans ((fr.set (by decide) (by decide) _ _ _).trans (fr.set (by decide) (by decide) _ _ _)))
  have f9 : fr73' G (pset (pset (pset (pset G 73 14 p) 73 15 q) 73 10 0) 73 13 0) := fun j hj => by rw [pset_ne _ _ (by omega), pset_ne _ _ (by omega), pset_ne _ _ (by omega), pset_ne _ _ (by omega)]
  have hE : enC (pset (pset (pset (pset G 73 14 p) 73 15 q) 73 10 0) 73 13 0) W tt p q := ⟨hW, by rw [f9 1 (by omega)]; exact h1, by rw [FA.c 74 (by decide)] <;> exact h74, by simp [pset_at], by simp [pset_at]⟩
  have hst : stC (pset (pset (pset (pset G 73 14 p) 73 15 q) 73 10 0) 73 13 0) t0 := ⟨by simp [pset_at, t0], by simp [pset_at, t0], fun z => absurd rfl z⟩
  have tail : ∀ A : pG, fr [73, 78, 79] [] G A → fr73' G A → enC A W tt p q → stC A t0 → pC0 pMT d 114 [pR 73, pI 2, pI 0, pI (tUs x)] Yc A (fun G_2 => pC0 pMT d 114 [pR 73, pI 4, pI 0, pI (tUs x)] Yc G_2 (fun g => (none : Option pV) = none ∧ (fr [73, 78, 79] [] G g ∧ fr73' G g ∧ enC g W tt p q ∧ stC g (tFin W tt p q x)))) := by
    intro A FA f9 hE hst
    refine pC0.ox (by omega) (s114 ht (Or.inl rfl) hp hp2 hq hq2 hE 2 0 (tUs x) (fun _ => 0) t0 A (d - 1) rfl (by omega) (fr.refl _ _ _) (fun _ _ _ _ _ => rfl) u0 u1 (fun j hj => by omega) (fun j hj => by omega) (Or.inl rfl) hst (by decide) (by decide)) (fun B hB => ?_)
    have hEB : enC B W tt p q := hE.mv (hB.1.c 74 (by decide)) hB.2.1
    refine pC0.ox (by omega) (s114 ht (Or.inr rfl) hp hp2 hq hq2 hEB 4 0 (tUs x) (fun _ => 0) _ B (d - 1) rfl (by omega) (fr.refl _ _ _) (fun _ _ _ _ _ => rfl) u0 u1 (fun j hj => by omega) (fun j hj => by omega) o1 hB.2.2.1 o3 (by omega)) (fun C hC => ?_)
    exact ⟨rfl, FA.trans (hB.1.trans hC.1), fun j hj => by rw [hC.2.1 j (by omega) (by omega) (by omega) (by omega), hB.2.1 j (by omega) (by omega) (by omega) (by omega), f9 j hj], hEB.mv (hC.1.c 74 (by decide)) hC.2.1, hC.2.2.1⟩
  have T := tail _ FA f9 hE hst
  refine pX0 rfl rfl (v113_0 ⟨fun z => ?_, fun z => ?_⟩)
  · rintro x4 hx4
    rw [show x4 = tUs x by rw [hx4]; unfold tUs; rw [if_neg z]]
    exact T
  · rintro x4 hx4
    rw [show x4 = tUs x by rw [hx4]; unfold tUs; rw [if_pos z]]
    exact T
/-- the train's teeth, 1 where there is none -/
def tTe (tt : Nat → Int) (s : vTS) (j : Nat) : Int := if (j : Int) < s.1.1 then tt (s.1.2.2.2 j) else 1
def tG (tt : Nat → Int) (p q : Int) (s : vTS) : Nat := Nat.gcd (tMis tt p q s.1.1.toNat s.1.2.2.2).natAbs (tLo tt s.1.1.toNat s.1.2.2.2 * q).natAbs
theorem s110 {d : Nat} {G : pG} {W : Nat} {tt : Nat → Int} (ht : ∀ i : Nat, i < W → 10 ≤ tt i ∧ tt i ≤ 200) {p q : Int} (hp : 1 ≤ p) (hp2 : p ≤ 9999) (hq : 1 ≤ q) (hq2 : q ≤ 9999) {s : vTS} (hs : tOk tt W s) (hz : s.1.1 ≠ 0) (h14 : G 73 14 = p) (h15 : G 73 15 = q) (h77 : ∀ j : Nat, j < 4 → G 77 j = tTe tt s j) (hd : 1 ≤ d) : pRuns pMT d 110 [pR 73] Yc G none (pset (pset G 73 6 ((tMis tt p q s.1.1.toNat s.1.2.2.2).tdiv (tG tt p q s))) 73 7 ((tLo tt s.1.1.toNat s.1.2.2.2 * q).tdiv (tG tt p q s))) := by
  rcases hs with hs | ⟨o1, o2, o3, o4, o5, o6, o7⟩
  · exact absurd hs hz
  have hm : s.1.1.toNat = 2 ∨ s.1.1.toNat = 4 := by omega
  obtain ⟨b1, b2, b3, b4⟩ := t_bd ht hm (fun j hj => o6 j (by omega))
  obtain ⟨e1, e2, e3, e4, e5⟩ := far_bd b1 b2 b3 b4 hp hp2 hq hq2
  have u : G 77 0 * G 77 2 = tUp tt s.1.1.toNat s.1.2.2.2 ∧ G 77 1 * G 77 3 = tLo tt s.1.1.toNat s.1.2.2.2 := by
    rw [h77 0 (by omega), h77 1 (by omega), h77 2 (by omega), h77 3 (by omega)]
    rcases o1 with o1 | o1
    · simp [tTe, tUp, tLo, o1]
    · simp [tTe, tUp, tLo, o1]
  have g1 : 1 ≤ tG tt p q s := Nat.gcd_pos_of_pos_right _ (by omega)
  have gle : tG tt p q s ≤ (tLo tt s.1.1.toNat s.1.2.2.2 * q).natAbs := Nat.gcd_le_right _ (by omega)
  refine pRuns.of rfl rfl (v110_0 ?_)
  rw [show Int.toNat 0 = 0 from rfl, show Int.toNat 1 = 1 from rfl, show Int.toNat 2 = 2 from rfl, show Int.toNat 3 = 3 from rfl, u.1, u.2, h14, h15, w64_id (x := tUp tt s.1.1.toNat s.1.2.2.2) (by omega) (by omega), w64_id (x := tLo tt s.1.1.toNat s.1.2.2.2) (by omega) (by omega)]
  refine ⟨by omega, by omega, by omega, by omega, ?_⟩
  rintro _ rfl
  refine ⟨by omega, by omega, by omega, by omega, ?_⟩
  rintro _ rfl
  rw [e1, show tUp tt s.1.1.toNat s.1.2.2.2 * q - p * tLo tt s.1.1.toNat s.1.2.2.2 = tMis tt p q s.1.1.toNat s.1.2.2.2 from rfl]
  rw [show tUp tt s.1.1.toNat s.1.2.2.2 * q - p * tLo tt s.1.1.toNat s.1.2.2.2 = tMis tt p q s.1.1.toNat s.1.2.2.2 from rfl] at e2 e3
  unfold tG at g1 gle ⊢
  generalize tMis tt p q s.1.1.toNat s.1.2.2.2 = M at *
  generalize tLo tt s.1.1.toNat s.1.2.2.2 = L at *
  intro x5 hx5
  rw [hx5]
  have ea : (if 0 < M then M else w64 (-M)) = (M.natAbs : Int) := by
    rw [w64_id (by omega) (by omega)]
    split <;> omega
  have eb : w64 (L * q) = ((L * q).natAbs : Int) := by rw [w64_id (by omega) (by omega)]; omega
  have c111 : pRuns pMT (d - 1) 111 [pL (M.natAbs : Int), pL ((L * q).natAbs : Int)] Yc G (some (pL (Nat.gcd M.natAbs (L * q).natAbs : Int))) G := by
    refine pRuns.of rfl rfl (v111_0 ?_)
    rintro _ rfl _ rfl _ rfl
    exact l111 29 _ _ 0 (by omega) (by omega) (by omega) (by omega) g1 ⟨rfl, rfl⟩
  rw [ea, eb]
  refine pC2.of hd c111 ?_
  intro x7 hx7
  rw [pmx_eq] at hx7
  obtain rfl : x7 = (Nat.gcd M.natAbs (L * q).natAbs : Int) := by omega
  refine ⟨by omega, by omega, rfl, ?_⟩
  rw [pset_ne _ _ (by decide), h15, w64_id (by omega) (by omega), pldiv_id (by omega) (by omega) (by omega) (by omega), pldiv_id (by omega) (by omega) (by omega) (by omega)]
theorem l109 {d : Nat} {G : pG} {W : Nat} {tt : Nat → Int} (hW : W ≤ 10) (h74 : ∀ i : Nat, i < W → G 74 i = tt i) {s : vTS} (hs : tOk tt W s) (hz : s.1.1 ≠ 0) (h10 : G 73 10 = s.1.1) (h79 : ∀ j : Nat, (j : Int) < s.1.1 → G 79 j = (s.1.2.2.2 j : Int)) {R : Option pV → pG → Prop} (hR : ∀ g, fr [76, 77] [] G g → (∀ j : Nat, (j : Int) < s.1.1 → g 76 j = (s.1.2.2.2 j : Int)) → (∀ j : Nat, j < 4 → g 77 j = tTe tt s j) → pC0 pMT d 110 [pR 73] Yc g (fun G_2 => R (some (pI (G_2 73 5))) G_2)) : pEnds pMT d 109 Yc R 27 [pR 73, pU, pU, pU, pI 0, pU] [] G := by
  rcases hs with hs | ⟨o1, o2, o3, o4, o5, o6, o7⟩
  · exact absurd hs hz
  have H : ∀ (n i : Nat) (g : pG), i + n = 4 → fr [76, 77] [] G g → (∀ j : Nat, j < i → (j : Int) < s.1.1 → g 76 j = (s.1.2.2.2 j : Int)) → (∀ j : Nat, j < i → g 77 j = tTe tt s j) → pEnds pMT d 109 Yc R 27 [pR 73, pU, pU, pU, pI (i : Int), pU] [] g := by
    intro n
    induction n with
    | zero =>
      intro i g hi f1 f2 f3
      obtain rfl : i = 4 := by omega
      exact v109_27 ⟨fun _ => hR g f1 (fun j hj => f2 j (by omega) hj) f3, fun z => by omega⟩
    | succ n ih =>
      intro i g hi f1 f2 f3
      have nx : ∀ (a b : Int), ((i : Int) < s.1.1 → a = (s.1.2.2.2 i : Int)) → b = tTe tt s i → pEnds pMT d 109 Yc R 27 [pR 73, pU, pU, pU, pI ((i + 1 : Nat) : Int), pU] [] (pset (pset g 76 i a) 77 i b) := by
        intro a b ha hb
        refine ih (i + 1) _ (by omega) (f1.trans ((fr.set (by decide) (by decide) _ _ _).trans (fr.set (by decide) (by decide) _ _ _))) (fun j hj hj2 => ?_) (fun j hj => ?_)
        · rw [pset_cl _ _ (by decide)]
          by_cases e : j = i
          · subst e; rw [pset_eq]; exact ha hj2
          · rw [pset_ne _ _ e]; exact f2 j (by omega) hj2
        · by_cases e : j = i
          · subst e; rw [pset_eq]; exact hb
          · rw [pset_ne _ _ e, pset_cl _ _ (by decide)]; exact f3 j (by omega)
      refine v109_27 ⟨fun z => by omega, fun _ => ?_⟩
      rw [f1.c 73 (by decide), h10, w32_id (by omega) (by omega), Int.toNat_natCast]
      refine ⟨fun z => ?_, fun z => ?_⟩
      · rintro _ rfl
        refine ⟨fun _ => ⟨by omega, by omega, fun _ => ⟨by omega, by omega, ?_⟩, fun y => absurd rfl y⟩, fun y => absurd rfl y⟩
        rintro _ rfl
        exact nx (-1) 1 (fun y => by omega) (by unfold tTe; rw [if_neg (by omega)])
      · rintro _ rfl
        refine ⟨fun y => by omega, fun _ => ⟨by omega, by omega, by omega, by omega, fun y => by omega, fun _ => ?_⟩⟩
        have o7 := o6 i z
        rw [pset_cl (b := 79) _ _ (by decide), pset_cl (b := 74) _ _ (by decide), f1.c 79 (by decide), h79 i z, Int.toNat_natCast, f1.c 74 (by decide), h74 _ o7]
        refine ⟨by omega, by omega, by omega, by omega, by omega, by omega, ?_⟩
        rintro _ rfl
        exact nx _ _ (fun _ => rfl) (by unfold tTe; rw [if_pos z])
  exact H 4 0 G rfl (fr.refl _ _ _) (fun j hj => by omega) (fun j hj => by omega)
theorem s150 {d : Nat} {G : pG} {p q : Int} (hd : 1 ≤ d) : pRuns pMT d 150 [pI p, pI q] Yc G (some (pI (b2i ((1 ≤ p ∧ p ≤ 9999) ∧ 1 ≤ q ∧ q ≤ 9999)))) G := by
  refine pRuns.of rfl rfl (v150_0 (pC1.of hd s118 ⟨fun h => ⟨Or.inl rfl, q0 (fun z => b2i_0.mp h z.1), rfl⟩, fun h => pC1.of hd s118 ⟨fun h2 => ⟨Or.inl rfl, q0 (fun z => b2i_0.mp h2 z.2), rfl⟩, fun h2 => ⟨Or.inr rfl, q1 ⟨b2i_n0.mp h, b2i_n0.mp h2⟩, rfl⟩⟩⟩))
theorem s230 {d : Nat} {G : pG} {a b : Int} (h1 : -400000000 ≤ a) (h2 : a ≤ 400000000) (h3 : 0 ≤ b) (h4 : b ≤ 400000000) : pRuns pMT d 230 [pL a, pL b] Yc G (some (pL (Nat.gcd a.natAbs b.natAbs : Int))) G := by
  have eb : b = (b.natAbs : Int) := by omega
  have key : ∀ x4 : Int, x4 = (a.natAbs : Int) → ∀ x6 : Int, x6 = b → pEnds pMT d 230 Yc (fun r' g => r' = some (pL (Nat.gcd a.natAbs b.natAbs : Int)) ∧ g = G) 17 [pU, pU, pU, pU, pL x4, pU, pL x6, pU, pU, pU] [] G := by
    intro x4 hx4 x6 hx6
    rw [hx4, hx6, eb]
    exact l230 _ _ _ (Nat.le_refl _) (by omega) (by omega) (by rw [← eb]; exact ⟨rfl, rfl⟩)
  refine pRuns.of rfl rfl (v230_0 ?_)
  rw [cmp_ge, cmp_lt]
  refine ⟨fun z x4 hx4 x6 hx6 => key x4 (by omega) x6 hx6, fun z x4 hx4 x6 hx6 => key x4 ?_ x6 hx6⟩
  rw [w64_id (by omega) (by omega)] at hx4
  omega
def q234 (tt : Nat → Int) (C : pG) (p q : Int) (s : vTS) (v : Int) (g : pG) : Prop := v = s.1.1 ∧ fr [162, 163, 164] [50, 56, 57, 58, 59] C g ∧ g 109 50 = s.1.1 ∧ g 109 56 = (tMis tt p q s.1.1.toNat s.1.2.2.2).tdiv (tG tt p q s) ∧ g 109 57 = (tLo tt s.1.1.toNat s.1.2.2.2 * q).tdiv (tG tt p q s) ∧ ∀ j : Nat, (j : Int) < s.1.1 → g 162 j = (s.1.2.2.2 j : Int) ∧ g 163 j = tt (s.1.2.2.2 j)
theorem pr_train (p q x : Int) : pPx [73, 76, 77, 78, 79, 162, 163, 164] [50, 56, 57, 58, 59] (fun G => rWh G ∧ rTr G) (fun G G' => rWh G' ∧ rTr G') 149 234 [pI p, pI q, pI x] := by
  rintro G ⟨hW, hT⟩
  have hW' := hW
  have hT' := hT
  obtain ⟨w1, w2, w3, w4⟩ := hW
  obtain ⟨W, hWn⟩ : ∃ W : Nat, G 109 49 = (W : Int) := ⟨(G 109 49).toNat, by omega⟩
  have ht : ∀ i : Nat, i < W → 10 ≤ G 160 i ∧ G 160 i ≤ 200 := fun i hi => (w4 i (by omega)).2
  by_cases hok : ((1 ≤ p ∧ p ≤ 9999) ∧ 1 ≤ q ∧ q ≤ 9999) ∧ (x = -1 ∨ (0 ≤ x ∧ x ≤ (W : Int) - 1))
  · obtain ⟨⟨⟨hp, hp2⟩, hq, hq2⟩, hx⟩ := hok
    obtain ⟨u0, u1, u2⟩ := tUs_bd (by omega) hx
    obtain ⟨o1, o2, o3, o4⟩ := tFin_ok (by omega) ht hp hp2 hq hq2 x
    obtain ⟨A, a1, a2, a3, a4, a5⟩ := s113 (d := 57) (G := G) (W := W) (tt := G 160) (by omega) ht (by rw [w3, hWn]) (fun i hi => (w4 i (by omega)).1) hp hp2 hq hq2 hx (by omega)
    have entry : ∀ (v : Int) (C : pG), pRuns pMT 58 109 [pR 73, pI p, pI q, pI x] Yc G (some (pI v)) C → pRuns pMT 59 149 [pR 0, pI p, pI q, pI x] Yc G (some (pI v)) C := by
      intro v C hC
      have rat : pC1 pMT 59 150 [pI p, pI q] Yc G (fun r G_2 => ((¬ r = 0 → pC1 pMT 59 109 [pR 73, pI p, pI q, pI x] Yc G_2 (fun r_2 G_3 => (some (pI r_2) : Option pV) = some (pI v) ∧ G_3 = C)) ∧ (r = 0 → (some (pI (-2)) : Option pV) = some (pI v) ∧ G_2 = C))) := pC1.of (by omega) (s150 (by omega)) ⟨fun _ => pC1.of (by omega) hC (rI rfl rfl), fun z => absurd ⟨⟨hp, hp2⟩, hq, hq2⟩ (b2i_0.mp z)⟩
      refine pRuns.of rfl rfl (v149_0 ⟨fun _ => ?_, fun z => ?_⟩)
      · rintro _ rfl
        exact ⟨fun z => by omega, fun _ => rat⟩
      · rw [w3, hWn, w32_id (by omega) (by omega)]
        refine pC1.of (by omega) s118 ⟨fun y => absurd (by omega) (b2i_0.mp y), fun _ => ?_⟩
        rintro _ rfl
        exact ⟨fun z => by omega, fun _ => rat⟩
    by_cases hav : 2 ≤ (W : Int) - (if x = -1 then 0 else 1)
    · have hnz : (tFin W (G 160) p q x).1.1 ≠ 0 := by
        refine enu_nz (wgh_nz _ _ _ (by omega)) _ _ _ _ _ ?_
        have two : ∃ a b : Nat, a < W ∧ b < W ∧ a ≠ b ∧ (a : Int) ≠ x ∧ (b : Int) ≠ x := by
          by_cases hx1 : x = -1
          · rw [if_pos hx1] at hav
            exact ⟨0, 1, by omega, by omega, by omega, by omega, by omega⟩
          · rw [if_neg hx1] at hav
            by_cases h0 : x = 0
            · exact ⟨1, 2, by omega, by omega, by omega, by omega, by omega⟩
            · by_cases h1 : x = 1
              · exact ⟨0, 2, by omega, by omega, by omega, by omega, by omega⟩
              · exact ⟨0, 1, by omega, by omega, by omega, by omega, by omega⟩
        obtain ⟨a, b, h1, h2, h3, h4, h5⟩ := two
        exact enu_yes (by omega) (wgh_nz _ _ _ (by omega)) u0 u1 h1 h2 h3 (by rw [u2, decide_eq_false h4]) (by rw [u2, decide_eq_false h5]) _ _
      rcases o2 with o2 | o2
      · exact absurd o2 hnz
      have o2' : tOk (G 160) W (tFin W (G 160) p q x) := Or.inr o2
      obtain ⟨q1, q2, q3, q4, q5, q6, q7⟩ := o2
      obtain ⟨S1, S2, S3⟩ := a5
      obtain ⟨S4, S5, S6⟩ := S3 hnz
      have F5 : fr [73] [] A (pset A 73 5 (A 73 10)) := fr.set (by decide) (by decide) _ _ _
      have c109 : ∃ v C, pRuns pMT 58 109 [pR 73, pI p, pI q, pI x] Yc G (some (pI v)) C ∧ (v = (tFin W (G 160) p q x).1.1 ∧ fr [73, 76, 77, 78, 79] [] G C ∧ C 73 1 = (W : Int) ∧ C 73 5 = (tFin W (G 160) p q x).1.1 ∧ C 73 6 = (tMis (G 160) p q (tFin W (G 160) p q x).1.1.toNat (tFin W (G 160) p q x).1.2.2.2).tdiv (tG (G 160) p q (tFin W (G 160) p q x)) ∧ C 73 7 = (tLo (G 160) (tFin W (G 160) p q x).1.1.toNat (tFin W (G 160) p q x).1.2.2.2 * q).tdiv (tG (G 160) p q (tFin W (G 160) p q x)) ∧ (∀ j : Nat, (j : Int) < (tFin W (G 160) p q x).1.1 → C 76 j = ((tFin W (G 160) p q x).1.2.2.2 j : Int)) ∧ (∀ j : Nat, j < 4 → C 77 j = tTe (G 160) (tFin W (G 160) p q x) j)) := by
        refine pX1 rfl rfl (v109_0 (pC0.of (by omega) a1 ⟨fun _ => ?_, fun z => absurd (by rw [← S1]; exact z) hnz⟩))
        rintro _ rfl
        refine l109 (W := W) (tt := G 160) (s := tFin W (G 160) p q x) (by omega) (fun i hi => by rw [F5.c 74 (by decide)]; exact a4.2.2.1 i hi) o2' hnz (by rw [pset_ne _ _ (by decide), S1]) (fun j hj => by rw [F5.c 79 (by decide)]; exact S6 j hj) (fun g h1 h2 h3 => ?_)
        have e73 : g 73 = pset A 73 5 (A 73 10) 73 := h1.c 73 (by decide)
        refine pC0.of (by omega) (s110 (s := tFin W (G 160) p q x) ht hp hp2 hq hq2 o2' hnz (by rw [e73, pset_ne _ _ (by decide)]; exact a4.2.2.2.1) (by rw [e73, pset_ne _ _ (by decide)]; exact a4.2.2.2.2) h3 (by omega)) ?_
        have F6 : fr [73] [] g (pset (pset g 73 6 ((tMis (G 160) p q (tFin W (G 160) p q x).1.1.toNat (tFin W (G 160) p q x).1.2.2.2).tdiv (tG (G 160) p q (tFin W (G 160) p q x)))) 73 7 ((tLo (G 160) (tFin W (G 160) p q x).1.1.toNat (tFin W (G 160) p q x).1.2.2.2 * q).tdiv (tG (G 160) p q (tFin W (G 160) p q x)))) := (fr.set (by decide) (by decide) _ _ _).trans (fr.set (by decide) (by decide) _ _ _)
        refine ⟨_, rfl, ?_, (a2.mono (by decide) (by decide)).trans ((F5.mono (by decide) (by decide)).trans ((h1.mono (by decide) (by decide)).trans (F6.mono (by decide) (by decide)))), ?_, ?_, ?_, ?_, fun j hj => ?_, fun j hj => ?_⟩
        · rw [pset_ne _ _ (by decide), pset_ne _ _ (by decide), e73, pset_eq, S1]
        · rw [pset_ne _ _ (by decide), pset_ne _ _ (by decide), e73, pset_ne _ _ (by decide), a3 1 (by omega), w3, hWn]
        · rw [pset_ne _ _ (by decide), pset_ne _ _ (by decide), e73, pset_eq, S1]
        · rw [pset_ne _ _ (by decide), pset_eq]
        · rw [pset_eq]
        · rw [F6.c 76 (by decide)]; exact h2 j hj
        · rw [F6.c 77 (by decide)]; exact h3 j hj
      obtain ⟨v, C, c1, rfl, c2, c3, c4, c5, c6, c7, c8⟩ := c109
      have hWC : rWh C := ⟨by rw [c2.f 49 (by decide)]; exact w1, by rw [c2.f 49 (by decide)]; exact w2, by rw [c3, c2.f 49 (by decide), hWn], by rw [c2.f 49 (by decide), c2.c 74 (by decide), c2.c 160 (by decide)]; exact w4⟩
      have hm : (tFin W (G 160) p q x).1.1.toNat = 2 ∨ (tFin W (G 160) p q x).1.1.toNat = 4 := by omega
      obtain ⟨b1, b2, b3, b4⟩ := t_bd ht hm (fun j hj => q6 j (by omega))
      obtain ⟨-, e2, e3, e4, e5⟩ := far_bd b1 b2 b3 b4 hp hp2 hq hq2
      have FZ : fr [162, 163, 164] [50, 56, 57, 58, 59] C (pset C 109 59 0) := fr.setF (by decide) _ _
      have hER : enR (pset C 109 59 0) W (G 160) := ⟨by omega, by rw [pset_ne _ _ (by decide), c2.f 49 (by decide), hWn], by rw [FZ.c 160 (by decide), c2.c 160 (by decide)]; exact fun _ _ => rfl⟩
      have r2 : ∃ v D, pRuns pMT 59 234 [pR 109, pI p, pI q, pI x] Yc C (some (pI v)) D ∧ q234 (G 160) C p q (tFin W (G 160) p q x) v D := by
        have go : pC0 pMT 59 232 [pR 109, pI 0, pI 2, pI (tUs x), pI p, pI q] Yc (pset C 109 59 0) (fun G_2 => pC0 pMT 59 232 [pR 109, pI 0, pI 4, pI (tUs x), pI p, pI q] Yc G_2 (fun G_3 => pC2 pMT 59 230 [pL (G_3 109 56), pL (G_3 109 57)] Yc G_3 (fun r G_4 => ∀ x5 : Int, x5 = r → (¬ x5 = 0 ∧ (¬ x5 = 0 ∧ ∃ v : Int, (some (pI ((pset (pset G_4 109 56 (pldiv (G_4 109 56) x5)) 109 57 (pldiv ((pset G_4 109 56 (pldiv (G_4 109 56) x5)) 109 57) x5)) 109 50)) : Option pV) = some (pI v) ∧ q234 (G 160) C p q (tFin W (G 160) p q x) v (pset (pset G_4 109 56 (pldiv (G_4 109 56) x5)) 109 57 (pldiv ((pset G_4 109 56 (pldiv (G_4 109 56) x5)) 109 57) x5))))))) := by
          refine pC0.ox (by omega) (s232 ht (Or.inl rfl) hp hp2 hq hq2 hER 2 0 (tUs x) (fun _ => 0) t0 _ 58 rfl (by omega) (fr.refl _ _ _) u0 u1 (fun j hj => by omega) (fun j hj => by omega) (Or.inl rfl) ⟨fun _ => by rw [pset_eq], fun z => absurd rfl z⟩) (fun B hB => ?_)
          have hEB : enR B W (G 160) := ⟨by omega, by rw [hB.1.f 49 (by decide)]; exact hER.2.1, by rw [hB.1.c 160 (by decide)]; exact hER.2.2⟩
          refine pC0.ox (by omega) (s232 ht (Or.inr rfl) hp hp2 hq hq2 hEB 4 0 (tUs x) (fun _ => 0) _ B 58 rfl (by omega) (fr.refl _ _ _) u0 u1 (fun j hj => by omega) (fun j hj => by omega) o1 hB.2.1) (fun D hD => ?_)
          have hD2 : stR (G 160) p q D (tFin W (G 160) p q x) := hD.2.1
          obtain ⟨k1, k2, k3, k4, k5, k6⟩ := hD2.2 hnz
          rw [q7] at k5
          rw [k4, k5]
          have g1 : 1 ≤ tG (G 160) p q (tFin W (G 160) p q x) := Nat.gcd_pos_of_pos_right _ (by omega)
          have gle : tG (G 160) p q (tFin W (G 160) p q x) ≤ (tLo (G 160) (tFin W (G 160) p q x).1.1.toNat (tFin W (G 160) p q x).1.2.2.2 * q).natAbs := Nat.gcd_le_right _ (by omega)
          rw [show tUp (G 160) (tFin W (G 160) p q x).1.1.toNat (tFin W (G 160) p q x).1.2.2.2 * q - p * tLo (G 160) (tFin W (G 160) p q x).1.1.toNat (tFin W (G 160) p q x).1.2.2.2 = tMis (G 160) p q (tFin W (G 160) p q x).1.1.toNat (tFin W (G 160) p q x).1.2.2.2 from rfl] at e2 e3
          refine pC2.of (by omega) (s230 (by omega) (by omega) (by omega) (by omega)) ?_
          rw [show Nat.gcd (tMis (G 160) p q (tFin W (G 160) p q x).1.1.toNat (tFin W (G 160) p q x).1.2.2.2).natAbs (tLo (G 160) (tFin W (G 160) p q x).1.1.toNat (tFin W (G 160) p q x).1.2.2.2 * q).natAbs = tG (G 160) p q (tFin W (G 160) p q x) from rfl]
          rintro _ rfl
          rw [pset_ne (i := 56) (j := 57) D _ (by decide), k4, k5, pldiv_id (by omega) (by omega) (by omega) (by omega), pldiv_id (by omega) (by omega) (by omega) (by omega)]
          have F7 : fr [162, 163, 164] [50, 56, 57, 58, 59] D (pset (pset D 109 56 ((tMis (G 160) p q (tFin W (G 160) p q x).1.1.toNat (tFin W (G 160) p q x).1.2.2.2).tdiv (tG (G 160) p q (tFin W (G 160) p q x)))) 109 57 ((tLo (G 160) (tFin W (G 160) p q x).1.1.toNat (tFin W (G 160) p q x).1.2.2.2 * q).tdiv (tG (G 160) p q (tFin W (G 160) p q x)))) := (fr.setF (by decide) _ _).trans (fr.setF (by decide) _ _)
          refine ⟨by omega, by omega, _, rfl, by rw [pset_ne _ _ (by decide), pset_ne _ _ (by decide)]; exact k1, FZ.trans (hB.1.trans (hD.1.trans F7)), by rw [pset_ne _ _ (by decide), pset_ne _ _ (by decide)]; exact k1, by rw [pset_ne _ _ (by decide), pset_eq], by rw [pset_eq], fun j hj => ?_⟩
          rw [pset_cl _ _ (by decide), pset_cl _ _ (by decide), pset_cl _ _ (by decide), pset_cl _ _ (by decide)]
          exact k6 j hj
        have m30 : pEnds pMT 59 234 Yc (fun r g => ∃ v : Int, r = some (pI v) ∧ q234 (G 160) C p q (tFin W (G 160) p q x) v g) 30 [pR 109, pI p, pI q, pI x, pU, pU, pU] [] C := by
          refine v234_30 ?_
          rw [c2.f 49 (by decide), hWn]
          refine ⟨fun z x4 hx4 => ?_, fun z x4 hx4 => ?_⟩
          · rw [show x4 = tUs x by rw [hx4]; unfold tUs; rw [if_neg z]]
            rw [if_neg z] at hav
            exact ⟨fun _ => ⟨fun _ => go, fun y => by rw [w32_id (by omega) (by omega)] at y; omega⟩, fun y => absurd y z⟩
          · rw [show x4 = tUs x by rw [hx4]; unfold tUs; rw [if_pos z]]
            rw [if_pos z] at hav
            exact ⟨fun y => absurd z y, fun _ => ⟨fun _ => go, fun y => by rw [w32_id (by omega) (by omega)] at y; omega⟩⟩
        refine pX1 rfl rfl (v234_0 (pC1.of (by omega) (s233 (by omega)) ⟨fun z => absurd ⟨hp, hp2⟩ (b2i_0.mp z), fun _ => pC1.of (by omega) (s233 (by omega)) ⟨fun z => absurd ⟨hq, hq2⟩ (b2i_0.mp z), fun _ => ⟨fun _ => m30, fun z => pC1.of (by omega) (s228 hWC (by omega)) ⟨fun _ => m30, fun y => absurd (by rw [c2.f 49 (by decide), hWn]; omega) (b2i_0.mp y)⟩⟩⟩⟩))
      obtain ⟨v, D, d1, rfl, d2, d3, d4, d5, d6⟩ := r2
      have FD : fr [73, 76, 77, 78, 79, 162, 163, 164] [50, 56, 57, 58, 59] G D := (c2.mono (by decide) (by decide)).trans (d2.mono (by decide) (by decide))
      refine ⟨_, C, D, entry _ _ c1, d1, c2.mono (by decide) (by decide), FD, ?_, ?_⟩
      · exact ⟨by rw [FD.f 49 (by decide)]; exact w1, by rw [FD.f 49 (by decide)]; exact w2, by rw [d2.c 73 (by decide), c3, FD.f 49 (by decide), hWn], by rw [FD.f 49 (by decide), FD.c 74 (by decide), d2.c 160 (by decide), c2.c 160 (by decide)]; exact w4⟩
      · unfold rTr
        rw [d3, d2.c 73 (by decide), d2.c 76 (by decide), d2.c 77 (by decide), c4]
        refine ⟨by omega, rfl, fun j hj => ?_, fun z => ?_, fun z => absurd z hnz, fun _ => ⟨by rw [c5, d4], by rw [c6, d5]⟩⟩
        · have k := d6 j hj
          have k2 := ht _ (q6 j hj)
          rw [c7 j hj, c8 j (by omega), k.1, k.2]
          unfold tTe
          rw [if_pos hj]
          exact ⟨rfl, rfl, k2.1, k2.2⟩
        · rw [c8 2 (by omega), c8 3 (by omega)]
          unfold tTe
          rw [if_neg (by omega), if_neg (by omega)]
          exact ⟨rfl, rfl⟩
    · have one : ∀ a b : Nat, a < W → b < W → bt (tUs x) a = false → bt (tUs x) b = false → a = b := by
        intro a b ha hb h1 h2
        rw [u2] at h1 h2
        have h1 := of_decide_eq_false h1
        have h2 := of_decide_eq_false h2
        by_cases z : x = -1
        · rw [if_pos z] at hav; omega
        · rw [if_neg z] at hav; omega
      have e0 : tFin W (G 160) p q x = t0 := by
        unfold tFin
        rw [enu_no (by omega) u0 u1 one 2 0, enu_no (by omega) u0 u1 one 0 0]
      rw [e0] at a5
      have c109 : pRuns pMT 58 109 [pR 73, pI p, pI q, pI x] Yc G (some (pI (-1))) A := pRuns.of rfl rfl (v109_0 (pC0.of (by omega) a1 ⟨fun z => absurd a5.1 z, fun _ => rI rfl rfl⟩))
      have hWA : rWh A := ⟨by rw [a2.f 49 (by decide)]; exact w1, by rw [a2.f 49 (by decide)]; exact w2, by rw [a3 1 (by omega), a2.f 49 (by decide)]; exact w3, by rw [a2.f 49 (by decide), a2.c 74 (by decide), a2.c 160 (by decide)]; exact w4⟩
      refine ⟨-1, A, A, entry _ _ c109, ?_, a2.mono (by decide) (by decide), a2.mono (by decide) (by decide), hWA, ?_⟩
      · have m30 : pEnds pMT 59 234 Yc (fun r' g => r' = some (pI (-1)) ∧ g = A) 30 [pR 109, pI p, pI q, pI x, pU, pU, pU] [] A := by
          refine v234_30 ?_
          rw [a2.f 49 (by decide), hWn]
          refine ⟨fun z x4 hx4 => ?_, fun z x4 hx4 => ?_⟩
          · rw [if_neg z] at hav
            exact ⟨fun _ => ⟨fun y => by rw [w32_id (by omega) (by omega)] at y; omega, fun _ => rI rfl rfl⟩, fun y => absurd y z⟩
          · rw [if_pos z] at hav
            exact ⟨fun y => absurd z y, fun _ => ⟨fun y => by rw [w32_id (by omega) (by omega)] at y; omega, fun _ => rI rfl rfl⟩⟩
        exact pRuns.of rfl rfl (v234_0 (pC1.of (by omega) (s233 (by omega)) ⟨fun z => absurd ⟨hp, hp2⟩ (b2i_0.mp z), fun _ => pC1.of (by omega) (s233 (by omega)) ⟨fun z => absurd ⟨hq, hq2⟩ (b2i_0.mp z), fun _ => ⟨fun _ => m30, fun z => pC1.of (by omega) (s228 hWA (by omega)) ⟨fun _ => m30, fun y => absurd (by rw [a2.f 49 (by decide), hWn]; omega) (b2i_0.mp y)⟩⟩⟩⟩))
      · unfold rTr at *
        rw [a2.f 50 (by decide), a2.f 56 (by decide), a2.f 57 (by decide), a2.c 76 (by decide), a2.c 77 (by decide), a2.c 162 (by decide), a2.c 163 (by decide), a3 5 (by omega), a3 6 (by omega), a3 7 (by omega)]
        exact hT'
  · refine ⟨-2, G, G, pRuns.of rfl rfl (v149_0 ?_), pRuns.of rfl rfl (v234_0 ?_), fr.refl _ _ _, fr.refl _ _ _, hW', hT'⟩
    · have rat : (x = -1 ∨ (0 ≤ x ∧ x ≤ (W : Int) - 1)) → pC1 pMT 59 150 [pI p, pI q] Yc G (fun r G_2 => ((¬ r = 0 → pC1 pMT 59 109 [pR 73, pI p, pI q, pI x] Yc G_2 (fun r_2 G_3 => (some (pI r_2) : Option pV) = some (pI (-2)) ∧ G_3 = G)) ∧ (r = 0 → (some (pI (-2)) : Option pV) = some (pI (-2)) ∧ G_2 = G))) := fun hx => pC1.of (by omega) (s150 (by omega)) ⟨fun z => absurd ⟨b2i_n0.mp z, hx⟩ hok, fun _ => rI rfl rfl⟩
      refine ⟨fun z => ?_, fun z => ?_⟩
      · rintro _ rfl
        exact ⟨fun z => by omega, fun _ => rat (Or.inl z)⟩
      · rw [w3, hWn, w32_id (by omega) (by omega)]
        refine pC1.of (by omega) s118 ⟨fun y => ?_, fun y => ?_⟩
        · rintro _ rfl
          exact ⟨fun _ => rI rfl rfl, fun z => absurd rfl z⟩
        · rintro _ rfl
          exact ⟨fun z => by omega, fun _ => rat (Or.inr (b2i_n0.mp y))⟩
    · have no : pEnds pMT 59 234 Yc (fun r' g => r' = some (pI (-2)) ∧ g = G) 27 [pU, pU, pU, pU, pU, pU, pU] [] G := v234_27 ⟨rfl, rfl⟩
      refine pC1.of (by omega) (s233 (by omega)) ⟨fun z => no, fun z1 => pC1.of (by omega) (s233 (by omega)) ⟨fun z => no, fun z2 => ⟨fun z => absurd ⟨⟨b2i_n0.mp z1, b2i_n0.mp z2⟩, Or.inl z⟩ hok, fun z => pC1.of (by omega) (s228 hW' (by omega)) ⟨fun y => absurd ⟨⟨b2i_n0.mp z1, b2i_n0.mp z2⟩, Or.inr (by rw [← hWn]; exact b2i_n0.mp y)⟩ hok, fun _ => no⟩⟩⟩⟩
