/-! filing: the best turn -/
def vMn (s : Int) (o w : Nat → Int) (r : Nat) : Nat → Int
  | 0 => s
  | n + 1 => min (vMn s o w r n) (o ((n + r) % 100) - w n)
def vB (o w : Nat → Int) (r : Nat) : Int := vMn 999 o w r 100
def vBt (o w : Nat → Int) : Nat → Int × Int
  | 0 => (-1, -1)
  | r + 1 => if (vBt o w r).2 < vB o w r then ((r : Int), vB o w r) else vBt o w r
def vSu (o w : Nat → Int) : Nat → Int
  | 0 => 0
  | n + 1 => vSu o w n + (o n - w n)
theorem vMn_anti (s : Int) (o w : Nat → Int) (r : Nat) : ∀ n i : Nat, i ≤ n → vMn s o w r n ≤ vMn s o w r i := by
  intro n
  induction n with
  | zero => intro i hi; rw [show i = 0 by omega]; exact Int.le_refl _
  | succ n ih =>
    intro i hi
    by_cases e : i = n + 1
    · rw [e]; exact Int.le_refl _
    · have := ih i (by omega)
      show min (vMn s o w r n) (o ((n + r) % 100) - w n) ≤ vMn s o w r i
      omega
theorem vMn_s {o w : Nat → Int} {r : Nat} (h : ∀ n m : Nat, n < 100 → m < 100 → o n - w m ≤ 999) : ∀ n : Nat, 1 ≤ n → n ≤ 100 → vMn 1499 o w r n = vMn 999 o w r n := by
  intro n
  induction n with
  | zero => intro h1; omega
  | succ n ih =>
    intro h1 h2
    have hb := h ((n + r) % 100) n (by omega) (by omega)
    by_cases e : n = 0
    · subst e
      unfold vMn vMn
      omega
    · have := ih (by omega) (by omega)
      unfold vMn
      rw [this]
theorem vMn_bd {s : Int} {o w : Nat → Int} {r : Nat} (hs : -400 ≤ s) (h : ∀ n m : Nat, n < 100 → m < 100 → -400 ≤ o n - w m) : ∀ n : Nat, n ≤ 100 → -400 ≤ vMn s o w r n ∧ vMn s o w r n ≤ s := by
  intro n
  induction n with
  | zero => intro _; unfold vMn; omega
  | succ n ih =>
    intro h2
    have hb := h ((n + r) % 100) n (by omega) (by omega)
    have := ih (by omega)
    unfold vMn
    omega
theorem vBt_bd {o w : Nat → Int} : ∀ r : Nat, -1 ≤ (vBt o w r).2 ∧ (vBt o w r).2 ≤ max (-1) 999 ∧ -1 ≤ (vBt o w r).1 ∧ (vBt o w r).1 < max 0 (r : Int) ∧ ((vBt o w r).1 = -1 ↔ (vBt o w r).2 = -1)
  | 0 => by unfold vBt; decide
  | r + 1 => by
    have ih := vBt_bd (o := o) (w := w) r
    have hb : vB o w r ≤ 999 := vMn_anti 999 o w r 100 0 (by omega)
    unfold vBt
    split
    · show -1 ≤ vB o w r ∧ vB o w r ≤ max (-1) 999 ∧ -1 ≤ (r : Int) ∧ (r : Int) < max 0 ((r + 1 : Nat) : Int) ∧ ((r : Int) = -1 ↔ vB o w r = -1)
      omega
    · omega
theorem vSu_bd {o w : Nat → Int} (h : ∀ n m : Nat, n < 100 → m < 100 → -400 ≤ o n - w m ∧ o n - w m ≤ 999) : ∀ n : Nat, n ≤ 100 → -400 * (n : Int) ≤ vSu o w n ∧ vSu o w n ≤ 999 * (n : Int)
  | 0, _ => by unfold vSu; omega
  | n + 1, h2 => by
    have ih := vSu_bd h n (by omega)
    have hb := h n n (by omega) (by omega)
    unfold vSu
    omega
def vO (G : pG) (k m : Nat) : Int := G 155 (100 * k + m)
def vWd (G : pG) (t m : Nat) : Int := vDsc G (t : Int) (m : Int)
/-- the best turn and its base -/
def vFt (G : pG) (t k : Nat) : Int × Int := vBt (vO G k) (vWd G t) 100
/-- what is filed off -/
def vFs (G : pG) (t k : Nat) : Int := vSu (vO G k) (vWd G t) 100 - 100 * (vFt G t k).2
def rCa1 (G : pG) (t k : Nat) : Prop := G (52 + t) k = -2 ∨ (G (52 + t) k = (vFt G t k).1 ∧ G (59 + t) k = (vFt G t k).2 ∧ G (66 + t) k = vFs G t k)
/-- what is kept of best turns is right -/
def rCa (G : pG) : Prop := ∀ t k : Nat, t < 6 → (t : Int) < G 109 10 → k < 4 → rCa1 G t k
theorem ow_bd {G : pG} (hP : rPart G) (hL : rPl G) (hO : rOld G) {t k : Nat} (hk : k < 4) : ∀ n m : Nat, n < 100 → m < 100 → -400 ≤ vO G k n - vWd G t m ∧ vO G k n - vWd G t m ≤ 999 := by
  intro n m hn hm
  have h1 := hO k n hk hn
  have h2 := vDsc_bd hP hL (t : Int) (m : Int)
  unfold vO vWd
  omega
theorem s52 {d : Nat} {G : pG} {k r : Nat} {a : Int} {o w : Nat → Int} (hk : k < 4) (ho : ∀ m : Nat, m < 100 → G (45 + k) m = o m) (hw : ∀ m : Nat, m < 100 → G 50 m = w m) (hb : ∀ n m : Nat, n < 100 → m < 100 → -400 ≤ o n - w m ∧ o n - w m ≤ 999) (hr : r < 100) : ∃ v : Int, pRuns pMT d 52 [pR 43, pR (45 + k), pI (r : Int), pI a] Yc G (some (pI v)) G ∧ ((a < vB o w r ∧ v = vB o w r) ∨ (v ≤ a ∧ vB o w r ≤ a)) := by
  obtain ⟨r1, r2, r3⟩ := row44 k hk
  have H : ∀ (n i : Nat), i + n = 100 → pEnds pMT d 52 Yc (fun r' g => ∃ v : Int, r' = some (pI v) ∧ (g = G ∧ ((a < vB o w r ∧ v = vB o w r) ∨ (v ≤ a ∧ vB o w r ≤ a)))) 11 [pR 43, pR (45 + k), pU, pI a, pI (vMn 999 o w r i), pI (((i + r) % 100 : Nat) : Int), pI (i : Int)] [] G := by
    intro n
    induction n with
    | zero =>
      intro i hi
      obtain rfl : i = 100 := by omega
      refine v52_11 ⟨fun _ => ⟨_, rfl, rfl, ?_⟩, fun h => by omega⟩
      show (a < vB o w r ∧ vB o w r = vB o w r) ∨ (vB o w r ≤ a ∧ vB o w r ≤ a)
      omega
    | succ n ih =>
      intro i hi
      have nx := ih (i + 1) (by omega)
      have bi := vMn_anti 999 o w r 100 i (by omega)
      have b1 := hb ((i + r) % 100) i (by omega) (by omega)
      refine v52_11 ⟨fun h => by omega, fun h => ⟨fun g => ⟨_, rfl, rfl, Or.inr ⟨g, by unfold vB; omega⟩⟩, fun g => bif_t r2 ⟨by omega, by rw [r3]; omega, by omega, by omega, ?_⟩⟩⟩
      rw [Int.toNat_natCast, Int.toNat_natCast, ho _ (by omega), hw _ (by omega), w32_id (x := o ((i + r) % 100) - w i) (by omega) (by omega), pmn_eq, w32_id (x := (((i + r) % 100 : Nat) : Int) + 1) (by omega) (by omega), w32_id (x := (i : Int) + 1) (by omega) (by omega)]
      rintro _ rfl
      refine ⟨fun g2 => ?_, fun g2 => ?_⟩
      · rintro _ rfl _ rfl
        rw [show ((i + 1 + r) % 100 : Nat) = 0 by omega] at nx
        exact nx
      · rintro _ rfl _ rfl
        rw [show (((i + 1 + r) % 100 : Nat) : Int) = (((i + r) % 100 : Nat) : Int) + 1 by omega] at nx
        exact nx
  obtain ⟨v, G', h1, rfl, h3⟩ := pX1 (MT := pMT) (d := d) (m := 52) (as := [pR 43, pR (45 + k), pI (r : Int), pI a]) (Y := Yc) (G := G) rfl rfl (v52_0 (by
    rintro _ rfl _ rfl _ rfl
    have := H 100 0 rfl
    rw [show ((0 + r) % 100 : Nat) = r by omega] at this
    exact this))
  exact ⟨v, h1, h3⟩
def fW : List Nat := [50, 52, 53, 54, 55, 56, 57, 59, 60, 61, 62, 63, 64, 66, 67, 68, 69, 70, 71]
theorem vFt_c {G G' : pG} (h1 : G' 155 = G 155) (h2 : ∀ t m : Int, vDsc G' t m = vDsc G t m) (t k : Nat) : vFt G' t k = vFt G t k ∧ vFs G' t k = vFs G t k := by
  have e1 : vO G' k = vO G k := by funext m; unfold vO; rw [h1]
  have e2 : vWd G' t = vWd G t := by funext m; unfold vWd; rw [h2]
  unfold vFs vFt
  rw [e1, e2]
  exact ⟨rfl, rfl⟩
theorem s51 {d : Nat} {G : pG} {t k : Nat} (hP : rPart G) (hL : rPl G) (hD : rDisc G) (hO : rOld G) (hC : rCa G) (ht : (t : Int) < G 109 10) (hk : k < 4) (hd : 2 ≤ d) : ∃ G', pRuns pMT d 51 [pR 43, pI (t : Int), pI (k : Int)] Yc G none G' ∧ fr fW [] G G' ∧ rCa G' ∧ G' (52 + t) k = (vFt G t k).1 ∧ G' (59 + t) k = (vFt G t k).2 ∧ G' (66 + t) k = vFs G t k := by
  have t1 := hP.t1
  obtain ⟨a1, a2, a3⟩ := row51 t (by omega)
  obtain ⟨b1, b2, b3⟩ := row58 t (by omega)
  obtain ⟨c1, c2, c3⟩ := row65 t (by omega)
  obtain ⟨d1, d2, d3⟩ := row44 k hk
  have bd := ow_bd hP hL hO (t := t) hk
  have sb := vSu_bd bd 100 (by omega)
  have H2 : ∀ (n r : Nat) (g : pG), r + n = 100 → fr [50] [] G g → (∀ m : Nat, m < 100 → g 50 m = vWd G t m) → pEnds pMT d 51 Yc (fun r' g => r' = none ∧ (fr fW [] G g ∧ rCa g ∧ g (52 + t) k = (vFt G t k).1 ∧ g (59 + t) k = (vFt G t k).2 ∧ g (66 + t) k = vFs G t k)) 78 [pR 43, pI (t : Int), pI (k : Int), pI (vSu (vO G k) (vWd G t) 100), pI (vBt (vO G k) (vWd G t) r).1, pI (vBt (vO G k) (vWd G t) r).2, pI (r : Int), pU] [] g := by
    intro n
    induction n with
    | zero =>
      intro r g hr f1 f2
      obtain rfl : r = 100 := by omega
      have tb := vBt_bd (o := vO G k) (w := vWd G t) 100
      refine v51_78 ⟨fun _ => ⟨by omega, by omega, 52 + t, by rw [Int.toNat_natCast]; exact a1, bif_t a2 ⟨by omega, by rw [a3]; omega, by omega, by omega, 59 + t, by rw [Int.toNat_natCast]; exact b1, bif_t b2 ⟨by omega, by rw [b3]; omega, by omega, by omega, 66 + t, by rw [Int.toNat_natCast]; exact c1, bif_t c2 ⟨by omega, by rw [c3]; omega, ?_⟩⟩⟩⟩, fun h => by omega⟩
      rw [Int.toNat_natCast, w32_id (x := 100 * (vBt (vO G k) (vWd G t) 100).2) (by omega) (by omega), w32_id (by omega) (by omega)]
      have F : fr fW [] G (pset (pset (pset g (52 + t) k (vBt (vO G k) (vWd G t) 100).1) (59 + t) k (vBt (vO G k) (vWd G t) 100).2) (66 + t) k (vSu (vO G k) (vWd G t) 100 - 100 * (vBt (vO G k) (vWd G t) 100).2)) := (f1.mono (by decide) (by decide)).trans ((fr.set (by simp [fW]; omega) (by omega) _ _ _).trans ((fr.set (by simp [fW]; omega) (by omega) _ _ _).trans (fr.set (by simp [fW]; omega) (by omega) _ _ _)))
      have v1 : ∀ x j : Nat, x < 6 → pset (pset (pset g (52 + t) k (vBt (vO G k) (vWd G t) 100).1) (59 + t) k (vBt (vO G k) (vWd G t) 100).2) (66 + t) k (vSu (vO G k) (vWd G t) 100 - 100 * (vBt (vO G k) (vWd G t) 100).2) (52 + x) j = if x = t ∧ j = k then (vFt G t k).1 else G (52 + x) j := by
        intro x j hx
        rw [pset_cl _ _ (by omega), pset_cl _ _ (by omega), pset_at, f1.c (52 + x) ⟨by simp; omega, by omega⟩]
        by_cases e1 : x = t
        · by_cases e2 : j = k
          · rw [if_pos (by omega), if_pos e2, if_pos ⟨e1, e2⟩]; rfl
          · rw [if_pos (by omega), if_neg e2, if_neg (by omega)]
        · rw [if_neg (by omega), if_neg (by omega)]
      have v2 : ∀ x j : Nat, x < 6 → pset (pset (pset g (52 + t) k (vBt (vO G k) (vWd G t) 100).1) (59 + t) k (vBt (vO G k) (vWd G t) 100).2) (66 + t) k (vSu (vO G k) (vWd G t) 100 - 100 * (vBt (vO G k) (vWd G t) 100).2) (59 + x) j = if x = t ∧ j = k then (vFt G t k).2 else G (59 + x) j := by
        intro x j hx
        rw [pset_cl _ _ (by omega), pset_at, pset_cl _ _ (by omega), f1.c (59 + x) ⟨by simp; omega, by omega⟩]
        by_cases e1 : x = t
        · by_cases e2 : j = k
          · rw [if_pos (by omega), if_pos e2, if_pos ⟨e1, e2⟩]; rfl
          · rw [if_pos (by omega), if_neg e2, if_neg (by omega)]
        · rw [if_neg (by omega), if_neg (by omega)]
      have v3 : ∀ x j : Nat, x < 6 → pset (pset (pset g (52 + t) k (vBt (vO G k) (vWd G t) 100).1) (59 + t) k (vBt (vO G k) (vWd G t) 100).2) (66 + t) k (vSu (vO G k) (vWd G t) 100 - 100 * (vBt (vO G k) (vWd G t) 100).2) (66 + x) j = if x = t ∧ j = k then vFs G t k else G (66 + x) j := by
        intro x j hx
        rw [pset_at, pset_cl _ _ (by omega), pset_cl _ _ (by omega), f1.c (66 + x) ⟨by simp; omega, by omega⟩]
        by_cases e1 : x = t
        · by_cases e2 : j = k
          · rw [if_pos (by omega), if_pos e2, if_pos ⟨e1, e2⟩]; rfl
          · rw [if_pos (by omega), if_neg e2, if_neg (by omega)]
        · rw [if_neg (by omega), if_neg (by omega)]
      refine ⟨rfl, F, fun x j hx6 hx hj => ?_, by rw [v1 t k (by omega), if_pos ⟨rfl, rfl⟩], by rw [v2 t k (by omega), if_pos ⟨rfl, rfl⟩], by rw [v3 t k (by omega), if_pos ⟨rfl, rfl⟩]⟩
      rw [F.f 10 (by decide)] at hx
      unfold rCa1
      rw [v1 x j (by omega), v2 x j (by omega), v3 x j (by omega), (vFt_c (F.c 155 (by decide)) (F.dsc (by decide) (by decide)) x j).1, (vFt_c (F.c 155 (by decide)) (F.dsc (by decide) (by decide)) x j).2]
      by_cases e : x = t ∧ j = k
      · rw [if_pos e, if_pos e, if_pos e, e.1, e.2]
        exact Or.inr ⟨rfl, rfl, rfl⟩
      · rw [if_neg e, if_neg e, if_neg e]
        exact hC x j hx6 hx hj
    | succ n ih =>
      intro r g hr f1 f2
      have nx := ih (r + 1) g (by omega) f1 f2
      refine v51_78 ⟨fun h => by omega, fun h => ⟨by omega, by omega, 45 + k, by rw [Int.toNat_natCast]; exact d1, ?_⟩⟩
      obtain ⟨v, h1, h2⟩ := s52 (d := d - 1) (G := g) (k := k) (r := r) (a := (vBt (vO G k) (vWd G t) r).2) (o := vO G k) (w := vWd G t) hk (fun m hm => by rw [f1.c (45 + k) ⟨by simp; omega, by omega⟩]; exact (hO k m hk hm).1) f2 bd (by omega)
      refine pC1.of (by omega) h1 ?_
      rw [w32_id (by omega) (by omega)]
      rintro _ rfl
      refine ⟨fun g1 => ?_, fun g1 => ?_⟩
      · rintro _ rfl
        rw [vBt, if_neg (by omega)] at nx
        exact nx
      · rintro _ rfl _ rfl _ rfl
        rw [vBt, if_pos (by omega)] at nx
        rcases h2 with ⟨_, rfl⟩ | h2
        · exact nx
        · omega
  have H1 : ∀ (n i : Nat) (g : pG), i + n = 100 → fr [50] [] G g → (∀ m : Nat, m < i → g 50 m = vWd G t m) → pEnds pMT d 51 Yc (fun r' g => r' = none ∧ (fr fW [] G g ∧ rCa g ∧ g (52 + t) k = (vFt G t k).1 ∧ g (59 + t) k = (vFt G t k).2 ∧ g (66 + t) k = vFs G t k)) 19 [pR 43, pI (t : Int), pI (k : Int), pI (vSu (vO G k) (vWd G t) i), pI (i : Int), pU, pU, pU] [] g := by
    intro n
    induction n with
    | zero =>
      intro i g hi f1 f2
      obtain rfl : i = 100 := by omega
      refine v51_19 ⟨fun _ => ?_, fun h => by omega⟩
      rintro _ rfl _ rfl _ rfl
      exact H2 100 0 g rfl f1 f2
    | succ n ih =>
      intro i g hi f1 f2
      have hPg : rPart g := f1.mv rPart_dep (by decide) (by decide) hP
      have hLg : rPl g := f1.mv rPl_dep (by decide) (by decide) hL
      have hDg : rDisc g := f1.mv rDisc_dep (by decide) (by decide) hD
      have sbi := vSu_bd bd i (by omega)
      have bi := bd i i (by omega) (by omega)
      have nx := ih (i + 1) (pset g 50 i (vWd G t i)) (by omega) (f1.trans (fr.set (by decide) (by decide) _ _ _)) (fun m hm => by
        by_cases e : m = i
        · subst e; rw [pset_eq]
        · rw [pset_ne _ _ e]; exact f2 m (by omega))
      refine v51_19 ⟨fun h => by omega, fun h => pC1.of (by omega) (s14 hPg hLg hDg (by omega) (by omega) (by omega)) ⟨by omega, by omega, by omega, by omega, 45 + k, by rw [Int.toNat_natCast]; exact d1, bif_t d2 ⟨by omega, by rw [d3]; omega, by omega, by omega, ?_⟩⟩⟩
      rw [Int.toNat_natCast, f1.dsc (by decide) (by decide), pset_eq, pset_cl _ _ (by omega), f1.c (45 + k) ⟨by simp; omega, by omega⟩, (hO k i hk (by omega)).1]
      show ∀ x3 : Int, x3 = w32 (vSu (vO G k) (vWd G t) i + w32 (vO G k i - vWd G t i)) → ∀ x4 : Int, x4 = w32 ((i : Int) + 1) → pEnds pMT d 51 Yc _ 19 [pR 43, pI (t : Int), pI (k : Int), pI x3, pI x4, pU, pU, pU] [] (pset g 50 i (vWd G t i))
      rw [w32_id (x := vO G k i - vWd G t i) (by omega) (by omega), w32_id (x := vSu (vO G k) (vWd G t) i + (vO G k i - vWd G t i)) (by omega) (by omega), w32_id (by omega) (by omega)]
      rintro _ rfl _ rfl
      exact nx
  refine pX0 rfl rfl (v51_0 ⟨by omega, by omega, 52 + t, by rw [Int.toNat_natCast]; exact a1, bif_t a2 ⟨by omega, by rw [a3]; omega, fun _ => ?_, fun q => ?_⟩⟩)
  · rintro _ rfl _ rfl
    exact H1 100 0 G rfl (fr.refl _ _ _) (fun m hm => by omega)
  · rw [Int.toNat_natCast] at q
    rcases hC t k (by omega) ht hk with h | h
    · exact absurd h q
    · exact ⟨rfl, fr.refl _ _ _, hC, h.1, h.2.1, h.2.2⟩
/-- the reference finds the best turn -/
theorem s221 {d : Nat} {G : pG} {t k : Nat} (hP : rPart G) (hL : rPl G) (hO : ∀ m : Nat, m < 100 → 0 ≤ vO G k m ∧ vO G k m ≤ 999) (hk : k < 4) (hd : 4 ≤ d) : ∃ G', pRuns pMT d 221 [pR 109, pI (t : Int), pI (k : Int)] Yc G (some (pI (b2i (¬ (vFt G t k).1 = -1)))) G' ∧ fr [156] [43, 44, 45] G G' ∧ (¬ (vFt G t k).1 = -1 → G' 109 43 = (vFt G t k).1 ∧ G' 109 44 = (vFt G t k).2 ∧ G' 109 45 = vFs G t k) := by
  have bd : ∀ n m : Nat, n < 100 → m < 100 → -400 ≤ vO G k n - vWd G t m ∧ vO G k n - vWd G t m ≤ 999 := by
    intro n m hn hm
    have h1 := hO n hn
    have h2 := vDsc_bd hP hL (t : Int) (m : Int)
    unfold vWd
    omega
  have sb := vSu_bd bd 100 (by omega)
  have ek : w32 (100 * (k : Int)) = ((100 * k : Nat) : Int) := by rw [w32_id (by omega) (by omega)]; omega
  have H3 : ∀ (r : Nat) (g : pG), r < 100 → fr [156] [43, 44, 45] G g → (∀ m : Nat, m < 100 → g 156 m = vWd G t m) → (∀ x : Int, x = vMn 1499 (vO G k) (vWd G t) r 100 → ∀ (x5 : Int), x5 = x → pEnds pMT d 221 Yc (fun r' g => ∃ v : Int, r' = some (pI v) ∧ (v = b2i (¬ (vFt G t k).1 = -1) ∧ fr [156] [43, 44, 45] G g ∧ (¬ (vFt G t k).1 = -1 → g 109 43 = (vFt G t k).1 ∧ g 109 44 = (vFt G t k).2 ∧ g 109 45 = vFs G t k))) 78 [pR 109, pU, pI (k : Int), pI (vSu (vO G k) (vWd G t) 100), pI (r : Int), pI x5, pI 100] [] g) → ∀ (n i : Nat), i + n = 100 → pEnds pMT d 221 Yc (fun r' g => ∃ v : Int, r' = some (pI v) ∧ (v = b2i (¬ (vFt G t k).1 = -1) ∧ fr [156] [43, 44, 45] G g ∧ (¬ (vFt G t k).1 = -1 → g 109 43 = (vFt G t k).1 ∧ g 109 44 = (vFt G t k).2 ∧ g 109 45 = vFs G t k))) 78 [pR 109, pU, pI (k : Int), pI (vSu (vO G k) (vWd G t) 100), pI (r : Int), pI (vMn 1499 (vO G k) (vWd G t) r i), pI (i : Int)] [] g := by
    intro r g hr f1 f2 fin n
    induction n with
    | zero =>
      intro i hi
      obtain rfl : i = 100 := by omega
      exact fin _ rfl _ rfl
    | succ n ih =>
      intro i hi
      have nx := ih (i + 1) (by omega)
      have b1 := bd ((i + r) % 100) i (by omega) (by omega)
      have er : prem (w32 ((i : Int) + (r : Int))) 100 = (((i + r) % 100 : Nat) : Int) := by
        rw [w32_id (by omega) (by omega), prem_id (by omega) (by omega) (by omega) (by omega), Int.tmod_eq_emod_of_nonneg (by omega)]
        omega
      have e2 : w32 (((100 * k : Nat) : Int) + (((i + r) % 100 : Nat) : Int)) = ((100 * k + (i + r) % 100 : Nat) : Int) := by rw [w32_id (by omega) (by omega)]; omega
      refine v221_78 ⟨fun h => by omega, fun h => ⟨by omega, ?_⟩⟩
      rw [er, ek, e2, Int.toNat_natCast, Int.toNat_natCast, f1.c 155 (by decide), f2 i (by omega), show G 155 (100 * k + (i + r) % 100) = vO G k ((i + r) % 100) from rfl, w32_id (x := vO G k ((i + r) % 100) - vWd G t i) (by omega) (by omega), pmn_eq, w32_id (x := (i : Int) + 1) (by omega) (by omega)]
      refine ⟨by omega, by omega, by omega, by omega, ?_⟩
      rintro _ rfl _ rfl
      exact nx
  have H2 : ∀ (n r : Nat) (g : pG), r + n = 100 → fr [156] [43, 44, 45] G g → (∀ m : Nat, m < 100 → g 156 m = vWd G t m) → g 109 43 = (vBt (vO G k) (vWd G t) r).1 → (¬ (vBt (vO G k) (vWd G t) r).1 = -1 → g 109 44 = (vBt (vO G k) (vWd G t) r).2) → pEnds pMT d 221 Yc (fun r' g => ∃ v : Int, r' = some (pI v) ∧ (v = b2i (¬ (vFt G t k).1 = -1) ∧ fr [156] [43, 44, 45] G g ∧ (¬ (vFt G t k).1 = -1 → g 109 43 = (vFt G t k).1 ∧ g 109 44 = (vFt G t k).2 ∧ g 109 45 = vFs G t k))) 63 [pR 109, pU, pI (k : Int), pI (vSu (vO G k) (vWd G t) 100), pI (r : Int), pU, pU] [] g := by
    intro n
    induction n with
    | zero =>
      intro r g hr f1 f2 f3 f4
      obtain rfl : r = 100 := by omega
      have tb := vBt_bd (o := vO G k) (w := vWd G t) 100
      refine v221_63 ⟨fun _ => ?_, fun h => by omega⟩
      have e43 : pset g 109 45 (w32 (vSu (vO G k) (vWd G t) 100 - w32 (100 * g 109 44))) 109 43 = (vFt G t k).1 := by rw [pset_ne _ _ (by decide), f3]; rfl
      have F : fr [156] [43, 44, 45] G (pset g 109 45 (w32 (vSu (vO G k) (vWd G t) 100 - w32 (100 * g 109 44)))) := f1.trans (fr.setF (by decide) _ _)
      rw [e43]
      refine ⟨fun q => ⟨Or.inl rfl, 0, rfl, (b2i_f (fun z => z q)).symm, F, fun z => absurd q z⟩, fun q => ⟨Or.inr rfl, 1, rfl, (b2i_t q).symm, F, fun _ => ⟨rfl, ?_, ?_⟩⟩⟩
      · rw [pset_ne _ _ (by decide), f4 q]; rfl
      · rw [pset_eq, f4 q, w32_id (x := 100 * (vBt (vO G k) (vWd G t) 100).2) (by omega) (by omega), w32_id (by omega) (by omega)]; rfl
    | succ n ih =>
      intro r g hr f1 f2 f3 f4
      have tb := vBt_bd (o := vO G k) (w := vWd G t) r
      have e1 : vMn 1499 (vO G k) (vWd G t) r 100 = vB (vO G k) (vWd G t) r := vMn_s (fun n m hn hm => (bd n m hn hm).2) 100 (by omega) (by omega)
      refine v221_63 ⟨fun h => by omega, fun h => ?_⟩
      rintro _ rfl _ rfl
      refine H3 r g (by omega) f1 f2 ?_ 100 0 rfl
      rintro _ rfl _ rfl
      rw [e1]
      have nx1 : ∀ g', fr [156] [43, 44, 45] G g' → (∀ m : Nat, m < 100 → g' 156 m = vWd G t m) → g' 109 43 = (vBt (vO G k) (vWd G t) (r + 1)).1 → (¬ (vBt (vO G k) (vWd G t) (r + 1)).1 = -1 → g' 109 44 = (vBt (vO G k) (vWd G t) (r + 1)).2) → _ := fun g' => ih (r + 1) g' (by omega)
      refine v221_78 ⟨fun _ => ?_, fun h => by omega⟩
      rw [w32_id (by omega) (by omega)]
      have no : ¬ (vBt (vO G k) (vWd G t) r).2 < vB (vO G k) (vWd G t) r → pEnds pMT d 221 Yc (fun r' g => ∃ v : Int, r' = some (pI v) ∧ (v = b2i (¬ (vFt G t k).1 = -1) ∧ fr [156] [43, 44, 45] G g ∧ (¬ (vFt G t k).1 = -1 → g 109 43 = (vFt G t k).1 ∧ g 109 44 = (vFt G t k).2 ∧ g 109 45 = vFs G t k))) 63 [pR 109, pU, pI (k : Int), pI (vSu (vO G k) (vWd G t) 100), pI ((r + 1 : Nat) : Int), pU, pU] [] g := fun q => nx1 g f1 f2 (by rw [vBt, if_neg q]; exact f3) (by rw [vBt, if_neg q]; exact f4)
      have ye : (vBt (vO G k) (vWd G t) r).2 < vB (vO G k) (vWd G t) r → pEnds pMT d 221 Yc (fun r' g => ∃ v : Int, r' = some (pI v) ∧ (v = b2i (¬ (vFt G t k).1 = -1) ∧ fr [156] [43, 44, 45] G g ∧ (¬ (vFt G t k).1 = -1 → g 109 43 = (vFt G t k).1 ∧ g 109 44 = (vFt G t k).2 ∧ g 109 45 = vFs G t k))) 63 [pR 109, pU, pI (k : Int), pI (vSu (vO G k) (vWd G t) 100), pI ((r + 1 : Nat) : Int), pU, pU] [] (pset (pset g 109 43 (r : Int)) 109 44 (vB (vO G k) (vWd G t) r)) := fun q => nx1 _ (f1.trans ((fr.setF (by decide) _ _).trans (fr.setF (by decide) _ _))) (fun m hm => by rw [pset_cl _ _ (by decide), pset_cl _ _ (by decide)]; exact f2 m hm) (by rw [vBt, if_pos q, pset_ne _ _ (by decide), pset_eq]) (by rw [vBt, if_pos q]; intro _; rw [pset_eq])
      refine ⟨fun q => ?_, fun q => ⟨fun q2 => ?_, fun q2 => ⟨fun q3 => ?_, fun q3 => ?_⟩⟩⟩
      · rintro _ rfl
        exact no (by omega)
      · rintro _ rfl
        exact ye (by rw [f3] at q2; omega)
      · rintro _ rfl
        rw [f3] at q2
        rw [f4 q2] at q3
        exact ye q3
      · rintro _ rfl
        rw [f3] at q2
        rw [f4 q2] at q3
        exact no (by omega)
  have H1 : ∀ (n i : Nat) (g : pG), i + n = 100 → fr [156] [] G g → (∀ m : Nat, m < i → g 156 m = vWd G t m) → pEnds pMT d 221 Yc (fun r' g => ∃ v : Int, r' = some (pI v) ∧ (v = b2i (¬ (vFt G t k).1 = -1) ∧ fr [156] [43, 44, 45] G g ∧ (¬ (vFt G t k).1 = -1 → g 109 43 = (vFt G t k).1 ∧ g 109 44 = (vFt G t k).2 ∧ g 109 45 = vFs G t k))) 5 [pR 109, pI (t : Int), pI (k : Int), pI (vSu (vO G k) (vWd G t) i), pI (i : Int), pU, pU] [] g := by
    intro n
    induction n with
    | zero =>
      intro i g hi f1 f2
      obtain rfl : i = 100 := by omega
      refine v221_5 ⟨fun _ => ?_, fun h => by omega⟩
      rintro _ rfl
      exact H2 100 0 _ rfl ((f1.mono (by decide) (by decide)).trans (fr.setF (by decide) _ _)) (fun m hm => by rw [pset_cl _ _ (by decide)]; exact f2 m hm) (by rw [pset_eq]; rfl) (fun q => absurd rfl q)
    | succ n ih =>
      intro i g hi f1 f2
      have hPg : rPart g := f1.mv rPart_dep (by decide) (by decide) hP
      have hLg : rPl g := f1.mv rPl_dep (by decide) (by decide) hL
      have sbi := vSu_bd bd i (by omega)
      have bi := bd i i (by omega) (by omega)
      have nx := ih (i + 1) (pset g 156 i (vWd G t i)) (by omega) (f1.trans (fr.set (by decide) (by decide) _ _ _)) (fun m hm => by
        by_cases e : m = i
        · subst e; rw [pset_eq]
        · rw [pset_ne _ _ e]; exact f2 m (by omega))
      have e2 : w32 (((100 * k : Nat) : Int) + (i : Int)) = ((100 * k + i : Nat) : Int) := by rw [w32_id (by omega) (by omega)]; omega
      refine v221_5 ⟨fun h => by omega, fun h => pC1.of (by omega) (s209 hPg hLg (by omega) (by omega) (by omega)) ?_⟩
      rw [ek, e2, Int.toNat_natCast, Int.toNat_natCast, f1.dsc (by decide) (by decide), pset_eq, pset_cl _ _ (by decide), f1.c 155 (by decide)]
      refine ⟨by omega, by omega, by omega, by omega, by omega, by omega, ?_⟩
      show ∀ x3 : Int, x3 = w32 (vSu (vO G k) (vWd G t) i + w32 (vO G k i - vWd G t i)) → ∀ x4 : Int, x4 = w32 ((i : Int) + 1) → pEnds pMT d 221 Yc _ 5 [pR 109, pI (t : Int), pI (k : Int), pI x3, pI x4, pU, pU] [] (pset g 156 i (vWd G t i))
      rw [w32_id (x := vO G k i - vWd G t i) (by omega) (by omega), w32_id (x := vSu (vO G k) (vWd G t) i + (vO G k i - vWd G t i)) (by omega) (by omega), w32_id (by omega) (by omega)]
      rintro _ rfl _ rfl
      exact nx
  obtain ⟨v, G', h1, rfl, h2⟩ := pX1 (MT := pMT) (d := d) (m := 221) (as := [pR 109, pI (t : Int), pI (k : Int)]) (Y := Yc) (G := G) rfl rfl (v221_0 (by
    rintro _ rfl _ rfl
    exact H1 100 0 G rfl (fr.refl _ _ _) (fun m hm => by omega)))
  exact ⟨G', h1, h2⟩
def vFv (G : pG) (t k : Nat) (y : Int) : Int := if (vFt G t k).1 = -1 then -1 else if y = 0 then (vFt G t k).1 else if y = 1 then (vFt G t k).2 else vFs G t k
theorem pr_file (x z y : Int) : pPx [50, 52, 53, 54, 55, 56, 57, 59, 60, 61, 62, 63, 64, 66, 67, 68, 69, 70, 71, 156] [43, 44, 45] (fun G => rPart G ∧ rPl G ∧ rDisc G ∧ rOld G ∧ rCa G) (fun G G' => rCa G') 144 222 [pI x, pI z, pI y] := by
  rintro G ⟨hP, hL, hD, hO, hC⟩
  have t1 := hP.t1
  by_cases hok : (0 ≤ x ∧ x ≤ G 109 10 - 1) ∧ (0 ≤ z ∧ z ≤ 3) ∧ (0 ≤ y ∧ y ≤ 2)
  · obtain ⟨o1, o2, o3⟩ := hok
    obtain ⟨t, rfl⟩ : ∃ t : Nat, x = (t : Int) := ⟨x.toNat, by omega⟩
    obtain ⟨k, rfl⟩ : ∃ k : Nat, z = (k : Int) := ⟨z.toNat, by omega⟩
    obtain ⟨A, a1, a2, a3, a4, a5, a6⟩ := s51 (d := 57) (G := G) (t := t) (k := k) hP hL hD hO hC (by omega) (by omega) (by omega)
    obtain ⟨w1, w2, w3⟩ := row51 t (by omega)
    obtain ⟨w4, w5, w6⟩ := row58 t (by omega)
    obtain ⟨w7, w8, w9⟩ := row65 t (by omega)
    have hPA : rPart A := a2.mv rPart_dep (by decide) (by decide) hP
    have hLA : rPl A := a2.mv rPl_dep (by decide) (by decide) hL
    have hOA : ∀ m : Nat, m < 100 → 0 ≤ vO A k m ∧ vO A k m ≤ 999 := fun m hm => by unfold vO; rw [a2.c 155 (by decide)]; exact (hO k m (by omega) hm).2
    obtain ⟨C, c1, c2, c3⟩ := s221 (d := 58) (G := A) (t := t) (k := k) hPA hLA hOA (by omega) (by omega)
    have eF := vFt_c (a2.c 155 (by decide)) (a2.dsc (by decide) (by decide)) t k
    rw [eF.1, eF.2] at c3
    rw [eF.1] at c1
    have FD : fr [50, 52, 53, 54, 55, 56, 57, 59, 60, 61, 62, 63, 64, 66, 67, 68, 69, 70, 71, 156] [43, 44, 45] G C := (a2.mono (by decide) (by decide)).trans (c2.mono (by decide) (by decide))
    refine ⟨vFv G t k y, A, C, pRuns.of rfl rfl (v144_0 ?_), pRuns.of rfl rfl (v222_0 ?_), a2.mono (by decide) (by decide), FD, ?_⟩
    · refine pC1.of (by omega) (s120 hP (by omega)) ⟨fun q => absurd o1 (b2i_0.mp q), fun _ => ?_⟩
      refine pC1.of (by omega) (s123 (by omega)) ⟨fun _ => ⟨fun q => by omega, fun _ => ?_⟩, fun q => absurd o2 (b2i_0.mp q)⟩
      unfold vFv
      refine ⟨fun y0 => ?_, fun y0 => ⟨fun y1 => ?_, fun y1 => ⟨fun y2 => ?_, fun y2 => by omega⟩⟩⟩
      · have c48 : pRuns pMT 58 48 [pR 43, pI (t : Int), pI (k : Int)] Yc G (some (pI (vFt G t k).1)) A := pRuns.of rfl rfl (v48_0 (pC0.of (by omega) a1 ⟨by omega, by omega, 52 + t, by rw [Int.toNat_natCast]; exact w1, bif_t w2 ⟨by omega, by rw [w3]; omega, rI (by rw [Int.toNat_natCast, a4]) rfl⟩⟩))
        refine pC1.of (by omega) c48 (rI ?_ rfl)
        by_cases q : (vFt G t k).1 = -1
        · rw [if_pos q, q]
        · rw [if_neg q, if_pos y0]
      · have c49 : pRuns pMT 58 49 [pR 43, pI (t : Int), pI (k : Int)] Yc G (some (pI (if (vFt G t k).1 = -1 then -1 else (vFt G t k).2))) A := pRuns.of rfl rfl (v49_0 (pC0.of (by omega) a1 ⟨by omega, by omega, 52 + t, by rw [Int.toNat_natCast]; exact w1, bif_t w2 ⟨by omega, by rw [w3]; omega, by
            rw [Int.toNat_natCast, a4]
            exact ⟨fun q => ⟨by omega, by omega, 59 + t, by rw [Int.toNat_natCast]; exact w4, bif_t w5 ⟨by omega, by rw [w6]; omega, rI (by rw [if_neg q, a5]) rfl⟩⟩, fun q => rI (by rw [if_pos q]) rfl⟩⟩⟩))
        exact pC1.of (by omega) c49 (rI (by rw [if_neg y0, if_pos y1]) rfl)
      · have c50 : pRuns pMT 58 50 [pR 43, pI (t : Int), pI (k : Int)] Yc G (some (pI (if (vFt G t k).1 = -1 then -1 else vFs G t k))) A := pRuns.of rfl rfl (v50_0 (pC0.of (by omega) a1 ⟨by omega, by omega, 52 + t, by rw [Int.toNat_natCast]; exact w1, bif_t w2 ⟨by omega, by rw [w3]; omega, by
            rw [Int.toNat_natCast, a4]
            exact ⟨fun q => ⟨by omega, by omega, 66 + t, by rw [Int.toNat_natCast]; exact w7, bif_t w8 ⟨by omega, by rw [w9]; omega, rI (by rw [if_neg q, a6]) rfl⟩⟩, fun q => rI (by rw [if_pos q]) rfl⟩⟩⟩))
        exact pC1.of (by omega) c50 (rI (by rw [if_neg y0, if_neg y1]) rfl)
    · refine pC1.of (by omega) (s199 hPA (by omega)) ⟨fun q => absurd (by rw [a2.f 10 (by decide)]; exact o1) (b2i_0.mp q), fun _ => ?_⟩
      refine pC1.of (by omega) (s217 (by omega)) ⟨fun q => absurd o2 (b2i_0.mp q), fun _ => ?_⟩
      refine pC1.of (by omega) s166 ⟨fun _ => ?_, fun q => absurd o3 (b2i_0.mp q)⟩
      refine pC1.of (by omega) c1 ⟨fun q => ?_, fun q => ?_⟩
      · have q := b2i_n0.mp q
        obtain ⟨u1, u2, u3⟩ := c3 q
        unfold vFv
        rw [if_neg q]
        exact ⟨fun y0 => ⟨fun y1 => rI (by rw [if_neg y0, if_neg y1, u3]) rfl, fun y1 => rI (by rw [if_neg y0, if_pos y1, u2]) rfl⟩, fun y0 => rI (by rw [if_pos y0, u1]) rfl⟩
      · have q := b2i_0.mp q
        exact rI (by unfold vFv; rw [if_pos (Decidable.not_not.mp q)]) rfl
    · intro t' k' ht6 ht' hk'
      rw [FD.f 10 (by decide)] at ht'
      have := a3 t' k' ht6 (by rw [a2.f 10 (by decide)]; exact ht') hk'
      unfold rCa1 at this ⊢
      rw [c2.c (52 + t') ⟨by simp; omega, by omega⟩, c2.c (59 + t') ⟨by simp; omega, by omega⟩, c2.c (66 + t') ⟨by simp; omega, by omega⟩, (vFt_c (c2.c 155 (by decide)) (c2.dsc (by decide) (by decide)) t' k').1, (vFt_c (c2.c 155 (by decide)) (c2.dsc (by decide) (by decide)) t' k').2]
      exact this
  · refine ⟨-2, G, G, pRuns.of rfl rfl (v144_0 ?_), pRuns.of rfl rfl (v222_0 ?_), fr.refl _ _ _, fr.refl _ _ _, hC⟩
    · refine pC1.of (by omega) (s120 hP (by omega)) ⟨fun q => rI rfl rfl, fun z1 => ?_⟩
      refine pC1.of (by omega) (s123 (by omega)) ⟨fun z2 => ⟨fun q => rI rfl rfl, fun q => absurd ⟨b2i_n0.mp z1, b2i_n0.mp z2, by omega⟩ hok⟩, fun q => rI rfl rfl⟩
    · refine pC1.of (by omega) (s199 hP (by omega)) ⟨fun q => rI rfl rfl, fun z1 => ?_⟩
      refine pC1.of (by omega) (s217 (by omega)) ⟨fun q => rI rfl rfl, fun z2 => ?_⟩
      exact pC1.of (by omega) s166 ⟨fun z3 => absurd ⟨b2i_n0.mp z1, b2i_n0.mp z2, b2i_n0.mp z3⟩ hok, fun q => rI rfl rfl⟩
