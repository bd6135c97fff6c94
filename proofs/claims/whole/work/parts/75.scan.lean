/-! tokens -/
def skp (P : Int → Bool) (u : Nat → Int) (L : Nat) : Nat → Nat → Nat
  | 0, c => c
  | n + 1, c => if c < L ∧ P (u c) = true then skp P u L n (c + 1) else c
def skE (P : Int → Bool) (u : Nat → Int) (L c : Nat) : Nat := skp P u L (L - c) c
theorem skE_y {P : Int → Bool} {u : Nat → Int} {L c : Nat} (h1 : c < L) (h2 : P (u c) = true) : skE P u L c = skE P u L (c + 1) := by
  unfold skE
  rw [show L - c = (L - (c + 1)) + 1 by omega, skp, if_pos ⟨h1, h2⟩]
theorem skE_n {P : Int → Bool} {u : Nat → Int} {L c : Nat} (h : ¬ (c < L ∧ P (u c) = true)) : skE P u L c = c := by
  unfold skE
  cases q : L - c with
  | zero => rfl
  | succ n => rw [skp, if_neg h]
theorem skE_bd {P : Int → Bool} {u : Nat → Int} {L : Nat} : ∀ (n c : Nat), c + n = L → c ≤ skE P u L c ∧ skE P u L c ≤ L ∧ (skE P u L c < L → P (u (skE P u L c)) = false) ∧ ∀ i : Nat, c ≤ i → i < skE P u L c → P (u i) = true := by
  intro n
  induction n with
  | zero =>
    intro c hc
    rw [skE_n (by omega)]
    exact ⟨by omega, by omega, by omega, fun i h1 h2 => by omega⟩
  | succ n ih =>
    intro c hc
    by_cases h : P (u c) = true
    · rw [skE_y (by omega) h]
      obtain ⟨i1, i2, i3, i4⟩ := ih (c + 1) (by omega)
      refine ⟨by omega, i2, i3, fun i h1 h2 => ?_⟩
      by_cases e : i = c
      · subst e; exact h
      · exact i4 i (by omega) h2
    · rw [skE_n (fun q => h q.2)]
      exact ⟨by omega, by omega, fun _ => Bool.eq_false_iff.mpr h, fun i h1 h2 => by omega⟩
def pBl (x : Int) : Bool := decide (x = 32 ∨ x = 10)
def pLe (x : Int) : Bool := decide (97 ≤ x ∧ x ≤ 122)
def pDi (x : Int) : Bool := decide (48 ≤ x ∧ x ≤ 57)
/-- a token's place, what is behind it, its kind -/
def tPl (u : Nat → Int) (L c : Nat) : Nat := skE pBl u L c
def tNx (u : Nat → Int) (L c : Nat) : Nat := if tPl u L c < L then (if pLe (u (tPl u L c)) = true then skE pLe u L (tPl u L c) else if pDi (u (tPl u L c)) = true then skE pDi u L (tPl u L c) else tPl u L c + 1) else tPl u L c
def tKd (u : Nat → Int) (L c : Nat) : Int := if tPl u L c < L then (if pLe (u (tPl u L c)) = true then (if tNx u L c - tPl u L c ≤ 8 then 1 else 4) else if pDi (u (tPl u L c)) = true then (if tNx u L c - tPl u L c ≤ 4 then 2 else 4) else if u (tPl u L c) = 59 then 3 else 4) else 0
/-- a word's and a number's value -/
def wV (u : Nat → Int) (a : Nat) : Nat → Int
  | 0 => 0
  | n + 1 => wV u a n * 27 + (u (a + n) - 96)
def nV (u : Nat → Int) (a : Nat) : Nat → Int
  | 0 => 0
  | n + 1 => nV u a n * 10 + (u (a + n) - 48)
theorem wV_bd {u : Nat → Int} {a : Nat} : ∀ n : Nat, (∀ i : Nat, i < n → 97 ≤ u (a + i) ∧ u (a + i) ≤ 122) → 0 ≤ wV u a n ∧ wV u a n < 27 ^ n
  | 0, _ => by unfold wV; omega
  | n + 1, h => by
    have h1 := wV_bd (u := u) (a := a) n (fun i hi => h i (by omega))
    have h2 := h n (by omega)
    have e : (27 : Int) ^ (n + 1) = 27 ^ n * 27 := Int.pow_succ _ _
    unfold wV
    omega
theorem nV_bd {u : Nat → Int} {a : Nat} : ∀ n : Nat, (∀ i : Nat, i < n → 48 ≤ u (a + i) ∧ u (a + i) ≤ 57) → 0 ≤ nV u a n ∧ nV u a n < 10 ^ n
  | 0, _ => by unfold nV; omega
  | n + 1, h => by
    have h1 := nV_bd (u := u) (a := a) n (fun i hi => h i (by omega))
    have h2 := h n (by omega)
    have e : (10 : Int) ^ (n + 1) = 10 ^ n * 10 := Int.pow_succ _ _
    unfold nV
    omega
/-- the tape, as each holds it -/
def tpC (G : pG) (u : Nat → Int) (L : Nat) : Prop := G 1 2 = (L : Int) ∧ L ≤ 800 ∧ (∀ i : Nat, i < 800 → pand (G 2 i) 255 = u i) ∧ ∀ i : Nat, i < 800 → 0 ≤ u i ∧ u i ≤ 255
def tpR (G : pG) (u : Nat → Int) (L : Nat) : Prop := G 109 2 = (L : Int) ∧ L ≤ 800 ∧ (∀ i : Nat, i < 800 → pand (G 110 i) 255 = u i ∧ (G 110 i = 32 ↔ u i = 32) ∧ (G 110 i = 10 ↔ u i = 10)) ∧ ∀ i : Nat, i < 800 → 0 ≤ u i ∧ u i ≤ 255
theorem s99u {d : Nat} {G : pG} {u : Nat → Int} {L c : Nat} (h : tpC G u L) (hc : c < L) : pRuns pMT d 99 [pR 1, pI (c : Int)] Yc G (some (pI (u c))) G := by
  have := s99 (d := d) (G := G) (i := (c : Int))
  rw [if_pos (by rw [h.1]; have := h.2.1; omega), Int.toNat_natCast, h.2.2.1 c (by have := h.2.1; omega)] at this
  exact this
theorem tpC.mv {G G' : pG} {u : Nat → Int} {L : Nat} (h : tpC G u L) (h1 : G' 1 2 = G 1 2) (h2 : G' 2 = G 2) : tpC G' u L := ⟨by rw [h1]; exact h.1, h.2.1, by rw [h2]; exact h.2.2.1, h.2.2.2⟩
/-- a word is read: from place a, n letters so far -/
theorem s102 {d : Nat} {G : pG} {u : Nat → Int} {L a : Nat} (hG : tpC G u L) (ha : a ≤ L) (h4 : G 1 4 = (a : Int)) (h1 : G 1 1 = (a : Int)) (h5 : G 1 5 = 0) (hd : 1 ≤ d) : ∃ G', pRuns pMT d 102 [pR 1] Yc G none G' ∧ (fr [1] [] G G' ∧ G' 1 2 = G 1 2 ∧ G' 1 1 = (skE pLe u L a : Int) ∧ G' 1 4 = (a : Int) ∧ G' 1 3 = (if skE pLe u L a - a ≤ 8 then 1 else 4) ∧ (skE pLe u L a - a ≤ 8 → G' 1 5 = wV u a (skE pLe u L a - a))) := by
  have L8 := hG.2.1
  obtain ⟨b1, b2, b3, b4⟩ := skE_bd (P := pLe) (u := u) (L := L) (L - a) a (by omega)
  have p8 : ∀ n : Nat, n ≤ 8 → (27 : Int) ^ n ≤ 282429536481 := by decide
  refine pX0 rfl rfl ?_
  suffices H : ∀ (n c : Nat) (g : pG), c + n = L → a ≤ c → skE pLe u L c = skE pLe u L a → fr [1] [] G g → g 1 2 = G 1 2 → g 1 1 = (c : Int) → g 1 4 = (a : Int) → (∀ i : Nat, i < c - a → 97 ≤ u (a + i) ∧ u (a + i) ≤ 122) → (c - a ≤ 8 → g 1 5 = wV u a (c - a)) → pEnds pMT d 102 Yc (fun r g => r = none ∧ (fr [1] [] G g ∧ g 1 2 = G 1 2 ∧ g 1 1 = (skE pLe u L a : Int) ∧ g 1 4 = (a : Int) ∧ g 1 3 = (if skE pLe u L a - a ≤ 8 then 1 else 4) ∧ (skE pLe u L a - a ≤ 8 → g 1 5 = wV u a (skE pLe u L a - a)))) 0 [pR 1] [] g by
    exact H (L - a) a G (by omega) (by omega) rfl (fr.refl _ _ _) rfl h1 h4 (fun i hi => by omega) (fun _ => by rw [h5, Nat.sub_self]; rfl)
  intro n
  have stop : ∀ (c : Nat) (g : pG), a ≤ c → c ≤ L → skE pLe u L a = c → fr [1] [] G g → g 1 2 = G 1 2 → g 1 1 = (c : Int) → g 1 4 = (a : Int) → (c - a ≤ 8 → g 1 5 = wV u a (c - a)) → ((w32 (g 1 1 - g 1 4) ≤ 8 → (none : Option pV) = none ∧ (fr [1] [] G (pset g 1 3 1) ∧ pset g 1 3 1 1 2 = G 1 2 ∧ pset g 1 3 1 1 1 = (skE pLe u L a : Int) ∧ pset g 1 3 1 1 4 = (a : Int) ∧ pset g 1 3 1 1 3 = (if skE pLe u L a - a ≤ 8 then 1 else 4) ∧ (skE pLe u L a - a ≤ 8 → pset g 1 3 1 1 5 = wV u a (skE pLe u L a - a)))) ∧ (8 < w32 (g 1 1 - g 1 4) → (none : Option pV) = none ∧ (fr [1] [] G (pset g 1 3 4) ∧ pset g 1 3 4 1 2 = G 1 2 ∧ pset g 1 3 4 1 1 = (skE pLe u L a : Int) ∧ pset g 1 3 4 1 4 = (a : Int) ∧ pset g 1 3 4 1 3 = (if skE pLe u L a - a ≤ 8 then 1 else 4) ∧ (skE pLe u L a - a ≤ 8 → pset g 1 3 4 1 5 = wV u a (skE pLe u L a - a))))) := by
    intro c g hac hcL hs f1 g2 g1 g4 g5
    rw [g1, g4, w32_id (by omega) (by omega), hs]
    refine ⟨fun z => ⟨rfl, f1.trans (fr.set (by decide) (by decide) _ _ _), ?_⟩, fun z => ⟨rfl, f1.trans (fr.set (by decide) (by decide) _ _ _), ?_⟩⟩
    · rw [pset_eq, pset_ne _ _ (by decide), pset_ne _ _ (by decide), pset_ne _ _ (by decide), pset_ne _ _ (by decide), if_pos (by omega)]
      exact ⟨g2, g1, g4, rfl, g5⟩
    · rw [pset_eq, pset_ne _ _ (by decide), pset_ne _ _ (by decide), pset_ne _ _ (by decide), pset_ne _ _ (by decide), if_neg (by omega)]
      exact ⟨g2, g1, g4, rfl, g5⟩
  induction n with
  | zero =>
    intro c g hc hac hs f1 g2 g1 g4 g6 g5
    have hs' : skE pLe u L a = c := by rw [← hs]; exact skE_n (by omega)
    refine v102_0 ⟨fun _ => stop c g hac (by omega) hs' f1 g2 g1 g4 g5, fun z => by rw [g2, hG.1, g1] at z; omega⟩
  | succ n ih =>
    intro c g hc hac hs f1 g2 g1 g4 g6 g5
    have hg : tpC g u L := hG.mv g2 (f1.c 2 (by decide))
    refine v102_0 ⟨fun z => by rw [g2, hG.1, g1] at z; omega, fun _ => ?_⟩
    rw [g1]
    refine pC1.of hd (s99u hg (by omega)) (pC1.of hd s105 ⟨fun z => ?_, fun z => ?_⟩)
    · have z := b2i_0.mp z
      have hs' : skE pLe u L a = c := by rw [← hs]; exact skE_n (fun w => z (of_decide_eq_true w.2))
      exact stop c g hac (by omega) hs' f1 g2 g1 g4 g5
    · have z := b2i_n0.mp z
      rw [g1]
      refine pC1.of hd (s99u hg (by omega)) ?_
      rw [pset_ne _ _ (by decide), g1, w32_id (by omega) (by omega)]
      have hs' : skE pLe u L (c + 1) = skE pLe u L a := by rw [← hs]; exact (skE_y (by omega) (decide_eq_true z)).symm
      refine ih (c + 1) _ (by omega) (by omega) hs' (f1.trans ((fr.set (by decide) (by decide) _ _ _).trans (fr.set (by decide) (by decide) _ _ _))) ?_ ?_ ?_ (fun i hi => ?_) (fun h8 => ?_)
      · rw [pset_ne _ _ (by decide), pset_ne _ _ (by decide)]; exact g2
      · rw [pset_eq]; omega
      · rw [pset_ne _ _ (by decide), pset_ne _ _ (by decide)]; exact g4
      · by_cases e : i = c - a
        · rw [e, show a + (c - a) = c by omega]; exact z
        · exact g6 i (by omega)
      · rw [pset_ne _ _ (by decide), pset_eq, g5 (by omega)]
        have bd := wV_bd (u := u) (a := a) (c - a) g6
        have p := p8 (c - a) (by omega)
        rw [w64_id (x := wV u a (c - a) * 27) (by omega) (by omega), w64_id (x := wV u a (c - a) * 27 + u c) (by omega) (by omega), w64_id (x := wV u a (c - a) * 27 + u c - 97) (by omega) (by omega), w64_id (by omega) (by omega), show c + 1 - a = (c - a) + 1 by omega]
        show _ = wV u a (c - a) * 27 + (u (a + (c - a)) - 96)
        rw [show a + (c - a) = c by omega]
        omega
theorem s103 {d : Nat} {G : pG} {u : Nat → Int} {L a : Nat} (hG : tpC G u L) (ha : a ≤ L) (h4 : G 1 4 = (a : Int)) (h1 : G 1 1 = (a : Int)) (h5 : G 1 5 = 0) (hd : 1 ≤ d) : ∃ G', pRuns pMT d 103 [pR 1] Yc G none G' ∧ (fr [1] [] G G' ∧ G' 1 2 = G 1 2 ∧ G' 1 1 = (skE pDi u L a : Int) ∧ G' 1 4 = (a : Int) ∧ G' 1 3 = (if skE pDi u L a - a ≤ 4 then 2 else 4) ∧ (skE pDi u L a - a ≤ 4 → G' 1 5 = nV u a (skE pDi u L a - a))) := by
  have L8 := hG.2.1
  obtain ⟨b1, b2, b3, b4⟩ := skE_bd (P := pDi) (u := u) (L := L) (L - a) a (by omega)
  have p8 : ∀ n : Nat, n ≤ 4 → (10 : Int) ^ n ≤ 10000 := by decide
  refine pX0 rfl rfl ?_
  suffices H : ∀ (n c : Nat) (g : pG), c + n = L → a ≤ c → skE pDi u L c = skE pDi u L a → fr [1] [] G g → g 1 2 = G 1 2 → g 1 1 = (c : Int) → g 1 4 = (a : Int) → (∀ i : Nat, i < c - a → 48 ≤ u (a + i) ∧ u (a + i) ≤ 57) → (c - a ≤ 4 → g 1 5 = nV u a (c - a)) → pEnds pMT d 103 Yc (fun r g => r = none ∧ (fr [1] [] G g ∧ g 1 2 = G 1 2 ∧ g 1 1 = (skE pDi u L a : Int) ∧ g 1 4 = (a : Int) ∧ g 1 3 = (if skE pDi u L a - a ≤ 4 then 2 else 4) ∧ (skE pDi u L a - a ≤ 4 → g 1 5 = nV u a (skE pDi u L a - a)))) 0 [pR 1] [] g by
    exact H (L - a) a G (by omega) (by omega) rfl (fr.refl _ _ _) rfl h1 h4 (fun i hi => by omega) (fun _ => by rw [h5, Nat.sub_self]; rfl)
  intro n
  have stop : ∀ (c : Nat) (g : pG), a ≤ c → c ≤ L → skE pDi u L a = c → fr [1] [] G g → g 1 2 = G 1 2 → g 1 1 = (c : Int) → g 1 4 = (a : Int) → (c - a ≤ 4 → g 1 5 = nV u a (c - a)) → ((w32 (g 1 1 - g 1 4) ≤ 4 → (none : Option pV) = none ∧ (fr [1] [] G (pset g 1 3 2) ∧ pset g 1 3 2 1 2 = G 1 2 ∧ pset g 1 3 2 1 1 = (skE pDi u L a : Int) ∧ pset g 1 3 2 1 4 = (a : Int) ∧ pset g 1 3 2 1 3 = (if skE pDi u L a - a ≤ 4 then 2 else 4) ∧ (skE pDi u L a - a ≤ 4 → pset g 1 3 2 1 5 = nV u a (skE pDi u L a - a)))) ∧ (4 < w32 (g 1 1 - g 1 4) → (none : Option pV) = none ∧ (fr [1] [] G (pset g 1 3 4) ∧ pset g 1 3 4 1 2 = G 1 2 ∧ pset g 1 3 4 1 1 = (skE pDi u L a : Int) ∧ pset g 1 3 4 1 4 = (a : Int) ∧ pset g 1 3 4 1 3 = (if skE pDi u L a - a ≤ 4 then 2 else 4) ∧ (skE pDi u L a - a ≤ 4 → pset g 1 3 4 1 5 = nV u a (skE pDi u L a - a))))) := by
    intro c g hac hcL hs f1 g2 g1 g4 g5
    rw [g1, g4, w32_id (by omega) (by omega), hs]
    refine ⟨fun z => ⟨rfl, f1.trans (fr.set (by decide) (by decide) _ _ _), ?_⟩, fun z => ⟨rfl, f1.trans (fr.set (by decide) (by decide) _ _ _), ?_⟩⟩
    · rw [pset_eq, pset_ne _ _ (by decide), pset_ne _ _ (by decide), pset_ne _ _ (by decide), pset_ne _ _ (by decide), if_pos (by omega)]
      exact ⟨g2, g1, g4, rfl, g5⟩
    · rw [pset_eq, pset_ne _ _ (by decide), pset_ne _ _ (by decide), pset_ne _ _ (by decide), pset_ne _ _ (by decide), if_neg (by omega)]
      exact ⟨g2, g1, g4, rfl, g5⟩
  induction n with
  | zero =>
    intro c g hc hac hs f1 g2 g1 g4 g6 g5
    have hs' : skE pDi u L a = c := by rw [← hs]; exact skE_n (by omega)
    refine v103_0 ⟨fun _ => stop c g hac (by omega) hs' f1 g2 g1 g4 g5, fun z => by rw [g2, hG.1, g1] at z; omega⟩
  | succ n ih =>
    intro c g hc hac hs f1 g2 g1 g4 g6 g5
    have hg : tpC g u L := hG.mv g2 (f1.c 2 (by decide))
    refine v103_0 ⟨fun z => by rw [g2, hG.1, g1] at z; omega, fun _ => ?_⟩
    rw [g1]
    refine pC1.of hd (s99u hg (by omega)) (pC1.of hd s106 ⟨fun z => ?_, fun z => ?_⟩)
    · have z := b2i_0.mp z
      have hs' : skE pDi u L a = c := by rw [← hs]; exact skE_n (fun w => z (of_decide_eq_true w.2))
      exact stop c g hac (by omega) hs' f1 g2 g1 g4 g5
    · have z := b2i_n0.mp z
      rw [g1]
      refine pC1.of hd (s99u hg (by omega)) ?_
      rw [pset_ne _ _ (by decide), g1, w32_id (by omega) (by omega)]
      have hs' : skE pDi u L (c + 1) = skE pDi u L a := by rw [← hs]; exact (skE_y (by omega) (decide_eq_true z)).symm
      refine ih (c + 1) _ (by omega) (by omega) hs' (f1.trans ((fr.set (by decide) (by decide) _ _ _).trans (fr.set (by decide) (by decide) _ _ _))) ?_ ?_ ?_ (fun i hi => ?_) (fun h8 => ?_)
      · rw [pset_ne _ _ (by decide), pset_ne _ _ (by decide)]; exact g2
      · rw [pset_eq]; omega
      · rw [pset_ne _ _ (by decide), pset_ne _ _ (by decide)]; exact g4
      · by_cases e : i = c - a
        · rw [e, show a + (c - a) = c by omega]; exact z
        · exact g6 i (by omega)
      · rw [pset_ne _ _ (by decide), pset_eq, g5 (by omega)]
        have bd := nV_bd (u := u) (a := a) (c - a) g6
        have p := p8 (c - a) (by omega)
        rw [w64_id (x := nV u a (c - a) * 10) (by omega) (by omega), w64_id (x := nV u a (c - a) * 10 + u c) (by omega) (by omega), w64_id (by omega) (by omega), show c + 1 - a = (c - a) + 1 by omega]
        show _ = nV u a (c - a) * 10 + (u (a + (c - a)) - 48)
        rw [show a + (c - a) = c by omega]
        omega
theorem pLe_t {x : Int} (h : 97 ≤ x ∧ x ≤ 122) : pLe x = true := decide_eq_true h
theorem pLe_f {x : Int} (h : ¬ (97 ≤ x ∧ x ≤ 122)) : ¬ pLe x = true := fun z => h (of_decide_eq_true z)
theorem pDi_t {x : Int} (h : 48 ≤ x ∧ x ≤ 57) : pDi x = true := decide_eq_true h
theorem pDi_f {x : Int} (h : ¬ (48 ≤ x ∧ x ≤ 57)) : ¬ pDi x = true := fun z => h (of_decide_eq_true z)
/-- the class' next token -/
def tkC (u : Nat → Int) (L c : Nat) (G G' : pG) : Prop := fr [1] [] G G' ∧ G' 1 2 = G 1 2 ∧ G' 1 1 = (tNx u L c : Int) ∧ G' 1 4 = (tPl u L c : Int) ∧ G' 1 3 = tKd u L c ∧ (tKd u L c = 1 → G' 1 5 = wV u (tPl u L c) (tNx u L c - tPl u L c)) ∧ (tKd u L c = 2 → G' 1 5 = nV u (tPl u L c) (tNx u L c - tPl u L c))
theorem s101 {d : Nat} {G : pG} {u : Nat → Int} {L c : Nat} (hG : tpC G u L) (hc : c ≤ L) (h1 : G 1 1 = (c : Int)) (hd : 2 ≤ d) : ∃ G', pRuns pMT d 101 [pR 1] Yc G none G' ∧ tkC u L c G G' := by
  have L8 := hG.2.1
  refine pX0 rfl rfl ?_
  suffices H : ∀ (n k : Nat) (g : pG), k + n = L → skE pBl u L k = skE pBl u L c → fr [1] [] G g → g 1 2 = G 1 2 → g 1 1 = (k : Int) → pEnds pMT d 101 Yc (fun r g => r = none ∧ tkC u L c G g) 0 [pR 1, pU] [] g by
    exact H (L - c) c G (by omega) rfl (fr.refl _ _ _) rfl h1
  have go : ∀ (k : Nat) (g : pG), k ≤ L → tPl u L c = k → fr [1] [] G g → g 1 2 = G 1 2 → g 1 1 = (k : Int) → ((pset (pset g 1 4 (g 1 1)) 1 5 0 1 1 < pset (pset g 1 4 (g 1 1)) 1 5 0 1 2 → pC1 pMT d 99 [pR 1, pI (pset (pset g 1 4 (g 1 1)) 1 5 0 1 1)] Yc (pset (pset g 1 4 (g 1 1)) 1 5 0) (fun r G_2 => ∀ x1 : Int, x1 = r → pC1 pMT d 105 [pI x1] Yc G_2 (fun r_2 G_3 => ((r_2 = 0 → pC1 pMT d 106 [pI x1] Yc G_3 (fun r_3 G_4 => ((r_3 = 0 → ((¬ x1 = 59 → (none : Option pV) = none ∧ tkC u L c G (pset (pset G_4 1 3 4) 1 1 (w32 (pset G_4 1 3 4 1 1 + 1)))) ∧ (x1 = 59 → (none : Option pV) = none ∧ tkC u L c G (pset (pset G_4 1 3 3) 1 1 (w32 (pset G_4 1 3 3 1 1 + 1)))))) ∧ (¬ r_3 = 0 → pC0 pMT d 103 [pR 1] Yc G_4 (fun G_5 => (none : Option pV) = none ∧ tkC u L c G G_5))))) ∧ (¬ r_2 = 0 → pC0 pMT d 102 [pR 1] Yc G_3 (fun G_4 => (none : Option pV) = none ∧ tkC u L c G G_4)))))) ∧ (pset (pset g 1 4 (g 1 1)) 1 5 0 1 2 ≤ pset (pset g 1 4 (g 1 1)) 1 5 0 1 1 → (none : Option pV) = none ∧ tkC u L c G (pset (pset (pset g 1 4 (g 1 1)) 1 5 0) 1 3 0))) := by
    intro k g hk hp f1 g2 g1
    rw [g1]
    have F2 : fr [1] [] G (pset (pset g 1 4 (k : Int)) 1 5 0) := f1.trans ((fr.set (by decide) (by decide) _ _ _).trans (fr.set (by decide) (by decide) _ _ _))
    have q1 : pset (pset g 1 4 (k : Int)) 1 5 0 1 1 = (k : Int) := by rw [pset_ne _ _ (by decide), pset_ne _ _ (by decide)]; exact g1
    have q2 : pset (pset g 1 4 (k : Int)) 1 5 0 1 2 = G 1 2 := by rw [pset_ne _ _ (by decide), pset_ne _ _ (by decide)]; exact g2
    have q4 : pset (pset g 1 4 (k : Int)) 1 5 0 1 4 = (k : Int) := by rw [pset_ne _ _ (by decide), pset_eq]
    have q5 : pset (pset g 1 4 (k : Int)) 1 5 0 1 5 = 0 := by rw [pset_eq]
    have hA : tpC (pset (pset g 1 4 (k : Int)) 1 5 0) u L := hG.mv q2 (F2.c 2 (by decide))
    generalize pset (pset g 1 4 (k : Int)) 1 5 0 = A at *
    rw [q1, q2, hG.1]
    refine ⟨fun z => pC1.of (by omega) (s99u hA (by omega)) ?_, fun z => ⟨rfl, ?_⟩⟩
    · intro x hx
      rw [hx]
      refine pC1.of (by omega) s105 ⟨fun y => pC1.of (by omega) s106 ⟨fun w => ?_, fun w => ?_⟩, fun y => ?_⟩
      · have y := b2i_0.mp y
        have w := b2i_0.mp w
        have nx : tNx u L c = k + 1 := by unfold tNx; rw [hp, if_pos (by omega), if_neg (pLe_f y), if_neg (pDi_f w)]
        have kd : tKd u L c = if u k = 59 then 3 else 4 := by unfold tKd; rw [hp, if_pos (by omega), if_neg (pLe_f y), if_neg (pDi_f w)]
        refine ⟨fun v => ⟨rfl, ?_⟩, fun v => ⟨rfl, ?_⟩⟩
        · rw [if_neg v] at kd
          unfold tkC
          rw [nx, hp, kd, pset_ne _ _ (by decide), q1, w32_id (by omega) (by omega)]
          refine ⟨F2.trans ((fr.set (by decide) (by decide) _ _ _).trans (fr.set (by decide) (by decide) _ _ _)), ?_, ?_, ?_, ?_, fun z => by omega, fun z => by omega⟩
          · rw [pset_ne _ _ (by decide), pset_ne _ _ (by decide)]; exact q2
          · rw [pset_eq]; omega
          · rw [pset_ne _ _ (by decide), pset_ne _ _ (by decide)]; exact q4
          · rw [pset_ne _ _ (by decide), pset_eq]
        · rw [if_pos v] at kd
          unfold tkC
          rw [nx, hp, kd, pset_ne _ _ (by decide), q1, w32_id (by omega) (by omega)]
          refine ⟨F2.trans ((fr.set (by decide) (by decide) _ _ _).trans (fr.set (by decide) (by decide) _ _ _)), ?_, ?_, ?_, ?_, fun z => by omega, fun z => by omega⟩
          · rw [pset_ne _ _ (by decide), pset_ne _ _ (by decide)]; exact q2
          · rw [pset_eq]; omega
          · rw [pset_ne _ _ (by decide), pset_ne _ _ (by decide)]; exact q4
          · rw [pset_ne _ _ (by decide), pset_eq]
      · have y := b2i_0.mp y
        have w := b2i_n0.mp w
        have nx : tNx u L c = skE pDi u L k := by unfold tNx; rw [hp, if_pos (by omega), if_neg (pLe_f y), if_pos (pDi_t w)]
        have kd : tKd u L c = if skE pDi u L k - k ≤ 4 then 2 else 4 := by unfold tKd; rw [nx, hp, if_pos (by omega), if_neg (pLe_f y), if_pos (pDi_t w)]
        refine pC0.ox (by omega) (s103 hA hk q4 q1 q5 (by omega)) (fun B hB => ⟨rfl, F2.trans hB.1, by rw [hB.2.1, q2], by rw [nx]; exact hB.2.2.1, by rw [hp]; exact hB.2.2.2.1, by rw [kd]; exact hB.2.2.2.2.1, fun z => ?_, fun z => ?_⟩)
        · rw [kd] at z; split at z <;> omega
        · rw [nx, hp]
          exact hB.2.2.2.2.2 (by rw [kd] at z; split at z <;> omega)
      · have y := b2i_n0.mp y
        have nx : tNx u L c = skE pLe u L k := by unfold tNx; rw [hp, if_pos (by omega), if_pos (pLe_t y)]
        have kd : tKd u L c = if skE pLe u L k - k ≤ 8 then 1 else 4 := by unfold tKd; rw [nx, hp, if_pos (by omega), if_pos (pLe_t y)]
        refine pC0.ox (by omega) (s102 hA hk q4 q1 q5 (by omega)) (fun B hB => ⟨rfl, F2.trans hB.1, by rw [hB.2.1, q2], by rw [nx]; exact hB.2.2.1, by rw [hp]; exact hB.2.2.2.1, by rw [kd]; exact hB.2.2.2.2.1, fun z => ?_, fun z => ?_⟩)
        · rw [nx, hp]
          exact hB.2.2.2.2.2 (by rw [kd] at z; split at z <;> omega)
        · rw [kd] at z; split at z <;> omega
    · have nx : tNx u L c = k := by unfold tNx; rw [hp, if_neg (by omega)]
      have kd : tKd u L c = 0 := by unfold tKd; rw [hp, if_neg (by omega)]
      unfold tkC
      rw [nx, hp, kd]
      refine ⟨F2.trans (fr.set (by decide) (by decide) _ _ _), ?_, ?_, ?_, by rw [pset_eq], fun z => by omega, fun z => by omega⟩
      · rw [pset_ne _ _ (by decide)]; exact q2
      · rw [pset_ne _ _ (by decide)]; exact q1
      · rw [pset_ne _ _ (by decide)]; exact q4
  intro n
  induction n with
  | zero =>
    intro k g hk hs f1 g2 g1
    have hp : tPl u L c = k := by unfold tPl; rw [← hs]; exact skE_n (by omega)
    exact v101_0 ⟨fun _ => go k g (by omega) hp f1 g2 g1, fun z => by rw [g2, hG.1, g1] at z; omega⟩
  | succ n ih =>
    intro k g hk hs f1 g2 g1
    have hg : tpC g u L := hG.mv g2 (f1.c 2 (by decide))
    refine v101_0 ⟨fun z => by rw [g2, hG.1, g1] at z; omega, fun _ => ?_⟩
    refine pC1.of (r := u k) (G' := g) (by omega) (by rw [g1]; exact s99u hg (by omega)) (pC1.of (by omega) s104 ⟨fun z => ?_, fun z => ?_⟩)
    · have z := b2i_0.mp z
      have hp : tPl u L c = k := by unfold tPl; rw [← hs]; exact skE_n (fun w => z (of_decide_eq_true w.2))
      exact go k g (by omega) hp f1 g2 g1
    · have z := b2i_n0.mp z
      rw [g1, w32_id (by omega) (by omega)]
      exact ih (k + 1) _ (by omega) (by rw [← hs]; exact (skE_y (by omega) (decide_eq_true z)).symm) (f1.trans (fr.set (by decide) (by decide) _ _ _)) (by rw [pset_ne _ _ (by decide)]; exact g2) (by rw [pset_eq]; omega)
theorem tpR.mv {G G' : pG} {u : Nat → Int} {L : Nat} (h : tpR G u L) (h1 : G' 109 2 = G 109 2) (h2 : G' 110 = G 110) : tpR G' u L := ⟨by rw [h1]; exact h.1, h.2.1, by rw [h2]; exact h.2.2.1, h.2.2.2⟩
theorem s168u {d : Nat} {G : pG} {u : Nat → Int} {L c : Nat} (h : tpR G u L) : pRuns pMT d 168 [pR 109, pI (c : Int)] Yc G (some (pI (if c < L then u c else 0))) G := by
  have := s168 (d := d) (G := G) (i := (c : Int)) (by omega) (by rw [h.1]; have := h.2.1; omega)
  have e : (if (c : Int) < G 109 2 then pand (G 110 (c : Int).toNat) 255 else 0) = if c < L then u c else 0 := by
    rw [h.1, Int.toNat_natCast]
    by_cases q : c < L
    · rw [if_pos q, if_pos (by omega), (h.2.2.1 c (by have := h.2.1; omega)).1]
    · rw [if_neg q, if_neg (by omega)]
  rw [e] at this
  exact this
/-- the reference's next token -/
def tkR (u : Nat → Int) (L c : Nat) (G G' : pG) : Prop := fr [] [3, 4, 5, 6] G G' ∧ G' 109 4 = (tNx u L c : Int) ∧ G' 109 3 = (tPl u L c : Int) ∧ G' 109 5 = tKd u L c ∧ (tKd u L c = 2 → G' 109 6 = nV u (tPl u L c) (tNx u L c - tPl u L c))
theorem l171w {d : Nat} {G : pG} {u : Nat → Int} {L a : Nat} (hG : tpR G u L) (ha : a ≤ L) {R : Option pV → pG → Prop} (hd : 1 ≤ d) (hR : ∀ g, fr [] [4, 5] G g → g 109 4 = (skE pLe u L a : Int) → g 109 5 = (if skE pLe u L a - a ≤ 8 then 1 else 4) → R none g) (h3 : G 109 3 = (a : Int)) (h4 : G 109 4 = (a : Int)) : pEnds pMT d 171 Yc R 95 [pR 109, pU] [] G := by
  have L8 := hG.2.1
  suffices H : ∀ (n c : Nat) (g : pG), c + n = L → a ≤ c → skE pLe u L c = skE pLe u L a → fr [] [4, 5] G g → g 109 4 = (c : Int) → pEnds pMT d 171 Yc R 95 [pR 109, pU] [] g by
    exact H (L - a) a G (by omega) (by omega) rfl (fr.refl _ _ _) h4
  have stop : ∀ (c : Nat) (g : pG), a ≤ c → c ≤ L → skE pLe u L a = c → fr [] [4, 5] G g → g 109 4 = (c : Int) → ((w32 (g 109 4 - g 109 3) ≤ 8 → R none (pset g 109 5 1)) ∧ (8 < w32 (g 109 4 - g 109 3) → R none (pset g 109 5 4))) := by
    intro c g hac hcL hs f1 g4
    rw [g4, f1.f 3 (by decide), h3, w32_id (by omega) (by omega)]
    refine ⟨fun z => hR _ (f1.trans (fr.setF (by decide) _ _)) ?_ ?_, fun z => hR _ (f1.trans (fr.setF (by decide) _ _)) ?_ ?_⟩
    · rw [pset_ne _ _ (by decide), hs]; exact g4
    · rw [pset_eq, hs, if_pos (by omega)]
    · rw [pset_ne _ _ (by decide), hs]; exact g4
    · rw [pset_eq, hs, if_neg (by omega)]
  intro n
  induction n with
  | zero =>
    intro c g hc hac hs f1 g4
    have hg : tpR g u L := hG.mv (f1.f 2 (by decide)) (f1.c 110 (by decide))
    have hs' : skE pLe u L a = c := by rw [← hs]; exact skE_n (by omega)
    refine v171_95 ?_
    refine pC1.of (r := 0) (G' := g) hd (by have := s168u (d := d - 1) (c := c) hg; rw [if_neg (by omega)] at this; rw [g4]; exact this) (pC1.of hd s169 ⟨fun _ => stop c g hac (by omega) hs' f1 g4, fun z => absurd (b2i_n0.mp z) (by omega)⟩)
  | succ n ih =>
    intro c g hc hac hs f1 g4
    have hg : tpR g u L := hG.mv (f1.f 2 (by decide)) (f1.c 110 (by decide))
    refine v171_95 ?_
    refine pC1.of (r := u c) (G' := g) hd (by have := s168u (d := d - 1) (c := c) hg; rw [if_pos (by omega)] at this; rw [g4]; exact this) (pC1.of hd s169 ⟨fun z => ?_, fun z => ?_⟩)
    · have hs' : skE pLe u L a = c := by rw [← hs]; exact skE_n (fun w => b2i_0.mp z (of_decide_eq_true w.2))
      exact stop c g hac (by omega) hs' f1 g4
    · rw [g4, w32_id (by omega) (by omega)]
      exact ih (c + 1) _ (by omega) (by omega) (by rw [← hs]; exact (skE_y (by omega) (decide_eq_true (b2i_n0.mp z))).symm) (f1.trans (fr.setF (by decide) _ _)) (by rw [pset_eq]; omega)
theorem l171n {d : Nat} {G : pG} {u : Nat → Int} {L a : Nat} (hG : tpR G u L) (ha : a ≤ L) {R : Option pV → pG → Prop} (hd : 1 ≤ d) (hR : ∀ g, fr [] [4, 5, 6] G g → g 109 4 = (skE pDi u L a : Int) → g 109 5 = (if skE pDi u L a - a ≤ 4 then 2 else 4) → (skE pDi u L a - a ≤ 4 → g 109 6 = nV u a (skE pDi u L a - a)) → R none g) (h3 : G 109 3 = (a : Int)) (h4 : G 109 4 = (a : Int)) (h6 : G 109 6 = 0) : pEnds pMT d 171 Yc R 160 [pR 109, pU] [] G := by
  have L8 := hG.2.1
  have p8 : ∀ n : Nat, n ≤ 4 → (10 : Int) ^ n ≤ 10000 := by decide
  suffices H : ∀ (n c : Nat) (g : pG), c + n = L → a ≤ c → skE pDi u L c = skE pDi u L a → fr [] [4, 5, 6] G g → g 109 4 = (c : Int) → (∀ i : Nat, i < c - a → 48 ≤ u (a + i) ∧ u (a + i) ≤ 57) → (c - a ≤ 4 → g 109 6 = nV u a (c - a)) → pEnds pMT d 171 Yc R 160 [pR 109, pU] [] g by
    exact H (L - a) a G (by omega) (by omega) rfl (fr.refl _ _ _) h4 (fun i hi => by omega) (fun _ => by rw [h6, Nat.sub_self]; rfl)
  have stop : ∀ (c : Nat) (g : pG), a ≤ c → c ≤ L → skE pDi u L a = c → fr [] [4, 5, 6] G g → g 109 4 = (c : Int) → (c - a ≤ 4 → g 109 6 = nV u a (c - a)) → ((w32 (g 109 4 - g 109 3) ≤ 4 → R none (pset g 109 5 2)) ∧ (4 < w32 (g 109 4 - g 109 3) → R none (pset g 109 5 4))) := by
    intro c g hac hcL hs f1 g4 g6
    rw [g4, f1.f 3 (by decide), h3, w32_id (by omega) (by omega)]
    refine ⟨fun z => hR _ (f1.trans (fr.setF (by decide) _ _)) ?_ ?_ ?_, fun z => hR _ (f1.trans (fr.setF (by decide) _ _)) ?_ ?_ ?_⟩
    · rw [pset_ne _ _ (by decide), hs]; exact g4
    · rw [pset_eq, hs, if_pos (by omega)]
    · rw [pset_ne _ _ (by decide), hs]; exact g6
    · rw [pset_ne _ _ (by decide), hs]; exact g4
    · rw [pset_eq, hs, if_neg (by omega)]
    · rw [pset_ne _ _ (by decide), hs]; exact g6
  intro n
  induction n with
  | zero =>
    intro c g hc hac hs f1 g4 g7 g6
    have hg : tpR g u L := hG.mv (f1.f 2 (by decide)) (f1.c 110 (by decide))
    have hs' : skE pDi u L a = c := by rw [← hs]; exact skE_n (by omega)
    refine v171_160 ?_
    refine pC1.of (r := 0) (G' := g) hd (by have := s168u (d := d - 1) (c := c) hg; rw [if_neg (by omega)] at this; rw [g4]; exact this) (pC1.of hd s170 ⟨fun _ => stop c g hac (by omega) hs' f1 g4 g6, fun z => absurd (b2i_n0.mp z) (by omega)⟩)
  | succ n ih =>
    intro c g hc hac hs f1 g4 g7 g6
    have hg : tpR g u L := hG.mv (f1.f 2 (by decide)) (f1.c 110 (by decide))
    have rd : pRuns pMT (d - 1) 168 [pR 109, pI (g 109 4)] Yc g (some (pI (u c))) g := by have := s168u (d := d - 1) (c := c) hg; rw [if_pos (by omega)] at this; rw [g4]; exact this
    refine v171_160 ?_
    refine pC1.of hd rd (pC1.of hd s170 ⟨fun z => ?_, fun z => ?_⟩)
    · have hs' : skE pDi u L a = c := by rw [← hs]; exact skE_n (fun w => b2i_0.mp z (of_decide_eq_true w.2))
      exact stop c g hac (by omega) hs' f1 g4 g6
    · have z := b2i_n0.mp z
      have hs' : skE pDi u L (c + 1) = skE pDi u L a := by rw [← hs]; exact (skE_y (by omega) (decide_eq_true z)).symm
      have g7' : ∀ i : Nat, i < c + 1 - a → 48 ≤ u (a + i) ∧ u (a + i) ≤ 57 := by
        intro i hi
        by_cases e : i = c - a
        · rw [e, show a + (c - a) = c by omega]; exact z
        · exact g7 i (by omega)
      refine ⟨fun y => ?_, fun y => pC1.of hd rd ?_⟩
      · rw [g4, f1.f 3 (by decide), h3, w32_id (by omega) (by omega)] at y
        rw [g4, w32_id (by omega) (by omega)]
        exact ih (c + 1) _ (by omega) (by omega) hs' (f1.trans (fr.setF (by decide) _ _)) (by rw [pset_eq]; omega) g7' (fun w => by omega)
      · rw [g4, f1.f 3 (by decide), h3, w32_id (by omega) (by omega)] at y
        have bd := nV_bd (u := u) (a := a) (c - a) g7
        have p := p8 (c - a) (by omega)
        rw [g6 (by omega), pset_ne _ _ (by decide), g4, w32_id (x := (c : Int) + 1) (by omega) (by omega), w32_id (x := 10 * nV u a (c - a)) (by omega) (by omega), w32_id (x := 10 * nV u a (c - a) + u c) (by omega) (by omega), w32_id (x := 10 * nV u a (c - a) + u c - 48) (by omega) (by omega)]
        refine ih (c + 1) _ (by omega) (by omega) hs' (f1.trans ((fr.setF (by decide) _ _).trans (fr.setF (by decide) _ _))) (by rw [pset_eq]; omega) g7' (fun w => ?_)
        rw [pset_ne _ _ (by decide), pset_eq, show c + 1 - a = (c - a) + 1 by omega]
        show _ = nV u a (c - a) * 10 + (u (a + (c - a)) - 48)
        rw [show a + (c - a) = c by omega]
        omega
theorem s171 {d : Nat} {G : pG} {u : Nat → Int} {L c : Nat} (hG : tpR G u L) (hc : c ≤ L) (h1 : G 109 4 = (c : Int)) (hd : 1 ≤ d) : ∃ G', pRuns pMT d 171 [pR 109] Yc G none G' ∧ tkR u L c G G' := by
  have L8 := hG.2.1
  refine pX0 rfl rfl ?_
  suffices H : ∀ (n k : Nat) (g : pG), k + n = L → skE pBl u L k = skE pBl u L c → fr [] [3, 4, 5, 6] G g → g 109 4 = (k : Int) → pEnds pMT d 171 Yc (fun r g => r = none ∧ tkR u L c G g) 0 [pR 109, pU] [] g by
    exact H (L - c) c G (by omega) rfl (fr.refl _ _ _) h1
  have go : ∀ (k : Nat) (g : pG), k ≤ L → tPl u L c = k → fr [] [3, 4, 5, 6] G g → g 109 4 = (k : Int) → pC1 pMT d 168 [pR 109, pI (pset g 109 3 (g 109 4) 109 3)] Yc (pset g 109 3 (g 109 4)) (fun r G_2 => ∀ x1 : Int, x1 = r → ((¬ G_2 109 3 = G_2 109 2 → pC1 pMT d 169 [pI x1] Yc G_2 (fun r_2 G_3 => ((r_2 = 0 → pC1 pMT d 170 [pI x1] Yc G_3 (fun r_3 G_4 => ((r_3 = 0 → ((¬ x1 = 59 → (none : Option pV) = none ∧ tkR u L c G (pset (pset G_4 109 5 4) 109 4 (w32 (pset G_4 109 5 4 109 4 + 1)))) ∧ (x1 = 59 → (none : Option pV) = none ∧ tkR u L c G (pset (pset G_4 109 5 3) 109 4 (w32 (pset G_4 109 5 3 109 4 + 1)))))) ∧ (¬ r_3 = 0 → pEnds pMT d 171 Yc (fun r g => r = none ∧ tkR u L c G g) 160 [pR 109, pU] [] (pset G_4 109 6 0))))) ∧ (¬ r_2 = 0 → pEnds pMT d 171 Yc (fun r g => r = none ∧ tkR u L c G g) 95 [pR 109, pU] [] G_3)))) ∧ (G_2 109 3 = G_2 109 2 → (none : Option pV) = none ∧ tkR u L c G (pset G_2 109 5 0)))) := by
    intro k g hk hp f1 g4
    rw [g4]
    have F2 : fr [] [3, 4, 5, 6] G (pset g 109 3 (k : Int)) := f1.trans (fr.setF (by decide) _ _)
    have q3 : pset g 109 3 (k : Int) 109 3 = (k : Int) := by rw [pset_eq]
    have q4 : pset g 109 3 (k : Int) 109 4 = (k : Int) := by rw [pset_ne _ _ (by decide)]; exact g4
    have q2 : pset g 109 3 (k : Int) 109 2 = (L : Int) := by rw [F2.f 2 (by decide)]; exact hG.1
    have hA : tpR (pset g 109 3 (k : Int)) u L := hG.mv (F2.f 2 (by decide)) (F2.c 110 (by decide))
    generalize pset g 109 3 (k : Int) = A at *
    rw [q3]
    refine pC1.of hd (s168u hA) ?_
    rw [q3, q2]
    intro x hx
    refine ⟨fun z => ?_, fun z => ⟨rfl, ?_⟩⟩
    · rw [if_pos (by omega)] at hx
      rw [hx]
      refine pC1.of hd s169 ⟨fun y => pC1.of hd s170 ⟨fun w => ?_, fun w => ?_⟩, fun y => ?_⟩
      · have y := b2i_0.mp y
        have w := b2i_0.mp w
        have nx : tNx u L c = k + 1 := by unfold tNx; rw [hp, if_pos (by omega), if_neg (pLe_f y), if_neg (pDi_f w)]
        have kd : tKd u L c = if u k = 59 then 3 else 4 := by unfold tKd; rw [hp, if_pos (by omega), if_neg (pLe_f y), if_neg (pDi_f w)]
        refine ⟨fun v => ⟨rfl, ?_⟩, fun v => ⟨rfl, ?_⟩⟩
        · rw [if_neg v] at kd
          unfold tkR
          rw [nx, hp, kd, pset_ne _ _ (by decide), q4, w32_id (by omega) (by omega)]
          refine ⟨F2.trans ((fr.setF (by decide) _ _).trans (fr.setF (by decide) _ _)), ?_, ?_, ?_, fun z => by omega⟩
          · rw [pset_eq]; omega
          · rw [pset_ne _ _ (by decide), pset_ne _ _ (by decide)]; exact q3
          · rw [pset_ne _ _ (by decide), pset_eq]
        · rw [if_pos v] at kd
          unfold tkR
          rw [nx, hp, kd, pset_ne _ _ (by decide), q4, w32_id (by omega) (by omega)]
          refine ⟨F2.trans ((fr.setF (by decide) _ _).trans (fr.setF (by decide) _ _)), ?_, ?_, ?_, fun z => by omega⟩
          · rw [pset_eq]; omega
          · rw [pset_ne _ _ (by decide), pset_ne _ _ (by decide)]; exact q3
          · rw [pset_ne _ _ (by decide), pset_eq]
      · have y := b2i_0.mp y
        have w := b2i_n0.mp w
        have nx : tNx u L c = skE pDi u L k := by unfold tNx; rw [hp, if_pos (by omega), if_neg (pLe_f y), if_pos (pDi_t w)]
        have kd : tKd u L c = if skE pDi u L k - k ≤ 4 then 2 else 4 := by unfold tKd; rw [nx, hp, if_pos (by omega), if_neg (pLe_f y), if_pos (pDi_t w)]
        have F6 : fr [] [3, 4, 5, 6] A (pset A 109 6 0) := fr.setF (by decide) _ _
        refine l171n (a := k) (hA.mv (F6.f 2 (by decide)) (F6.c 110 (by decide))) hk hd (fun B h1 h2 h3 h4 => ⟨rfl, F2.trans (F6.trans (h1.mono (by decide) (by decide))), by rw [nx]; exact h2, by rw [hp, h1.f 3 (by decide), pset_ne _ _ (by decide)]; exact q3, by rw [kd]; exact h3, fun z => ?_⟩) (by rw [pset_ne _ _ (by decide)]; exact q3) (by rw [pset_ne _ _ (by decide)]; exact q4) (by rw [pset_eq])
        rw [nx, hp]
        exact h4 (by rw [kd] at z; split at z <;> omega)
      · have y := b2i_n0.mp y
        have nx : tNx u L c = skE pLe u L k := by unfold tNx; rw [hp, if_pos (by omega), if_pos (pLe_t y)]
        have kd : tKd u L c = if skE pLe u L k - k ≤ 8 then 1 else 4 := by unfold tKd; rw [nx, hp, if_pos (by omega), if_pos (pLe_t y)]
        refine l171w (a := k) hA hk hd (fun B h1 h2 h3 => ⟨rfl, F2.trans (h1.mono (by decide) (by decide)), by rw [nx]; exact h2, by rw [hp, h1.f 3 (by decide)]; exact q3, by rw [kd]; exact h3, fun z => ?_⟩) q3 q4
        rw [kd] at z; split at z <;> omega
    · have nx : tNx u L c = k := by unfold tNx; rw [hp, if_neg (by omega)]
      have kd : tKd u L c = 0 := by unfold tKd; rw [hp, if_neg (by omega)]
      unfold tkR
      rw [nx, hp, kd]
      refine ⟨F2.trans (fr.setF (by decide) _ _), ?_, ?_, by rw [pset_eq], fun z => by omega⟩
      · rw [pset_ne _ _ (by decide)]; exact q4
      · rw [pset_ne _ _ (by decide)]; exact q3
  intro n
  induction n with
  | zero =>
    intro k g hk hs f1 g4
    have hp : tPl u L c = k := by unfold tPl; rw [← hs]; exact skE_n (by omega)
    exact v171_0 ⟨fun _ => go k g (by omega) hp f1 g4, fun z => by rw [f1.f 2 (by decide), hG.1, g4] at z; omega⟩
  | succ n ih =>
    intro k g hk hs f1 g4
    obtain ⟨x1, x2, x3⟩ := hG.2.2.1 k (by omega)
    have e110 : g 110 (Int.toNat (g 109 4)) = G 110 k := by rw [g4, Int.toNat_natCast, f1.c 110 (by decide)]
    have nx : u k = 32 ∨ u k = 10 → pEnds pMT d 171 Yc (fun r g => r = none ∧ tkR u L c G g) 0 [pR 109, pU] [] (pset g 109 4 (w32 (g 109 4 + 1))) := by
      intro h
      rw [g4, w32_id (by omega) (by omega)]
      exact ih (k + 1) _ (by omega) (by rw [← hs]; exact (skE_y (by omega) (decide_eq_true h)).symm) (f1.trans (fr.setF (by decide) _ _)) (by rw [pset_eq]; omega)
    refine v171_0 ⟨fun z => by rw [f1.f 2 (by decide), hG.1, g4] at z; omega, fun _ => ⟨by omega, by omega, ?_⟩⟩
    rw [e110]
    refine ⟨fun z => nx (Or.inl (x2.mp z)), fun z => ⟨by omega, by omega, fun y => ?_, fun y => nx (Or.inr (x3.mp y))⟩⟩
    have hp : tPl u L c = k := by
      unfold tPl
      rw [← hs]
      refine skE_n (fun w => ?_)
      rcases of_decide_eq_true w.2 with w2 | w2
      · exact z (x2.mpr w2)
      · exact y (x3.mpr w2)
    exact go k g (by omega) hp f1 g4
theorem s175 {d : Nat} {G : pG} {u : Nat → Int} {L : Nat} (h1 : G 109 1 = (L : Int)) (hL : L ≤ 800) (hu : (∀ i : Nat, i < 800 → pand (G 110 i) 255 = u i ∧ (G 110 i = 32 ↔ u i = 32) ∧ (G 110 i = 10 ↔ u i = 10)) ∧ ∀ i : Nat, i < 800 → 0 ≤ u i ∧ u i ≤ 255) (hd : 2 ≤ d) : ∃ G', pRuns pMT d 175 [pR 109] Yc G none G' ∧ (fr [] [1, 2, 3, 4, 5, 6] G G' ∧ G' 109 1 = 0 ∧ tpR G' u L ∧ G' 109 4 = (tNx u L 0 : Int) ∧ G' 109 3 = (tPl u L 0 : Int) ∧ G' 109 5 = tKd u L 0 ∧ (tKd u L 0 = 2 → G' 109 6 = nV u (tPl u L 0) (tNx u L 0 - tPl u L 0))) := by
  have F : fr [] [1, 2, 3, 4, 5, 6] G (pset (pset (pset G 109 2 (G 109 1)) 109 1 0) 109 4 0) := (fr.setF (by decide) _ _).trans ((fr.setF (by decide) _ _).trans (fr.setF (by decide) _ _))
  have q2 : pset (pset (pset G 109 2 (G 109 1)) 109 1 0) 109 4 0 109 2 = (L : Int) := by simp [pset_at, h1]
  have q1 : pset (pset (pset G 109 2 (G 109 1)) 109 1 0) 109 4 0 109 1 = 0 := by simp [pset_at]
  have q4 : pset (pset (pset G 109 2 (G 109 1)) 109 1 0) 109 4 0 109 4 = ((0 : Nat) : Int) := by simp [pset_at]
  have hA : tpR (pset (pset (pset G 109 2 (G 109 1)) 109 1 0) 109 4 0) u L := ⟨q2, hL, by rw [F.c 110 (by decide)]; exact hu.1, hu.2⟩
  refine pX0 rfl rfl (v175_0 (pC0.ox (by omega) (s171 hA (by omega) q4 (by omega)) (fun B hB => ⟨rfl, F.trans (hB.1.mono (by decide) (by decide)), by rw [hB.1.f 1 (by decide)]; exact q1, hA.mv (hB.1.f 2 (by decide)) (hB.1.c 110 (by decide)), hB.2.1, hB.2.2.1, hB.2.2.2.1, hB.2.2.2.2⟩)))
