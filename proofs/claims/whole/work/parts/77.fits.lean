/-! fits: what is left over by heat and dull, and who may tell it -/
abbrev vTri : Type := Int × Int × Int
abbrev vBk : Type := Int × Int × Int × Int × Int × Int × Int
def dlO (q s i : Int) : Int := if dStep q = s then dBy q * i / 5 else 0
def woO (w t i : Int) : Int := if wTool w = t ∧ wFrom w ≤ i then wBy w else 0
/-- part, step, off: what is left -/
def rst (h q : Int) (x : vTri) : Int := x.2.2 - (h * x.1).tdiv 5 - dlO q x.2.1 x.1
def spI : Int × (Nat → Int) × (Nat → Int) × (Nat → Int) := (0, fun _ => -1, fun _ => 40, fun _ => 0)
def spS (tl : Int → Int) (h q : Int) (x : vTri) (s : Int × (Nat → Int) × (Nat → Int) × (Nat → Int)) : Option (Int × (Nat → Int) × (Nat → Int) × (Nat → Int)) :=
  if rst h q x = 0 then some (s.1, vUpd s.2.1 (tl x.2.1).toNat (max (s.2.1 (tl x.2.1).toNat) x.1), s.2.2.1, s.2.2.2)
  else if (1 ≤ rst h q x ∧ rst h q x ≤ 5) ∧ (s.2.2.2 (tl x.2.1).toNat = 0 ∨ s.2.2.2 (tl x.2.1).toNat = rst h q x) then some (por s.1 (pshl 1 (tl x.2.1)), s.2.1, vUpd s.2.2.1 (tl x.2.1).toNat (min (s.2.2.1 (tl x.2.1).toNat) x.1), vUpd s.2.2.2 (tl x.2.1).toNat (rst h q x))
  else none
def spF (tl : Int → Int) (h q : Int) : List vTri → Option (Int × (Nat → Int) × (Nat → Int) × (Nat → Int)) → Option (Int × (Nat → Int) × (Nat → Int) × (Nat → Int))
  | [], s => s
  | x :: l, s => spF tl h q l (match s with | none => none | some s => spS tl h q x s)
theorem spF_none (tl : Int → Int) (h q : Int) : ∀ l : List vTri, spF tl h q l none = none
  | [] => rfl
  | _ :: l => spF_none tl h q l
theorem spF_app (tl : Int → Int) (h q : Int) : ∀ (l l2 : List vTri) (s : Option (Int × (Nat → Int) × (Nat → Int) × (Nat → Int))), spF tl h q (l ++ l2) s = spF tl h q l2 (spF tl h q l s)
  | [], _, _ => rfl
  | x :: l, l2, s => spF_app tl h q l l2 _
/-- all that was seen is told -/
def fitW (tl : Int → Int) (h q w : Int) (l : List vTri) : Prop := ∀ x ∈ l, woO w (tl x.2.1) x.1 = rst h q x
theorem woO_r (w t i : Int) (h : 0 ≤ w) : woO w t i = 0 ∨ (1 ≤ woO w t i ∧ woO w t i ≤ 5) := by
  unfold woO wBy
  split
  · split
    · exact Or.inl rfl
    · omega
  · exact Or.inl rfl
/-- what the state says of what was seen -/
def spP (tl : Int → Int) (h q : Int) (l : List vTri) (s : Int × (Nat → Int) × (Nat → Int) × (Nat → Int)) : Prop :=
  0 ≤ s.1 ∧ s.1 < 64 ∧ (∀ t : Nat, t < 6 → (bt s.1 t = true ↔ ∃ x ∈ l, tl x.2.1 = (t : Int) ∧ rst h q x ≠ 0)) ∧ (∀ t : Nat, 6 ≤ t → bt s.1 t = false) ∧
  (∀ t : Nat, t < 6 → -1 ≤ s.2.1 t ∧ s.2.1 t ≤ 39 ∧ (∀ x ∈ l, tl x.2.1 = (t : Int) → rst h q x = 0 → x.1 ≤ s.2.1 t) ∧ (s.2.1 t = -1 ∨ ∃ x ∈ l, tl x.2.1 = (t : Int) ∧ rst h q x = 0 ∧ x.1 = s.2.1 t)) ∧
  (∀ t : Nat, t < 6 → 0 ≤ s.2.2.1 t ∧ s.2.2.1 t ≤ 40 ∧ (∀ x ∈ l, tl x.2.1 = (t : Int) → rst h q x ≠ 0 → s.2.2.1 t ≤ x.1 ∧ s.2.2.2 t = rst h q x) ∧ (s.2.2.1 t = 40 ∨ ∃ x ∈ l, tl x.2.1 = (t : Int) ∧ rst h q x ≠ 0 ∧ x.1 = s.2.2.1 t) ∧ 0 ≤ s.2.2.2 t ∧ s.2.2.2 t ≤ 5 ∧ (s.2.2.2 t ≠ 0 → ∃ x ∈ l, tl x.2.1 = (t : Int) ∧ rst h q x ≠ 0))
theorem spP_step {tl : Int → Int} {h q : Int} {l : List vTri} {x : vTri} {s s' : Int × (Nat → Int) × (Nat → Int) × (Nat → Int)} (hp : spP tl h q l s) (hx : 0 ≤ x.1 ∧ x.1 ≤ 39 ∧ 0 ≤ tl x.2.1 ∧ tl x.2.1 ≤ 5) (hs : spS tl h q x s = some s') : spP tl h q (l ++ [x]) s' := by
  obtain ⟨a1, a2, a3, a4, a5, a6⟩ := hp
  obtain ⟨k, hk⟩ : ∃ k : Nat, tl x.2.1 = (k : Int) := ⟨(tl x.2.1).toNat, by omega⟩
  have mem : ∀ (P : vTri → Prop), (∃ y ∈ l ++ [x], P y) ↔ ((∃ y ∈ l, P y) ∨ P x) := by
    intro P
    constructor
    · rintro ⟨y, hy, hP⟩
      rcases List.mem_append.mp hy with h | h
      · exact Or.inl ⟨y, h, hP⟩
      · rw [List.mem_singleton] at h; subst h; exact Or.inr hP
    · rintro (⟨y, hy, hP⟩ | hP)
      · exact ⟨y, List.mem_append.mpr (Or.inl hy), hP⟩
      · exact ⟨x, List.mem_append.mpr (Or.inr (List.mem_singleton.mpr rfl)), hP⟩
  have mall : ∀ (P : vTri → Prop), (∀ y ∈ l ++ [x], P y) ↔ ((∀ y ∈ l, P y) ∧ P x) := by
    intro P
    constructor
    · intro h; exact ⟨fun y hy => h y (List.mem_append.mpr (Or.inl hy)), h x (List.mem_append.mpr (Or.inr (List.mem_singleton.mpr rfl)))⟩
    · rintro ⟨h1, h2⟩ y hy
      rcases List.mem_append.mp hy with h | h
      · exact h1 y h
      · rw [List.mem_singleton] at h; subst h; exact h2
  unfold spS at hs
  rw [hk, Int.toNat_natCast] at hs
  by_cases r0 : rst h q x = 0
  · rw [if_pos r0] at hs
    simp at hs
    subst hs
    refine ⟨a1, a2, fun t ht => ?_, a4, fun t ht => ?_, fun t ht => ?_⟩
    · rw [mem]
      constructor
      · intro z; exact Or.inl ((a3 t ht).mp z)
      · rintro (z | z)
        · exact (a3 t ht).mpr z
        · exact absurd r0 z.2
    · obtain ⟨b1, b2, b3, b4⟩ := a5 t ht
      rw [mem, mall]
      unfold vUpd
      by_cases e : t = k
      · subst e
        simp only [↓reduceIte]
        refine ⟨by omega, by omega, ⟨fun y hy h1 h2 => by have := b3 y hy h1 h2; omega, fun _ _ => by omega⟩, ?_⟩
        by_cases z : s.2.1 t ≤ x.1
        · exact Or.inr (Or.inr ⟨hk, r0, by omega⟩)
        · rcases b4 with b4 | ⟨y, y1, y2, y3, y4⟩
          · omega
          · exact Or.inr (Or.inl ⟨y, y1, y2, y3, by omega⟩)
      · simp only [if_neg e]
        refine ⟨b1, b2, ⟨b3, fun z => by omega⟩, ?_⟩
        rcases b4 with b4 | b4
        · exact Or.inl b4
        · exact Or.inr (Or.inl b4)
    · obtain ⟨b1, b2, b3, b4, b5, b6, b7⟩ := a6 t ht
      rw [mem, mall, mem]
      refine ⟨b1, b2, ⟨b3, fun _ z => absurd r0 z⟩, ?_, b5, b6, fun z => Or.inl (b7 z)⟩
      rcases b4 with b4 | b4
      · exact Or.inl b4
      · exact Or.inr (Or.inl b4)
  · rw [if_neg r0] at hs
    by_cases c : (1 ≤ rst h q x ∧ rst h q x ≤ 5) ∧ (s.2.2.2 k = 0 ∨ s.2.2.2 k = rst h q x)
    · rw [if_pos c] at hs
      simp at hs
      subst hs
      obtain ⟨u1, u2, u3, u4⟩ := por_set a1 (show s.1 < 2147483648 by omega) (show k < 31 by omega)
      have u5 := u4 6 (by omega) (by omega) (by omega)
      refine ⟨u1, by show por s.1 (pshl 1 (k : Int)) < 64; omega, fun t ht => ?_, fun t ht => ?_, fun t ht => ?_, fun t ht => ?_⟩
      · show bt (por s.1 (pshl 1 (k : Int))) t = true ↔ _
        rw [u3 t, Bool.or_eq_true, decide_eq_true_iff, mem, a3 t ht]
        constructor
        · rintro (z | rfl)
          · exact Or.inl z
          · exact Or.inr ⟨hk, r0⟩
        · rintro (z | z)
          · exact Or.inl z
          · exact Or.inr (by omega)
      · show bt (por s.1 (pshl 1 (k : Int))) t = false
        rw [u3 t, a4 t ht, decide_eq_false (by omega)]
        rfl
      · obtain ⟨b1, b2, b3, b4⟩ := a5 t ht
        rw [mem, mall]
        refine ⟨b1, b2, ⟨b3, fun _ z => absurd z r0⟩, ?_⟩
        rcases b4 with b4 | b4
        · exact Or.inl b4
        · exact Or.inr (Or.inl b4)
      · obtain ⟨b1, b2, b3, b4, b5, b6, b7⟩ := a6 t ht
        rw [mem, mall, mem]
        unfold vUpd
        by_cases e : t = k
        · subst e
          simp only [↓reduceIte]
          refine ⟨by omega, by omega, ⟨fun y hy h1 h2 => ?_, fun _ _ => by constructor <;> first | omega | trivial | rfl⟩, ?_, by omega, by omega, fun _ => Or.inr ⟨hk, r0⟩⟩
          · obtain ⟨c1, c2⟩ := b3 y hy h1 h2
            refine ⟨by omega, ?_⟩
            rcases c.2 with c3 | c3
            · exact absurd (c3.symm.trans c2).symm h2
            · rw [← c3]; exact c2
          · by_cases z : x.1 ≤ s.2.2.1 t
            · exact Or.inr (Or.inr ⟨hk, r0, by omega⟩)
            · rcases b4 with b4 | ⟨y, y1, y2, y3, y4⟩
              · omega
              · exact Or.inr (Or.inl ⟨y, y1, y2, y3, by omega⟩)
        · simp only [if_neg e]
          refine ⟨b1, b2, ⟨b3, fun z => by omega⟩, ?_, b5, b6, fun z => Or.inl (b7 z)⟩
          rcases b4 with b4 | b4
          · exact Or.inl b4
          · exact Or.inr (Or.inl b4)
    · rw [if_neg c] at hs
      simp at hs
theorem spP_0 (tl : Int → Int) (h q : Int) : spP tl h q [] spI := by
  refine ⟨Int.le_refl _, by show (0 : Int) < 64; omega, fun t _ => ?_, fun t _ => bt0 t, fun t _ => ?_, fun t _ => ?_⟩
  · rw [show bt spI.1 t = false from bt0 t]
    simp
  · exact ⟨by show (-1 : Int) ≤ -1; omega, by show (-1 : Int) ≤ 39; omega, fun y hy => by simp at hy, Or.inl rfl⟩
  · exact ⟨by show (0 : Int) ≤ 40; omega, by show (40 : Int) ≤ 40; omega, fun y hy => by simp at hy, Or.inl rfl, by show (0 : Int) ≤ 0; omega, by show (0 : Int) ≤ 5; omega, fun z => absurd rfl z⟩
/-- nobody tells what can't be split -/
theorem spS_bad {tl : Int → Int} {h q : Int} {l : List vTri} {x : vTri} {s : Int × (Nat → Int) × (Nat → Int) × (Nat → Int)} (hp : spP tl h q l s) (hx : 0 ≤ x.1 ∧ x.1 ≤ 39 ∧ 0 ≤ tl x.2.1 ∧ tl x.2.1 ≤ 5) (hs : spS tl h q x s = none) (w : Int) (hw : 0 ≤ w) : ¬ fitW tl h q w (l ++ [x]) := by
  intro hf
  have hfx : woO w (tl x.2.1) x.1 = rst h q x := hf x (List.mem_append.mpr (Or.inr (List.mem_singleton.mpr rfl)))
  unfold spS at hs
  by_cases r0 : rst h q x = 0
  · rw [if_pos r0] at hs; simp at hs
  · rw [if_neg r0] at hs
    by_cases c : (1 ≤ rst h q x ∧ rst h q x ≤ 5) ∧ (s.2.2.2 (tl x.2.1).toNat = 0 ∨ s.2.2.2 (tl x.2.1).toNat = rst h q x)
    · rw [if_pos c] at hs; simp at hs
    · have r1 := woO_r w (tl x.2.1) x.1 hw
      rw [hfx] at r1
      have r2 : 1 ≤ rst h q x ∧ rst h q x ≤ 5 := by omega
      have c2 : ¬ (s.2.2.2 (tl x.2.1).toNat = 0) ∧ ¬ (s.2.2.2 (tl x.2.1).toNat = rst h q x) := by
        constructor
        · exact fun z => c ⟨r2, Or.inl z⟩
        · exact fun z => c ⟨r2, Or.inr z⟩
      obtain ⟨b1, b2, b3, b4, b5, b6, b7⟩ := hp.2.2.2.2.2 (tl x.2.1).toNat (by omega)
      obtain ⟨y, y1, y2, y3⟩ := b7 c2.1
      have y4 := (b3 y y1 y2 y3).2
      have hfy : woO w (tl y.2.1) y.1 = rst h q y := hf y (List.mem_append.mpr (Or.inl y1))
      have ey : tl y.2.1 = tl x.2.1 := by omega
      unfold woO at hfx hfy
      by_cases z1 : wTool w = tl x.2.1 ∧ wFrom w ≤ x.1
      · rw [if_pos z1] at hfx
        by_cases z2 : wTool w = tl y.2.1 ∧ wFrom w ≤ y.1
        · rw [if_pos z2] at hfy
          exact c2.2 (by rw [y4, ← hfy, ← hfx])
        · rw [if_neg z2] at hfy
          exact y3 hfy.symm
      · rw [if_neg z1] at hfx
        exact r0 hfx.symm
theorem spF_pr {tl : Int → Int} {h q : Int} : ∀ (l l0 : List vTri) (s : Int × (Nat → Int) × (Nat → Int) × (Nat → Int)), spP tl h q l0 s → (∀ x ∈ l, 0 ≤ x.1 ∧ x.1 ≤ 39 ∧ 0 ≤ tl x.2.1 ∧ tl x.2.1 ≤ 5) → (match spF tl h q l (some s) with | none => ∀ w : Int, 0 ≤ w → ¬ fitW tl h q w (l0 ++ l) | some s' => spP tl h q (l0 ++ l) s')
  | [], l0, s, hp, _ => by rw [List.append_nil]; exact hp
  | x :: l, l0, s, hp, hl => by
    have hx := hl x List.mem_cons_self
    have e : l0 ++ x :: l = (l0 ++ [x]) ++ l := by simp
    rw [e]
    show (match spF tl h q l (spS tl h q x s) with | none => ∀ w : Int, 0 ≤ w → ¬ fitW tl h q w (l0 ++ [x] ++ l) | some s' => spP tl h q (l0 ++ [x] ++ l) s')
    cases c : spS tl h q x s with
    | none =>
      rw [spF_none]
      exact fun w hw hf => spS_bad hp hx c w hw (fun y hy => hf y (List.mem_append.mpr (Or.inl hy)))
    | some s' => exact spF_pr l (l0 ++ [x]) s' (spP_step hp hx c) (fun y hy => hl y (List.mem_cons_of_mem _ hy))
theorem sub_bits' {a b : Int} (ha : 0 ≤ a) (ha2 : a < 2147483648) (hb : 0 ≤ b) (hb2 : b < 2147483648) (h : ∀ j : Nat, bt a j = true → bt b j = true) : pand a (pxor b (-1)) = 0 := by
  obtain ⟨m, rfl⟩ : ∃ m : Nat, a = (m : Int) := ⟨a.toNat, by omega⟩
  obtain ⟨n, rfl⟩ : ∃ n : Nat, b = (n : Int) := ⟨b.toNat, by omega⟩
  unfold bt at h
  simp only [Int.toNat_natCast] at h
  have e1 : (Int32.ofInt (m : Int)).toBitVec = BitVec.ofNat 32 m := by rw [Int32.ofInt_eq_ofNat]; rfl
  have e2 : (Int32.ofInt (n : Int)).toBitVec = BitVec.ofNat 32 n := by rw [Int32.ofInt_eq_ofNat]; rfl
  have e3 : (Int32.ofInt (-1)).toBitVec = BitVec.allOnes 32 := by decide
  have k : (Int32.ofInt (m : Int) &&& Int32.ofInt (pxor (n : Int) (-1))) = 0 := by
    unfold pxor
    rw [Int32.ofInt_toInt]
    apply Int32.toBitVec_inj.mp
    rw [Int32.toBitVec_and, Int32.toBitVec_xor, e1, e2, e3]
    apply BitVec.eq_of_getLsbD_eq
    intro i hi
    simp only [BitVec.getLsbD_and, BitVec.getLsbD_xor, BitVec.getLsbD_ofNat, BitVec.getLsbD_allOnes, decide_eq_true hi, Bool.true_and]
    cases q : m.testBit i with
    | false => simp
    | true => rw [h i q]; simp
  unfold pand
  rw [k]
  rfl
theorem bt_z {a : Int} (ha : 0 ≤ a) (h : ∀ j : Nat, bt a j = false) : a = 0 := by
  obtain ⟨m, rfl⟩ : ∃ m : Nat, a = (m : Int) := ⟨a.toNat, by omega⟩
  unfold bt at h
  simp only [Int.toNat_natCast] at h
  have : m = 0 := Nat.eq_of_testBit_eq (fun i => by rw [h i]; simp)
  omega
theorem pshl_b {t : Nat} (ht : t < 31) : 0 ≤ pshl 1 (t : Int) ∧ pshl 1 (t : Int) < 2147483648 ∧ ∀ j : Nat, bt (pshl 1 (t : Int)) j = decide (j = t) := by
  have h2 : (2 : Nat) ^ t < 2 ^ 31 := Nat.pow_lt_pow_right (by omega) ht
  have h3 : ((2 ^ t : Nat) : Int) < ((2 ^ 31 : Nat) : Int) := Int.ofNat_lt.mpr h2
  rw [pshl_1 ht]
  refine ⟨Int.natCast_nonneg _, Int.lt_of_lt_of_le h3 (by decide), fun j => ?_⟩
  unfold bt
  rw [Int.toNat_natCast, Nat.testBit_two_pow]
  by_cases e : j = t
  · subst e; simp
  · rw [decide_eq_false (Ne.symm e), decide_eq_false e]
theorem only_t {a : Int} (ha : 0 ≤ a) (ha2 : a < 2147483648) {t : Nat} (ht : t < 31) : pand a (pxor (pshl 1 (t : Int)) (-1)) = 0 ↔ ∀ j : Nat, bt a j = true → j = t := by
  obtain ⟨p1, p2, p3⟩ := pshl_b ht
  constructor
  · intro h j hj
    have := sub_bits ha ha2 p1 p2 h j hj
    rw [p3] at this
    exact of_decide_eq_true this
  · intro h
    exact sub_bits' ha ha2 p1 p2 (fun j hj => by rw [p3]; exact decide_eq_true (h j hj))
def wN (t f b : Int) : Int := 1 + (t * 12 + f) * 5 + b - 1
theorem wN_e {t f b : Int} (ht : 0 ≤ t) (hf : 0 ≤ f) (hf2 : f ≤ 11) (hb : 1 ≤ b) (hb2 : b ≤ 5) : 0 < wN t f b ∧ wTool (wN t f b) = t ∧ wFrom (wN t f b) = f ∧ wBy (wN t f b) = b := by
  unfold wN wTool wFrom wBy
  rw [if_neg (by omega), if_neg (by omega), if_neg (by omega)]
  omega
theorem fit_0 {tl : Int → Int} {h q : Int} {l : List vTri} {s : Int × (Nat → Int) × (Nat → Int) × (Nat → Int)} (hp : spP tl h q l s) (hl : ∀ x ∈ l, 0 ≤ x.1 ∧ x.1 ≤ 39 ∧ 0 ≤ tl x.2.1 ∧ tl x.2.1 ≤ 5) : fitW tl h q 0 l ↔ s.1 = 0 := by
  have e0 : ∀ x ∈ l, woO 0 (tl x.2.1) x.1 = 0 := fun x hx => by
    have := hl x hx
    unfold woO wTool
    rw [if_neg (by rw [if_pos rfl]; omega)]
  constructor
  · intro hf
    refine bt_z hp.1 (fun j => ?_)
    by_cases hj : j < 6
    · cases c : bt s.1 j with
      | false => rfl
      | true =>
        obtain ⟨x, x1, x2, x3⟩ := (hp.2.2.1 j hj).mp c
        exact absurd ((hf x x1).symm.trans (e0 x x1)) x3
    · exact hp.2.2.2.1 j (by omega)
  · intro hs x hx
    rw [e0 x hx]
    have hx2 := hl x hx
    by_cases c : rst h q x = 0
    · exact c.symm
    · exfalso
      have := (hp.2.2.1 (tl x.2.1).toNat (by omega)).mpr ⟨x, hx, by omega, c⟩
      rw [hs, bt0] at this
      exact absurd this (by decide)
theorem fit_t {tl : Int → Int} {h q : Int} {l : List vTri} {s : Int × (Nat → Int) × (Nat → Int) × (Nat → Int)} (hp : spP tl h q l s) (hl : ∀ x ∈ l, 0 ≤ x.1 ∧ x.1 ≤ 39 ∧ 0 ≤ tl x.2.1 ∧ tl x.2.1 ≤ 5) {t : Nat} (ht : t < 6) {f b : Int} (hf : 0 ≤ f) (hf2 : f ≤ 11) (hb : 1 ≤ b) (hb2 : b ≤ 5) : fitW tl h q (wN (t : Int) f b) l ↔ (pand s.1 (pxor (pshl 1 (t : Int)) (-1)) = 0 ∧ s.2.1 t < f ∧ f ≤ s.2.2.1 t ∧ (s.2.2.2 t = 0 ∨ s.2.2.2 t = b)) := by
  obtain ⟨w0, w1, w2, w3⟩ := wN_e (t := (t : Int)) (by omega) hf hf2 hb hb2
  rw [only_t hp.1 (by have := hp.2.1; omega) (by omega)]
  obtain ⟨a1, a2, a3, a4⟩ := hp.2.2.2.2.1 t ht
  obtain ⟨b1, b2, b3, b4, b5, b6, b7⟩ := hp.2.2.2.2.2 t ht
  have ew : ∀ x : vTri, woO (wN (t : Int) f b) (tl x.2.1) x.1 = if (t : Int) = tl x.2.1 ∧ f ≤ x.1 then b else 0 := fun x => by unfold woO; rw [w1, w2, w3]
  constructor
  · intro hfit
    refine ⟨fun j hj => ?_, ?_, ?_, ?_⟩
    · by_cases hj6 : j < 6
      · obtain ⟨x, x1, x2, x3⟩ := (hp.2.2.1 j hj6).mp hj
        have := hfit x x1
        rw [ew x] at this
        by_cases c : (t : Int) = tl x.2.1 ∧ f ≤ x.1
        · omega
        · rw [if_neg c] at this; exact absurd this.symm x3
      · rw [hp.2.2.2.1 j (by omega)] at hj; exact absurd hj (by decide)
    · rcases a4 with a4 | ⟨x, x1, x2, x3, x4⟩
      · omega
      · have := hfit x x1
        rw [ew x, x3] at this
        by_cases c : (t : Int) = tl x.2.1 ∧ f ≤ x.1
        · rw [if_pos c] at this; omega
        · omega
    · rcases b4 with b4 | ⟨x, x1, x2, x3, x4⟩
      · omega
      · have := hfit x x1
        rw [ew x] at this
        by_cases c : (t : Int) = tl x.2.1 ∧ f ≤ x.1
        · omega
        · rw [if_neg c] at this; exact absurd this.symm x3
    · by_cases z : s.2.2.2 t = 0
      · exact Or.inl z
      · obtain ⟨x, x1, x2, x3⟩ := b7 z
        have x4 := (b3 x x1 x2 x3).2
        have := hfit x x1
        rw [ew x] at this
        by_cases c : (t : Int) = tl x.2.1 ∧ f ≤ x.1
        · rw [if_pos c] at this; exact Or.inr (by omega)
        · rw [if_neg c] at this; exact absurd this.symm x3
  · rintro ⟨c1, c2, c3, c4⟩ x hx
    have hx2 := hl x hx
    rw [ew x]
    by_cases r0 : rst h q x = 0
    · rw [r0]
      by_cases c : (t : Int) = tl x.2.1 ∧ f ≤ x.1
      · have := a3 x hx c.1.symm r0
        omega
      · rw [if_neg c]
    · have hbit := (hp.2.2.1 (tl x.2.1).toNat (by omega)).mpr ⟨x, hx, by omega, r0⟩
      have := c1 _ hbit
      have hte : tl x.2.1 = (t : Int) := by omega
      obtain ⟨d1, d2⟩ := b3 x hx hte r0
      rw [if_pos ⟨hte.symm, by omega⟩]
      rcases c4 with c4 | c4
      · rw [c4] at d2; exact absurd d2.symm r0
      · omega
/-! blocks -/
def cQ {α : Type} (f : Nat → List α) : Nat → List α
  | 0 => []
  | n + 1 => cQ f n ++ f n
def blT (h q : Int) (s : Int × (Nat → Int) × (Nat → Int) × (Nat → Int)) (t : Nat) : List vBk := if pand s.1 (pxor (pshl 1 (t : Int)) (-1)) = 0 ∧ s.2.1 t + 1 ≤ min 11 (s.2.2.1 t) then [(h, q, (t : Int), s.2.1 t + 1, min 11 (s.2.2.1 t), if s.2.2.2 t = 0 then 1 else s.2.2.2 t, if s.2.2.2 t = 0 then 5 else s.2.2.2 t)] else []
def blS (h q : Int) (s : Int × (Nat → Int) × (Nat → Int) × (Nat → Int)) (T : Nat) : List vBk := (if s.1 = 0 then [(h, q, -1, 0, 0, 0, 0)] else []) ++ cQ (blT h q s) T
def bl (tl : Int → Int) (l : List vTri) (T : Nat) (h q : Int) : List vBk := match spF tl h q l (some spI) with
  | none => []
  | some s => blS h q s T
def vAl (tl : Int → Int) (l : List vTri) (T D : Nat) : List vBk := cQ (fun j => cQ (fun q => bl tl l T ((j : Int) - 2) (q : Int)) D) 5
/-- a block's causes, weighed -/
def bSm (F : Int → Int → Int → Int) (b : vBk) : Int := if b.2.2.1 = -1 then F b.1 0 b.2.1 else vSm (fun f => vSm (fun c => if b.2.2.2.1 ≤ (f : Int) ∧ (f : Int) ≤ b.2.2.2.2.1 ∧ b.2.2.2.2.2.1 ≤ (c : Int) + 1 ∧ (c : Int) + 1 ≤ b.2.2.2.2.2.2 then F b.1 (wN b.2.2.1 (f : Int) ((c : Int) + 1)) b.2.1 else 0) 5) 12
def lSm {α : Type} (g : α → Int) : List α → Int
  | [] => 0
  | b :: l => g b + lSm g l
theorem lSm_app {α : Type} (g : α → Int) : ∀ l l2 : List α, lSm g (l ++ l2) = lSm g l + lSm g l2
  | [], l2 => by show lSm g l2 = 0 + lSm g l2; omega
  | b :: l, l2 => by
    have := lSm_app g l l2
    show g b + lSm g (l ++ l2) = g b + lSm g l + lSm g l2
    omega
theorem lSm_cQ {α : Type} (g : α → Int) (f : Nat → List α) : ∀ n : Nat, lSm g (cQ f n) = vSm (fun i => lSm g (f i)) n
  | 0 => rfl
  | n + 1 => by
    show lSm g (cQ f n ++ f n) = vSm (fun i => lSm g (f i)) n + lSm g (f n)
    rw [lSm_app, lSm_cQ g f n]
theorem vSm_split (X : Nat → Int) (m : Nat) : ∀ n : Nat, vSm X (n * m) = vSm (fun i => vSm (fun j => X (i * m + j)) m) n := by
  have sh : ∀ (a k : Nat), vSm X (a + k) = vSm X a + vSm (fun j => X (a + j)) k := by
    intro a k
    induction k with
    | zero => show vSm X a = vSm X a + 0; omega
    | succ k ih =>
      show vSm X (a + k) + X (a + k) = vSm X a + (vSm (fun j => X (a + j)) k + X (a + k))
      omega
  intro n
  induction n with
  | zero => rw [Nat.zero_mul]; rfl
  | succ n ih =>
    rw [Nat.succ_mul, sh, ih]
    rfl
def fitB (tl : Int → Int) (h q w : Int) (l : List vTri) : Bool := l.all (fun x => decide (woO w (tl x.2.1) x.1 = rst h q x))
theorem fitB_e {tl : Int → Int} {h q w : Int} {l : List vTri} : fitB tl h q w l = true ↔ fitW tl h q w l := by
  unfold fitB fitW
  rw [List.all_eq_true]
  constructor
  · intro k x hx; exact of_decide_eq_true (k x hx)
  · intro k x hx; exact decide_eq_true (k x hx)
def okL (tl : Int → Int) (T : Nat) (l : List vTri) : Prop := ∀ x ∈ l, 0 ≤ x.1 ∧ x.1 ≤ 39 ∧ 0 ≤ tl x.2.1 ∧ tl x.2.1 < (T : Int)
theorem hq_sum {tl : Int → Int} {T : Nat} (hT : T ≤ 6) {l : List vTri} (hl : okL tl T l) (F : Int → Int → Int → Int) (h q : Int) : vSm (fun w => if fitB tl h q (w : Int) l = true then F h (w : Int) q else 0) (1 + 60 * T) = lSm (bSm F) (bl tl l T h q) := by
  have hl' : ∀ x ∈ l, 0 ≤ x.1 ∧ x.1 ≤ 39 ∧ 0 ≤ tl x.2.1 ∧ tl x.2.1 ≤ 5 := fun x hx => by have := hl x hx; omega
  have e1 := vSm_sh (fun w => if fitB tl h q (w : Int) l = true then F h (w : Int) q else 0) (T * 60)
  rw [vSm_split _ 60 T] at e1
  have e2 : vSm (fun w => if fitB tl h q (w : Int) l = true then F h (w : Int) q else 0) (1 + 60 * T) = (if fitB tl h q 0 l = true then F h 0 q else 0) + vSm (fun t => vSm (fun f => vSm (fun c => if fitB tl h q (wN (t : Int) (f : Int) ((c : Int) + 1)) l = true then F h (wN (t : Int) (f : Int) ((c : Int) + 1)) q else 0) 5) 12) T := by
    have e3 : ∀ t : Nat, vSm (fun j => (fun m => if fitB tl h q ((m + 1 : Nat) : Int) l = true then F h ((m + 1 : Nat) : Int) q else 0) (t * 60 + j)) 60 = vSm (fun f => vSm (fun c => if fitB tl h q (wN (t : Int) (f : Int) ((c : Int) + 1)) l = true then F h (wN (t : Int) (f : Int) ((c : Int) + 1)) q else 0) 5) 12 := by
      intro t
      rw [show (60 : Nat) = 12 * 5 from rfl, vSm_split _ 5 12]
      refine vSm_c 12 (fun f hf => vSm_c 5 (fun c hc => ?_))
      have : ((t * (12 * 5) + (f * 5 + c) + 1 : Nat) : Int) = wN (t : Int) (f : Int) ((c : Int) + 1) := by unfold wN; omega
      show (if fitB tl h q ((t * (12 * 5) + (f * 5 + c) + 1 : Nat) : Int) l = true then F h ((t * (12 * 5) + (f * 5 + c) + 1 : Nat) : Int) q else 0) = _
      rw [this]
    have e4 := vSm_c (f := fun i => vSm (fun j => (fun m => if fitB tl h q ((m + 1 : Nat) : Int) l = true then F h ((m + 1 : Nat) : Int) q else 0) (i * 60 + j)) 60) (g := fun t => vSm (fun f => vSm (fun c => if fitB tl h q (wN (t : Int) (f : Int) ((c : Int) + 1)) l = true then F h (wN (t : Int) (f : Int) ((c : Int) + 1)) q else 0) 5) 12) T (fun t _ => e3 t)
    rw [show 1 + 60 * T = T * 60 + 1 by omega]
    have e6 : vSm (fun t => vSm (fun f => vSm (fun c => if fitB tl h q (wN (t : Int) (f : Int) ((c : Int) + 1)) l = true then F h (wN (t : Int) (f : Int) ((c : Int) + 1)) q else 0) 5) 12) T = vSm (fun w => if fitB tl h q (w : Int) l = true then F h (w : Int) q else 0) (T * 60 + 1) - (if fitB tl h q 0 l = true then F h 0 q else 0) := e4.symm.trans e1
    rw [e6]
    omega
  rw [e2]
  have pr := spF_pr (tl := tl) (h := h) (q := q) l [] spI (spP_0 tl h q) hl'
  rw [List.nil_append] at pr
  unfold bl
  cases c : spF tl h q l (some spI) with
  | none =>
    rw [c] at pr
    have pr : ∀ w : Int, 0 ≤ w → ¬ fitW tl h q w l := pr
    have z : ∀ w : Int, 0 ≤ w → fitB tl h q w l = false := fun w hw => Bool.eq_false_iff.mpr (fun k => pr w hw (fitB_e.mp k))
    rw [if_neg (by rw [z 0 (by omega)]; decide)]
    have e6 : vSm (fun t => vSm (fun f => vSm (fun c => if fitB tl h q (wN (t : Int) (f : Int) ((c : Int) + 1)) l = true then F h (wN (t : Int) (f : Int) ((c : Int) + 1)) q else 0) 5) 12) T = vSm (fun _ => 0) T := by
      refine vSm_c T (fun t ht => ?_)
      rw [vSm_c (g := fun _ => 0) 12 (fun f hf => ?_), vSm_z]
      rw [vSm_c (g := fun _ => 0) 5 (fun c hc => ?_), vSm_z]
      rw [if_neg]
      rw [z _ (by unfold wN; omega)]
      decide
    rw [e6, vSm_z]
    rfl
  | some s =>
    rw [c] at pr
    have pr : spP tl h q l s := pr
    show _ = lSm (bSm F) (blS h q s T)
    unfold blS
    rw [lSm_app, lSm_cQ]
    have z0 : (if fitB tl h q 0 l = true then F h 0 q else 0) = lSm (bSm F) (if s.1 = 0 then [(h, q, -1, 0, 0, 0, 0)] else []) := by
      by_cases k : s.1 = 0
      · rw [if_pos k, if_pos (fitB_e.mpr ((fit_0 pr hl').mpr k))]
        show _ = bSm F (h, q, -1, 0, 0, 0, 0) + 0
        unfold bSm
        rw [if_pos rfl]
        show F h 0 q = F h 0 q + 0
        omega
      · rw [if_neg k, if_neg (fun y => k ((fit_0 pr hl').mp (fitB_e.mp y)))]
        rfl
    rw [z0]
    have zt : vSm (fun t => vSm (fun f => vSm (fun c => if fitB tl h q (wN (t : Int) (f : Int) ((c : Int) + 1)) l = true then F h (wN (t : Int) (f : Int) ((c : Int) + 1)) q else 0) 5) 12) T = vSm (fun t => lSm (bSm F) (blT h q s t)) T := by
      refine vSm_c T (fun t ht => ?_)
      have ft := fun (f c : Nat) (hf : f < 12) (hc : c < 5) => fit_t pr hl' (t := t) (by omega) (f := (f : Int)) (b := (c : Int) + 1) (by omega) (by omega) (by omega) (by omega)
      obtain ⟨a1, a2, -, -⟩ := pr.2.2.2.2.1 t (by omega)
      obtain ⟨b1, b2, -, -, b5, b6, -⟩ := pr.2.2.2.2.2 t (by omega)
      unfold blT
      by_cases k : pand s.1 (pxor (pshl 1 (t : Int)) (-1)) = 0 ∧ s.2.1 t + 1 ≤ min 11 (s.2.2.1 t)
      · rw [if_pos k]
        show _ = bSm F (h, q, (t : Int), s.2.1 t + 1, min 11 (s.2.2.1 t), if s.2.2.2 t = 0 then 1 else s.2.2.2 t, if s.2.2.2 t = 0 then 5 else s.2.2.2 t) + 0
        unfold bSm
        rw [if_neg (by show ¬ ((t : Int) = -1); omega), Int.add_zero]
        refine vSm_c 12 (fun f hf => vSm_c 5 (fun c hc => ?_))
        have cond : (fitB tl h q (wN (t : Int) (f : Int) ((c : Int) + 1)) l = true) ↔ (s.2.1 t + 1 ≤ (f : Int) ∧ (f : Int) ≤ min 11 (s.2.2.1 t) ∧ (if s.2.2.2 t = 0 then 1 else s.2.2.2 t) ≤ (c : Int) + 1 ∧ (c : Int) + 1 ≤ (if s.2.2.2 t = 0 then 5 else s.2.2.2 t)) := by
          rw [fitB_e, ft f c hf hc]
          by_cases o : s.2.2.2 t = 0
          · rw [if_pos o, if_pos o]
            have := k.1
            constructor
            · rintro ⟨k1, k2, k3, k4⟩; omega
            · rintro ⟨k1, k2, k3, k4⟩; exact ⟨this, by omega, by omega, Or.inl o⟩
          · rw [if_neg o, if_neg o]
            have := k.1
            constructor
            · rintro ⟨k1, k2, k3, k4⟩; omega
            · rintro ⟨k1, k2, k3, k4⟩; exact ⟨this, by omega, by omega, Or.inr (by omega)⟩
        by_cases y : fitB tl h q (wN (t : Int) (f : Int) ((c : Int) + 1)) l = true
        · rw [if_pos y, if_pos (cond.mp y)]
        · rw [if_neg y, if_neg (fun x => y (cond.mpr x))]
      · rw [if_neg k]
        show _ = (0 : Int)
        rw [vSm_c (g := fun _ => 0) 12 (fun f hf => ?_), vSm_z]
        rw [vSm_c (g := fun _ => 0) 5 (fun c hc => ?_), vSm_z]
        rw [if_neg]
        intro y
        have y := (ft f c hf hc).mp (fitB_e.mp y)
        exact k ⟨y.1, by omega⟩
    rw [zt]
theorem vSm_comm (X : Nat → Nat → Int) (m : Nat) : ∀ n : Nat, vSm (fun i => vSm (fun j => X i j) m) n = vSm (fun j => vSm (fun i => X i j) n) m
  | 0 => by
    show (0 : Int) = vSm (fun j => 0) m
    rw [vSm_z]
  | n + 1 => by
    show vSm (fun i => vSm (fun j => X i j) m) n + vSm (fun j => X n j) m = vSm (fun j => vSm (fun i => X i j) n + X n j) m
    rw [vSm_comm X m n, vSm_add]
/-- all causes that fit, weighed: by their numbers, and by blocks -/
theorem all_sum {tl : Int → Int} {T D : Nat} (hT : T ≤ 6) (hD : 1 ≤ D) {l : List vTri} (hl : okL tl T l) (F : Int → Int → Int → Int) : vSm (fun n => if fitB tl ((n : Int) / (D : Int) / ((1 + 60 * T : Nat) : Int) - 2) ((n : Int) % (D : Int)) ((n : Int) / (D : Int) % ((1 + 60 * T : Nat) : Int)) l = true then F ((n : Int) / (D : Int) / ((1 + 60 * T : Nat) : Int) - 2) ((n : Int) / (D : Int) % ((1 + 60 * T : Nat) : Int)) ((n : Int) % (D : Int)) else 0) (5 * (1 + 60 * T) * D) = lSm (bSm F) (vAl tl l T D) := by
  rw [vSm_split _ D (5 * (1 + 60 * T)), vSm_split _ (1 + 60 * T) 5]
  unfold vAl
  rw [lSm_cQ]
  refine vSm_c 5 (fun j hj => ?_)
  rw [lSm_cQ, vSm_comm]
  refine vSm_c D (fun q hq => ?_)
  rw [← hq_sum hT hl F]
  refine vSm_c (1 + 60 * T) (fun w hw => ?_)
  have c1 : (((j * (1 + 60 * T) + w) * D + q : Nat) : Int) = (q : Int) + ((j * (1 + 60 * T) + w : Nat) : Int) * (D : Int) := by
    rw [Int.natCast_add, Int.natCast_mul]
    omega
  have d1 : (((j * (1 + 60 * T) + w) * D + q : Nat) : Int) / (D : Int) = ((j * (1 + 60 * T) + w : Nat) : Int) := by
    rw [c1, Int.add_mul_ediv_right _ _ (by omega), Int.ediv_eq_zero_of_lt (by omega) (by omega)]
    omega
  have m1 : (((j * (1 + 60 * T) + w) * D + q : Nat) : Int) % (D : Int) = (q : Int) := by
    rw [c1, Int.add_mul_emod_self_right, Int.emod_eq_of_lt (by omega) (by omega)]
  have c2 : ((j * (1 + 60 * T) + w : Nat) : Int) = (w : Int) + (j : Int) * ((1 + 60 * T : Nat) : Int) := by
    rw [Int.natCast_add, Int.natCast_mul]
    omega
  have d2 : ((j * (1 + 60 * T) + w : Nat) : Int) / ((1 + 60 * T : Nat) : Int) = (j : Int) := by
    rw [c2, Int.add_mul_ediv_right _ _ (by omega), Int.ediv_eq_zero_of_lt (by omega) (by omega)]
    omega
  have m2 : ((j * (1 + 60 * T) + w : Nat) : Int) % ((1 + 60 * T : Nat) : Int) = (w : Int) := by
    rw [c2, Int.add_mul_emod_self_right, Int.emod_eq_of_lt (by omega) (by omega)]
  show (if fitB tl ((((j * (1 + 60 * T) + w) * D + q : Nat) : Int) / (D : Int) / ((1 + 60 * T : Nat) : Int) - 2) ((((j * (1 + 60 * T) + w) * D + q : Nat) : Int) % (D : Int)) ((((j * (1 + 60 * T) + w) * D + q : Nat) : Int) / (D : Int) % ((1 + 60 * T : Nat) : Int)) l = true then F ((((j * (1 + 60 * T) + w) * D + q : Nat) : Int) / (D : Int) / ((1 + 60 * T : Nat) : Int) - 2) ((((j * (1 + 60 * T) + w) * D + q : Nat) : Int) / (D : Int) % ((1 + 60 * T : Nat) : Int)) ((((j * (1 + 60 * T) + w) * D + q : Nat) : Int) % (D : Int)) else 0) = _
  rw [d1, m1, d2, m2]
