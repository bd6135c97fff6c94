/-! what to gauge next: counted by blocks -/
def gBk (s : Nat) (b : vBk) : Int := if dStep b.2.1 = (s : Int) then dBy b.2.1 else 0
def cBk (s : Nat) (b : vBk) : Nat := ((b.1 + 2) * 5 + gBk s b).toNat
abbrev inY (s : Nat) (T : Int) (k : Nat) (b : vBk) : Prop := cBk s b = k / 5 ∧ b.2.2.1 = T ∧ b.2.2.2.2.2.1 ≤ ((k % 5 : Nat) : Int) + 1 ∧ ((k % 5 : Nat) : Int) + 1 ≤ b.2.2.2.2.2.2
def jN (s : Nat) (T i : Int) (k : Nat) (b : vBk) : Int := if inY s T k b ∧ b.2.2.2.1 ≤ i ∧ i ≤ b.2.2.2.2.1 then 1 else 0
def tlN (s : Nat) (T i : Int) (k : Nat) (b : vBk) : Int := if inY s T k b then max 0 (min b.2.2.2.2.1 i - b.2.2.2.1 + 1) else 0
def eN (s : Nat) (T : Int) (f k : Nat) (b : vBk) : Int := if inY s T k b then (if (f : Int) = b.2.2.2.1 then 1 else 0) - (if (f : Int) = b.2.2.2.2.1 + 1 then 1 else 0) else 0
def oN (s c : Nat) (b : vBk) : Int := if cBk s b = c then szB b else 0
theorem okB_f {G : pG} {b : vBk} (h : okB G b) : 0 ≤ b.2.2.2.1 ∧ b.2.2.2.1 ≤ b.2.2.2.2.1 ∧ b.2.2.2.2.1 ≤ 11 := by
  obtain ⟨-, -, -, -, h⟩ := h
  omega
theorem jN_s {G : pG} {b : vBk} (h : okB G b) (s : Nat) (T : Int) (i k : Nat) : jN s T (i : Int) k b = jN s T ((i : Int) - 1) k b + (if i < 13 then eN s T i k b else 0) := by
  have := okB_f h
  unfold jN eN
  by_cases q : inY s T k b
  · have e : ∀ i : Int, (if inY s T k b ∧ b.2.2.2.1 ≤ i ∧ i ≤ b.2.2.2.2.1 then (1 : Int) else 0) = if b.2.2.2.1 ≤ i ∧ i ≤ b.2.2.2.2.1 then 1 else 0 := fun i => by
      by_cases z : b.2.2.2.1 ≤ i ∧ i ≤ b.2.2.2.2.1
      · rw [if_pos z, if_pos ⟨q, z⟩]
      · rw [if_neg z, if_neg (fun w => z w.2)]
    rw [e, e, if_pos q]
    split <;> split <;> split <;> (try split) <;> (try split) <;> omega
  · rw [if_neg (fun z => q z.1), if_neg (fun z => q z.1), if_neg q]
    split <;> rfl
theorem jN_0 {G : pG} {b : vBk} (h : okB G b) (s : Nat) (T : Int) (k : Nat) : jN s T (-1) k b = 0 ∧ tlN s T (-1) k b = 0 := by
  have := okB_f h
  unfold jN tlN
  constructor
  · rw [if_neg (by omega)]
  · split <;> omega
theorem tlN_s {G : pG} {b : vBk} (h : okB G b) (s : Nat) (T i : Int) (k : Nat) : tlN s T i k b = tlN s T (i - 1) k b + jN s T i k b := by
  have := okB_f h
  unfold jN tlN
  by_cases q : inY s T k b
  · rw [if_pos q, if_pos q]
    by_cases z : b.2.2.2.1 ≤ i ∧ i ≤ b.2.2.2.2.1
    · rw [if_pos ⟨q, z⟩]; omega
    · rw [if_neg (fun w => z w.2)]; omega
  · rw [if_neg q, if_neg q, if_neg (fun z => q z.1)]
    rfl
theorem lSm_add {α : Type} (f g : α → Int) : ∀ l : List α, lSm (fun b => f b + g b) l = lSm f l + lSm g l
  | [] => rfl
  | b :: l => by
    show f b + g b + lSm (fun b => f b + g b) l = f b + lSm f l + (g b + lSm g l)
    rw [lSm_add f g l]
    omega
theorem lSm_z {α : Type} : ∀ l : List α, lSm (fun _ => 0) l = 0
  | [] => rfl
  | b :: l => by
    show (0 : Int) + lSm (fun _ => 0) l = 0
    rw [lSm_z l]
    rfl
theorem lSm_bd {α : Type} {f : α → Int} {B : Int} : ∀ l : List α, (∀ b ∈ l, -B ≤ f b ∧ f b ≤ B) → -(B * (l.length : Int)) ≤ lSm f l ∧ lSm f l ≤ B * (l.length : Int)
  | [], _ => ⟨by show -(B * 0) ≤ 0; omega, by show 0 ≤ B * 0; omega⟩
  | b :: l, h => by
    have h1 := h b List.mem_cons_self
    have h2 := lSm_bd l (fun x hx => h x (List.mem_cons_of_mem _ hx))
    have e : B * ((b :: l).length : Int) = B + B * (l.length : Int) := by
      rw [List.length_cons, show ((l.length + 1 : Nat) : Int) = 1 + (l.length : Int) by omega, Int.mul_add, Int.mul_one]
    rw [e]
    show -(B + B * (l.length : Int)) ≤ f b + lSm f l ∧ f b + lSm f l ≤ B + B * (l.length : Int)
    omega
theorem vSm_one {f : Nat → Int} {c : Nat} : ∀ n : Nat, c < n → (∀ k, k < n → k ≠ c → f k = 0) → vSm f n = f c
  | 0, h, _ => by omega
  | n + 1, h, hz => by
    show vSm f n + f n = f c
    by_cases e : n = c
    · subst e
      rw [vSm_c (g := fun _ => 0) n (fun k hk => hz k (by omega) (by omega)), vSm_z]
      omega
    · rw [vSm_one n (by omega) (fun k hk hn => hz k (by omega) hn), hz n (by omega) e]
      omega
theorem vSm_cm (m : Int) (f : Nat → Int) : ∀ n : Nat, vSm (fun y => m * f y) n = m * vSm f n
  | 0 => by show (0 : Int) = m * 0; omega
  | n + 1 => by
    show vSm (fun y => m * f y) n + m * f n = m * (vSm f n + f n)
    rw [vSm_cm m f n, Int.mul_add]
/-- how many tell v - 8 -/
def aV (base : Nat → Int) (TL : Nat → Int) (O : Nat → Int) (v : Int) (k c : Nat) : Int := vSm (fun k => if base (k / 5) + (((k % 5 : Nat) : Int) + 1) = v then TL k else 0) k + vSm (fun c => if base c = v then O c - vSm (fun y => TL (c * 5 + y)) 5 else 0) c
theorem aV_add (base : Nat → Int) (TL TL' O O' : Nat → Int) (v : Int) (k c : Nat) : aV base (fun k => TL k + TL' k) (fun c => O c + O' c) v k c = aV base TL O v k c + aV base TL' O' v k c := by
  unfold aV
  have e1 : vSm (fun k => if base (k / 5) + (((k % 5 : Nat) : Int) + 1) = v then TL k + TL' k else 0) k = vSm (fun k => if base (k / 5) + (((k % 5 : Nat) : Int) + 1) = v then TL k else 0) k + vSm (fun k => if base (k / 5) + (((k % 5 : Nat) : Int) + 1) = v then TL' k else 0) k := by
    rw [vSm_add]
    refine vSm_c k (fun j _ => ?_)
    split <;> omega
  have e2 : vSm (fun c => if base c = v then O c + O' c - vSm (fun y => TL (c * 5 + y) + TL' (c * 5 + y)) 5 else 0) c = vSm (fun c => if base c = v then O c - vSm (fun y => TL (c * 5 + y)) 5 else 0) c + vSm (fun c => if base c = v then O' c - vSm (fun y => TL' (c * 5 + y)) 5 else 0) c := by
    rw [vSm_add]
    refine vSm_c c (fun j _ => ?_)
    have := vSm_add (fun y => TL (j * 5 + y)) (fun y => TL' (j * 5 + y)) 5
    split <;> omega
  rw [e1, e2]
  omega
def bsC (i : Int) (c : Nat) : Int := 8 + ((((c / 5 : Nat) : Int) - 2) * i).tdiv 5 + ((c % 5 : Nat) : Int) * i / 5
theorem cBk_e {G : pG} {b : vBk} (h : okB G b) (s : Nat) : cBk s b < 25 ∧ ((cBk s b / 5 : Nat) : Int) = b.1 + 2 ∧ ((cBk s b % 5 : Nat) : Int) = gBk s b ∧ 0 ≤ gBk s b ∧ gBk s b ≤ 4 := by
  obtain ⟨h1, h2, -, -, -⟩ := h
  have g : 0 ≤ gBk s b ∧ gBk s b ≤ 4 := by
    unfold gBk dBy
    split
    · split <;> omega
    · omega
  unfold cBk
  omega
theorem bs_e {G : pG} {b : vBk} (h : okB G b) (s : Nat) (i : Int) : bsC i (cBk s b) = 8 + ((b.1 * i).tdiv 5 + dlO b.2.1 (s : Int) i) := by
  obtain ⟨-, e1, e2, -, -⟩ := cBk_e h s
  unfold bsC
  rw [e1, e2, show b.1 + 2 - 2 = b.1 by omega]
  unfold gBk dlO
  split
  · omega
  · rw [Int.zero_mul]; omega
/-- a block's own part -/
theorem aV_b {G : pG} {b : vBk} (h : okB G b) {s : Nat} {T i v : Int} (hT : G 115 s = T) (hT0 : 0 ≤ T) (hi : 0 ≤ i) : aV (bsC i) (fun k => tlN s T i k b) (fun c => oN s c b) v 125 25 = bSm (fun h w q => if vTell G h w q i s = v - 8 then 1 else 0) b := by
  obtain ⟨c0, -, -, -, -⟩ := cBk_e h s
  have be := bs_e h s i
  have hb := h
  obtain ⟨-, -, -, -, hc⟩ := h
  have off : ∀ k : Nat, k / 5 ≠ cBk s b → tlN s T i k b = 0 := fun k hk => by unfold tlN; rw [if_neg (fun z => hk z.1.symm)]
  have at_ : ∀ y : Nat, y < 5 → tlN s T i (cBk s b * 5 + y) b = if b.2.2.1 = T ∧ b.2.2.2.2.2.1 ≤ (y : Int) + 1 ∧ (y : Int) + 1 ≤ b.2.2.2.2.2.2 then max 0 (min b.2.2.2.2.1 i - b.2.2.2.1 + 1) else 0 := by
    intro y hy
    unfold tlN inY
    rw [show (cBk s b * 5 + y) / 5 = cBk s b by omega, show (cBk s b * 5 + y) % 5 = y by omega]
    by_cases z : b.2.2.1 = T ∧ b.2.2.2.2.2.1 ≤ (y : Int) + 1 ∧ (y : Int) + 1 ≤ b.2.2.2.2.2.2
    · rw [if_pos z, if_pos ⟨rfl, z⟩]
    · rw [if_neg z, if_neg (fun w => z w.2)]
  have lhs : aV (bsC i) (fun k => tlN s T i k b) (fun c => oN s c b) v 125 25 = vSm (fun y => if 8 + ((b.1 * i).tdiv 5 + dlO b.2.1 (s : Int) i) + ((y : Int) + 1) = v then tlN s T i (cBk s b * 5 + y) b else 0) 5 + (if 8 + ((b.1 * i).tdiv 5 + dlO b.2.1 (s : Int) i) = v then szB b - vSm (fun y => tlN s T i (cBk s b * 5 + y) b) 5 else 0) := by
    unfold aV
    rw [show (125 : Nat) = 25 * 5 from rfl, vSm_split, vSm_add, vSm_one (c := cBk s b) 25 c0 (fun c _ hc => ?_), be]
    · congr 1
      · refine vSm_c 5 (fun y hy => ?_)
        rw [show (cBk s b * 5 + y) / 5 = cBk s b by omega, show (cBk s b * 5 + y) % 5 = y by omega, be]
      · show (if 8 + ((b.1 * i).tdiv 5 + dlO b.2.1 (s : Int) i) = v then oN s (cBk s b) b - vSm (fun y => tlN s T i (cBk s b * 5 + y) b) 5 else 0) = _
        rw [show oN s (cBk s b) b = szB b from if_pos rfl]
    · show vSm (fun y => if bsC i ((c * 5 + y) / 5) + ((((c * 5 + y) % 5 : Nat) : Int) + 1) = v then tlN s T i (c * 5 + y) b else 0) 5 + (if bsC i c = v then oN s c b - vSm (fun y => tlN s T i (c * 5 + y) b) 5 else 0) = 0
      rw [show oN s c b = 0 from if_neg (fun z => hc z.symm), vSm_c (f := fun y => tlN s T i (c * 5 + y) b) (g := fun _ => 0) 5 (fun y hy => off _ (by omega)), vSm_z, vSm_c (g := fun _ => 0) 5 (fun y hy => ?_), vSm_z]
      · split <;> rfl
      · rw [off _ (by omega)]
        split <;> rfl
  rw [lhs]
  by_cases tq : b.2.2.1 = T
  · -- the tool's own blocks
    rcases hc with ⟨q, -⟩ | ⟨e1, e2, e3, e4, e5, e6, e7, e8⟩
    · omega
    · generalize hm : max 0 (min b.2.2.2.2.1 i - b.2.2.2.1 + 1) = m at at_
      generalize hp : (b.1 * i).tdiv 5 + dlO b.2.1 (s : Int) i = p
      have Y1 : vSm (fun y => if 8 + p + ((y : Int) + 1) = v then tlN s T i (cBk s b * 5 + y) b else 0) 5 = m * vSm (fun y => if b.2.2.2.2.2.1 ≤ (y : Int) + 1 ∧ (y : Int) + 1 ≤ b.2.2.2.2.2.2 then (if 8 + p + ((y : Int) + 1) = v then 1 else 0) else 0) 5 := by
        rw [← vSm_cm]
        refine vSm_c 5 (fun y hy => ?_)
        rw [at_ y hy]
        by_cases z : b.2.2.2.2.2.1 ≤ (y : Int) + 1 ∧ (y : Int) + 1 ≤ b.2.2.2.2.2.2
        · rw [if_pos z, if_pos (c := b.2.2.1 = T ∧ _) ⟨tq, z⟩]
          by_cases z4 : 8 + p + ((y : Int) + 1) = v
          · rw [if_pos z4, if_pos z4, Int.mul_one]
          · rw [if_neg z4, if_neg z4, Int.mul_zero]
        · rw [if_neg z, if_neg (c := b.2.2.1 = T ∧ _) (fun w => z w.2), Int.mul_zero]
          split <;> rfl
      have Y2 : vSm (fun y => tlN s T i (cBk s b * 5 + y) b) 5 = m * (b.2.2.2.2.2.2 - b.2.2.2.2.2.1 + 1) := by
        have r := rng m (b.2.2.2.2.2.1 - 1) (b.2.2.2.2.2.2 - 1) (by omega) 5
        rw [show max 0 (min (b.2.2.2.2.2.2 - 1 + 1) ((5 : Nat) : Int) - (b.2.2.2.2.2.1 - 1)) = b.2.2.2.2.2.2 - b.2.2.2.2.2.1 + 1 by omega] at r
        rw [← r]
        refine vSm_c 5 (fun y hy => ?_)
        rw [at_ y hy]
        by_cases z : b.2.2.2.2.2.1 ≤ (y : Int) + 1 ∧ (y : Int) + 1 ≤ b.2.2.2.2.2.2
        · rw [if_pos ⟨tq, z⟩, if_pos (by omega)]
        · rw [if_neg (fun w => z w.2), if_neg (by omega)]
      rw [Y1, Y2]
      unfold bSm
      rw [if_neg (c := b.2.2.1 = -1) (by omega)]
      generalize hY : vSm (fun y => if b.2.2.2.2.2.1 ≤ (y : Int) + 1 ∧ (y : Int) + 1 ≤ b.2.2.2.2.2.2 then (if 8 + p + ((y : Int) + 1) = v then (1 : Int) else 0) else 0) 5 = Y
      have inner : ∀ f : Nat, f < 12 → vSm (fun c => if b.2.2.2.1 ≤ (f : Int) ∧ (f : Int) ≤ b.2.2.2.2.1 ∧ b.2.2.2.2.2.1 ≤ (c : Int) + 1 ∧ (c : Int) + 1 ≤ b.2.2.2.2.2.2 then (if vTell G b.1 (wN b.2.2.1 (f : Int) ((c : Int) + 1)) b.2.1 i s = v - 8 then (1 : Int) else 0) else 0) 5 = (if b.2.2.2.1 ≤ (f : Int) ∧ (f : Int) ≤ min b.2.2.2.2.1 i then Y else 0) + (if max b.2.2.2.1 (i + 1) ≤ (f : Int) ∧ (f : Int) ≤ b.2.2.2.2.1 then (if 8 + p = v then b.2.2.2.2.2.2 - b.2.2.2.2.2.1 + 1 else 0) else 0) := by
        intro f hf
        have tell : ∀ c : Nat, c < 5 → vTell G b.1 (wN b.2.2.1 (f : Int) ((c : Int) + 1)) b.2.1 i s = p + (if (f : Int) ≤ i then (c : Int) + 1 else 0) := by
          intro c hc5
          obtain ⟨-, q2, q3, q4⟩ := wN_e (t := b.2.2.1) (f := (f : Int)) (b := (c : Int) + 1) e1 (by omega) (by omega) (by omega) (by omega)
          unfold vTell
          rw [q2, q3, q4, hT, ← hp]
          unfold dlO
          by_cases z : (f : Int) ≤ i
          · rw [if_pos ⟨tq, z⟩, if_pos z]; omega
          · rw [if_neg (fun w => z w.2), if_neg z]; omega
        by_cases z1 : b.2.2.2.1 ≤ (f : Int) ∧ (f : Int) ≤ b.2.2.2.2.1
        · by_cases z2 : (f : Int) ≤ i
          · rw [if_pos (c := b.2.2.2.1 ≤ (f : Int) ∧ (f : Int) ≤ min b.2.2.2.2.1 i) (by omega), if_neg (c := max b.2.2.2.1 (i + 1) ≤ (f : Int) ∧ (f : Int) ≤ b.2.2.2.2.1) (by omega), ← hY, Int.add_zero]
            refine vSm_c 5 (fun c hc5 => ?_)
            rw [tell c hc5, if_pos z2]
            by_cases z3 : b.2.2.2.2.2.1 ≤ (c : Int) + 1 ∧ (c : Int) + 1 ≤ b.2.2.2.2.2.2
            · rw [if_pos ⟨z1.1, z1.2, z3⟩, if_pos z3]
              by_cases z4 : 8 + p + ((c : Int) + 1) = v
              · rw [if_pos z4, if_pos (by omega)]
              · rw [if_neg z4, if_neg (by omega)]
            · rw [if_neg z3, if_neg (fun w => z3 w.2.2)]
          · rw [if_neg (c := b.2.2.2.1 ≤ (f : Int) ∧ (f : Int) ≤ min b.2.2.2.2.1 i) (by omega), if_pos (c := max b.2.2.2.1 (i + 1) ≤ (f : Int) ∧ (f : Int) ≤ b.2.2.2.2.1) (by omega), Int.zero_add]
            have r := rng (if 8 + p = v then 1 else 0) (b.2.2.2.2.2.1 - 1) (b.2.2.2.2.2.2 - 1) (by omega) 5
            rw [show max 0 (min (b.2.2.2.2.2.2 - 1 + 1) ((5 : Nat) : Int) - (b.2.2.2.2.2.1 - 1)) = b.2.2.2.2.2.2 - b.2.2.2.2.2.1 + 1 by omega] at r
            rw [show (if 8 + p = v then b.2.2.2.2.2.2 - b.2.2.2.2.2.1 + 1 else 0) = (if 8 + p = v then (1 : Int) else 0) * (b.2.2.2.2.2.2 - b.2.2.2.2.2.1 + 1) by split <;> omega, ← r]
            refine vSm_c 5 (fun c hc5 => ?_)
            rw [tell c hc5, if_neg z2]
            by_cases z3 : b.2.2.2.2.2.1 ≤ (c : Int) + 1 ∧ (c : Int) + 1 ≤ b.2.2.2.2.2.2
            · rw [if_pos (c := b.2.2.2.1 ≤ (f : Int) ∧ _) ⟨z1.1, z1.2, z3⟩, if_pos (c := b.2.2.2.2.2.1 - 1 ≤ (c : Int) ∧ _) (by omega)]
              by_cases z4 : 8 + p = v
              · rw [if_pos z4, if_pos (by omega)]
              · rw [if_neg z4, if_neg (by omega)]
            · rw [if_neg (c := b.2.2.2.1 ≤ (f : Int) ∧ _) (fun w => z3 w.2.2), if_neg (c := b.2.2.2.2.2.1 - 1 ≤ (c : Int) ∧ _) (by omega)]
        · rw [if_neg (c := b.2.2.2.1 ≤ (f : Int) ∧ (f : Int) ≤ min b.2.2.2.2.1 i) (by omega), if_neg (c := max b.2.2.2.1 (i + 1) ≤ (f : Int) ∧ (f : Int) ≤ b.2.2.2.2.1) (by omega), vSm_c (g := fun _ => 0) 5 (fun c hc5 => if_neg (fun w => z1 ⟨w.1, w.2.1⟩)), vSm_z]
          rfl
      rw [vSm_c 12 inner, ← vSm_add, rng Y _ _ e3, rng _ _ _ (by omega), show max 0 (min (min b.2.2.2.2.1 i + 1) ((12 : Nat) : Int) - b.2.2.2.1) = m by omega, show max 0 (min (b.2.2.2.2.1 + 1) ((12 : Nat) : Int) - max b.2.2.2.1 (i + 1)) = b.2.2.2.2.1 - b.2.2.2.1 + 1 - m by omega, Int.mul_comm m Y]
      unfold szB
      by_cases z : 8 + p = v
      · rw [if_pos z, if_pos z, ← Int.sub_mul, Int.mul_comm (b.2.2.2.2.1 - b.2.2.2.1 + 1 - m)]
      · rw [if_neg z, if_neg z, Int.zero_mul]
  · have z1 : vSm (fun y => if 8 + ((b.1 * i).tdiv 5 + dlO b.2.1 (s : Int) i) + ((y : Int) + 1) = v then tlN s T i (cBk s b * 5 + y) b else 0) 5 = 0 := by
      rw [vSm_c (g := fun _ => 0) 5 (fun y hy => ?_), vSm_z]
      rw [at_ y hy, if_neg (c := b.2.2.1 = T ∧ _) (fun w => tq w.1)]
      split <;> rfl
    have z2 : vSm (fun y => tlN s T i (cBk s b * 5 + y) b) 5 = 0 := by
      rw [vSm_c (g := fun _ => 0) 5 (fun y hy => ?_), vSm_z]
      rw [at_ y hy, if_neg (fun w => tq w.1)]
    rw [z1, z2, Int.zero_add, Int.sub_zero]
    have tell : ∀ w : Int, wTool w = b.2.2.1 → vTell G b.1 w b.2.1 i s = (b.1 * i).tdiv 5 + dlO b.2.1 (s : Int) i := by
      intro w hw
      unfold vTell
      rw [hw, hT, if_neg (fun z => tq z.1)]
      unfold dlO
      omega
    rw [bSm_k (V := if 8 + ((b.1 * i).tdiv 5 + dlO b.2.1 (s : Int) i) = v then 1 else 0) hb (fun z => ?_) (fun ne f c hf hc5 => ?_)]
    · split <;> omega
    · rw [tell 0 (by unfold wTool; rw [if_pos rfl]; exact z.symm)]
      by_cases z4 : 8 + ((b.1 * i).tdiv 5 + dlO b.2.1 (s : Int) i) = v
      · rw [if_pos z4, if_pos (by omega)]
      · rw [if_neg z4, if_neg (by omega)]
    · rw [tell _ (wN_e (by omega) (by omega) (by omega) (by omega) (by omega)).2.1]
      by_cases z4 : 8 + ((b.1 * i).tdiv 5 + dlO b.2.1 (s : Int) i) = v
      · rw [if_pos z4, if_pos (by omega)]
      · rw [if_neg z4, if_neg (by omega)]
theorem aV_l {G : pG} {s : Nat} {T i v : Int} (hT : G 115 s = T) (hT0 : 0 ≤ T) (hi : 0 ≤ i) : ∀ l : List vBk, (∀ b ∈ l, okB G b) → aV (bsC i) (fun k => lSm (tlN s T i k) l) (fun c => lSm (oN s c) l) v 125 25 = lSm (bSm (fun h w q => if vTell G h w q i s = v - 8 then 1 else 0)) l
  | [], _ => by
    show aV (bsC i) (fun _ => 0) (fun _ => 0) v 125 25 = 0
    unfold aV
    rw [vSm_c (g := fun _ => 0) 125 (fun k _ => by split <;> rfl), vSm_z, vSm_c (g := fun _ => 0) 25 (fun k _ => by rw [vSm_z]; split <;> rfl), vSm_z]
    rfl
  | b :: l, h => by
    show aV (bsC i) (fun k => tlN s T i k b + lSm (tlN s T i k) l) (fun c => oN s c b + lSm (oN s c) l) v 125 25 = bSm (fun h w q => if vTell G h w q i s = v - 8 then 1 else 0) b + lSm (bSm (fun h w q => if vTell G h w q i s = v - 8 then 1 else 0)) l
    rw [aV_add, aV_b (h b List.mem_cons_self) hT hT0 hi, aV_l hT hT0 hi l (fun x hx => h x (List.mem_cons_of_mem _ hx))]
