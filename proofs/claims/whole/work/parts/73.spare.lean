/-! exact trains, counted -/
def cnF (W : Nat) (lf : (Nat → Nat) → Int) : Nat → Nat → Int → (Nat → Nat) → Int
  | 0, _, _, row => lf row
  | n + 1, dep, used, row => vSm (fun w => if bt used w = false then cnF W lf n (dep + 1) (por used (pshl 1 (w : Int))) (nUpd row dep w) else 0) W
def eX (tt : Nat → Int) (p q : Int) (many : Nat) (row : Nat → Nat) : Int := if tFar tt p q many row = 0 then 1 else 0
theorem enu_cnt (W : Nat) (tt : Nat → Int) (p q : Int) (many : Nat) : ∀ (n dep : Nat) (used : Int) (row : Nat → Nat) (s : vTS), (enu W (wgh tt p q many) n dep used row s).2 = s.2 + cnF W (eX tt p q many) n dep used row := by
  intro n
  induction n with
  | zero =>
    intro dep used row s
    show (if tFar tt p q many row = 0 then s.2 + 1 else s.2) = s.2 + (if tFar tt p q many row = 0 then 1 else 0)
    split <;> omega
  | succ n ih =>
    intro dep used row s
    rw [enu_s]
    have L : ∀ m : Nat, (enL (enB W (wgh tt p q many) n dep used row) m s).2 = s.2 + vSm (fun w => if bt used w = false then cnF W (eX tt p q many) n (dep + 1) (por used (pshl 1 (w : Int))) (nUpd row dep w) else 0) m := by
      intro m
      induction m with
      | zero => show s.2 = s.2 + 0; omega
      | succ m ihm =>
        show (enB W (wgh tt p q many) n dep used row m (enL (enB W (wgh tt p q many) n dep used row) m s)).2 = s.2 + (vSm (fun w => if bt used w = false then cnF W (eX tt p q many) n (dep + 1) (por used (pshl 1 (w : Int))) (nUpd row dep w) else 0) m + (if bt used m = false then cnF W (eX tt p q many) n (dep + 1) (por used (pshl 1 (m : Int))) (nUpd row dep m) else 0))
        unfold enB at ihm ⊢
        by_cases h : bt used m = false
        · rw [if_pos h, if_pos h, ih, ihm]; omega
        · rw [if_neg h, if_neg h, ihm]; omega
    exact L W
theorem vSm_add (f g : Nat → Int) : ∀ n : Nat, vSm f n + vSm g n = vSm (fun i => f i + g i) n
  | 0 => rfl
  | n + 1 => by
    have := vSm_add f g n
    show vSm f n + f n + (vSm g n + g n) = vSm (fun i => f i + g i) n + (f n + g n)
    omega
theorem vSm_z : ∀ n : Nat, vSm (fun _ => 0) n = 0
  | 0 => rfl
  | n + 1 => by show vSm (fun _ => 0) n + 0 = 0; rw [vSm_z n]; rfl
theorem vSm_bd {f : Nat → Int} {B : Int} (hB : 0 ≤ B) : ∀ n : Nat, (∀ i, i < n → 0 ≤ f i ∧ f i ≤ B) → 0 ≤ vSm f n ∧ vSm f n ≤ (n : Int) * B
  | 0, _ => by simp [vSm]
  | n + 1, h => by
    have h1 := vSm_bd hB n (fun i hi => h i (by omega))
    have h2 := h n (by omega)
    have e : ((n + 1 : Nat) : Int) * B = (n : Int) * B + B := by rw [show ((n + 1 : Nat) : Int) = (n : Int) + 1 by omega, Int.add_mul, Int.one_mul]
    show 0 ≤ vSm f n + f n ∧ vSm f n + f n ≤ ((n + 1 : Nat) : Int) * B
    omega
/-- the reference's sums -/
def e2 (tt : Nat → Int) (p q : Int) (a b : Nat) : Int := if tt a * q = tt b * p then 1 else 0
def e4 (tt : Nat → Int) (p q : Int) (a b c d : Nat) : Int := if c ≠ a ∧ c ≠ b ∧ d ≠ a ∧ d ≠ b ∧ c ≠ d ∧ tt a * tt c * q = tt b * tt d * p then 1 else 0
def sC (W : Nat) (tt : Nat → Int) (p q : Int) (a b n : Nat) : Int := vSm (fun c => vSm (e4 tt p q a b c) W) n
def sB (W : Nat) (tt : Nat → Int) (p q : Int) (a n : Nat) : Int := vSm (fun b => if a = b then 0 else e2 tt p q a b + sC W tt p q a b W) n
def sA (W : Nat) (tt : Nat → Int) (p q : Int) (n : Nat) : Int := vSm (fun a => sB W tt p q a W) n
theorem eX2 (tt : Nat → Int) (p q : Int) (row : Nat → Nat) (a b : Nat) : eX tt p q 2 (nUpd (nUpd row 0 a) 1 b) = e2 tt p q a b := by
  have c : tFar tt p q 2 (nUpd (nUpd row 0 a) 1 b) = 0 ↔ tt a * q = tt b * p := by
    simp [tFar, tMis, tUp, tLo, nUpd]
    rw [Int.mul_comm (tt b) p]
    split <;> omega
  unfold eX e2
  by_cases h : tt a * q = tt b * p
  · rw [if_pos (c.mpr h), if_pos h]
  · rw [if_neg (fun z => h (c.mp z)), if_neg h]
theorem eX4 (tt : Nat → Int) (p q : Int) (row : Nat → Nat) {a b c d : Nat} (h : c ≠ a ∧ c ≠ b ∧ d ≠ a ∧ d ≠ b ∧ c ≠ d) : eX tt p q 4 (nUpd (nUpd (nUpd (nUpd row 0 a) 1 b) 2 c) 3 d) = e4 tt p q a b c d := by
  have k : tFar tt p q 4 (nUpd (nUpd (nUpd (nUpd row 0 a) 1 b) 2 c) 3 d) = 0 ↔ tt a * tt c * q = tt b * tt d * p := by
    simp [tFar, tMis, tUp, tLo, nUpd]
    rw [Int.mul_comm (tt b * tt d) p]
    split <;> omega
  unfold eX e4
  by_cases z : tt a * tt c * q = tt b * tt d * p
  · rw [if_pos (k.mpr z), if_pos ⟨h.1, h.2.1, h.2.2.1, h.2.2.2.1, h.2.2.2.2, z⟩]
  · rw [if_neg (fun y => z (k.mp y)), if_neg (fun y => z y.2.2.2.2.2)]
theorem bt0 (j : Nat) : bt 0 j = false := by simp [bt]
theorem spare_eq {W : Nat} (hW : W ≤ 10) (tt : Nat → Int) (p q : Int) : (tFin W tt p q (-1)).2 = sA W tt p q W := by
  have B1 : ∀ a : Nat, a < W → 0 ≤ por 0 (pshl 1 (a : Int)) ∧ por 0 (pshl 1 (a : Int)) < 1024 ∧ ∀ j : Nat, bt (por 0 (pshl 1 (a : Int))) j = decide (j = a) := by
    intro a ha
    obtain ⟨u1, u2, u3, u4⟩ := por_set (a := 0) (k := a) (by omega) (by omega) (by omega)
    exact ⟨u1, by have := u4 10 (by omega) (by omega) (by omega); omega, fun j => by rw [u3, bt0]; rfl⟩
  have B2 : ∀ (u : Int) (b : Nat), 0 ≤ u → u < 1024 → b < W → 0 ≤ por u (pshl 1 (b : Int)) ∧ por u (pshl 1 (b : Int)) < 1024 ∧ ∀ j : Nat, bt (por u (pshl 1 (b : Int))) j = (bt u j || decide (j = b)) := by
    intro u b h0 h1 hb
    obtain ⟨u1, u2, u3, u4⟩ := por_set (a := u) (k := b) h0 (by omega) (by omega)
    exact ⟨u1, by have := u4 10 (by omega) (by omega) (by omega); omega, u3⟩
  unfold tFin
  rw [enu_cnt, enu_cnt, show t0.2 = 0 from rfl, show tUs (-1) = 0 from rfl, Int.zero_add]
  have c2 : cnF W (eX tt p q 2) 2 0 0 (fun _ => 0) = vSm (fun a => vSm (fun b => if a = b then 0 else e2 tt p q a b) W) W := by
    refine vSm_c W (fun a ha => ?_)
    rw [if_pos (bt0 a)]
    refine vSm_c W (fun b hb => ?_)
    rw [(B1 a ha).2.2 b]
    by_cases e : a = b
    · rw [if_neg (by rw [decide_eq_true e.symm]; decide), if_pos e]
    · rw [if_pos (decide_eq_false (Ne.symm e)), if_neg e]
      exact eX2 tt p q _ a b
  have c4 : cnF W (eX tt p q 4) 4 0 0 (fun _ => 0) = vSm (fun a => vSm (fun b => if a = b then 0 else sC W tt p q a b W) W) W := by
    refine vSm_c W (fun a ha => ?_)
    rw [if_pos (bt0 a)]
    refine vSm_c W (fun b hb => ?_)
    obtain ⟨x1, x2, x3⟩ := B1 a ha
    rw [x3 b]
    by_cases e : a = b
    · rw [if_neg (by rw [decide_eq_true e.symm]; decide), if_pos e]
    · rw [if_pos (decide_eq_false (Ne.symm e)), if_neg e]
      obtain ⟨y1, y2, y3⟩ := B2 _ b x1 x2 hb
      refine vSm_c W (fun c hc => ?_)
      rw [y3 c, x3 c]
      by_cases e1 : c = a ∨ c = b
      · rw [if_neg (by rcases e1 with e1 | e1 <;> simp [e1])]
        rw [vSm_c (g := fun _ => 0) W (fun d hd => ?_), vSm_z]
        unfold e4
        rw [if_neg (by omega)]
      · rw [if_pos (by simp; omega)]
        obtain ⟨z1, z2, z3⟩ := B2 _ c y1 y2 hc
        refine vSm_c W (fun d hd => ?_)
        rw [z3 d, y3 d, x3 d]
        by_cases e5 : d = a ∨ d = b ∨ d = c
        · rw [if_neg (by rcases e5 with e5 | e5 | e5 <;> simp [e5])]
          unfold e4
          rw [if_neg (by omega)]
        · rw [if_pos (by simp; omega)]
          exact eX4 tt p q _ (by omega)
  rw [c2, c4, vSm_add]
  refine vSm_c W (fun a ha => ?_)
  rw [vSm_add]
  refine vSm_c W (fun b hb => ?_)
  by_cases e : a = b
  · rw [if_pos e, if_pos e, if_pos e]; rfl
  · rw [if_neg e, if_neg e, if_neg e]
theorem s237 {d : Nat} {G : pG} {W : Nat} (hW : W ≤ 10) (hWn : G 109 49 = (W : Int)) (ht : ∀ i : Nat, i < W → 10 ≤ G 160 i ∧ G 160 i ≤ 200) {p q : Int} (hd : 2 ≤ d) : pRuns pMT d 237 [pR 109, pI p, pI q] Yc G (some (pI (if (1 ≤ p ∧ p ≤ 9999) ∧ 1 ≤ q ∧ q ≤ 9999 then sA W (G 160) p q W else -2))) G := by
  refine pRuns.of rfl rfl (v237_0 (pC1.of (by omega) (s233 (by omega)) ⟨fun z => rI (by rw [if_neg (fun y => b2i_0.mp z y.1)]) rfl, fun z => pC1.of (by omega) (s233 (by omega)) ⟨fun z2 => ?_, fun z2 => rI (by rw [if_neg (fun y => b2i_0.mp z2 y.2)]) rfl⟩⟩))
  have hp := b2i_n0.mp z
  have hq := b2i_n0.mp z2
  rw [if_pos ⟨hp, hq⟩]
  rintro _ rfl _ rfl
  have bD : ∀ a b c n : Nat, n ≤ 10 → 0 ≤ vSm (e4 (G 160) p q a b c) n ∧ vSm (e4 (G 160) p q a b c) n ≤ 10 := by
    intro a b c n hn
    have := vSm_bd (f := e4 (G 160) p q a b c) (B := 1) (by omega) n (fun i _ => by unfold e4; split <;> omega)
    omega
  have bC : ∀ a b n : Nat, n ≤ 10 → 0 ≤ sC W (G 160) p q a b n ∧ sC W (G 160) p q a b n ≤ 100 := by
    intro a b n hn
    have := vSm_bd (f := fun c => vSm (e4 (G 160) p q a b c) W) (B := 10) (by omega) n (fun i _ => bD a b i W hW)
    unfold sC
    omega
  have b2 : ∀ a b : Nat, 0 ≤ e2 (G 160) p q a b ∧ e2 (G 160) p q a b ≤ 1 := by intro a b; unfold e2; split <;> omega
  have bB : ∀ a n : Nat, n ≤ 10 → 0 ≤ sB W (G 160) p q a n ∧ sB W (G 160) p q a n ≤ 1010 := by
    intro a n hn
    have := vSm_bd (f := fun b => if a = b then 0 else e2 (G 160) p q a b + sC W (G 160) p q a b W) (B := 101) (by omega) n (fun i _ => by have := bC a i W hW; have := b2 a i; show 0 ≤ (if a = i then 0 else e2 (G 160) p q a i + sC W (G 160) p q a i W) ∧ _; split <;> omega)
    unfold sB
    omega
  have bA : ∀ n : Nat, n ≤ 10 → 0 ≤ sA W (G 160) p q n ∧ sA W (G 160) p q n ≤ 10100 := by
    intro n hn
    have := vSm_bd (f := fun a => sB W (G 160) p q a W) (B := 1010) (by omega) n (fun i _ => bB i W hW)
    unfold sA
    omega
  have inc : ∀ n : Nat, n ≤ 10 → w32 ((n : Int) + 1) = ((n + 1 : Nat) : Int) := fun n hn => by rw [w32_id (by omega) (by omega)]; rfl
  have H4 : ∀ (a b c : Nat) (X : Int), a < W → b < W → c < W → a ≠ b → 0 ≤ X → X ≤ 20000 → pEnds pMT d 237 Yc (fun r' g => r' = some (pI (sA W (G 160) p q W)) ∧ g = G) 90 [pR 109, pI p, pI q, pI (X + vSm (e4 (G 160) p q a b c) W), pI (a : Int), pI (b : Int), pI ((c + 1 : Nat) : Int), pU] [] G → ∀ (m n : Nat), n + m = W → pEnds pMT d 237 Yc (fun r' g => r' = some (pI (sA W (G 160) p q W)) ∧ g = G) 102 [pR 109, pI p, pI q, pI (X + vSm (e4 (G 160) p q a b c) n), pI (a : Int), pI (b : Int), pI (c : Int), pI (n : Int)] [] G := by
    intro a b c X ha hb hc hab hX0 hX1 K m
    induction m with
    | zero =>
      intro n hn
      obtain rfl : n = W := by omega
      refine v237_102 ⟨fun _ => ?_, fun z => by omega⟩
      rw [inc c (by omega)]
      rintro _ rfl
      exact K
    | succ m ih =>
      intro n hn
      have nx := ih (n + 1) (by omega)
      have bd := bD a b c n (by omega)
      have s0 : e4 (G 160) p q a b c n = 0 → pEnds pMT d 237 Yc (fun r' g => r' = some (pI (sA W (G 160) p q W)) ∧ g = G) 102 [pR 109, pI p, pI q, pI (X + vSm (e4 (G 160) p q a b c) n), pI (a : Int), pI (b : Int), pI (c : Int), pI ((n + 1 : Nat) : Int)] [] G := fun h => by
        rw [show vSm (e4 (G 160) p q a b c) (n + 1) = vSm (e4 (G 160) p q a b c) n by show _ + _ = _; rw [h]; omega] at nx
        exact nx
      have ta := ht a ha
      have tb := ht b hb
      have tc := ht c hc
      have tn := ht n (by omega)
      have m1 := mulb (A := 200) (B := 200) (show 0 ≤ G 160 a by omega) ta.2 (show 0 ≤ G 160 c by omega) tc.2
      have m2 := mulb (A := 200) (B := 200) (show 0 ≤ G 160 b by omega) tb.2 (show 0 ≤ G 160 n by omega) tn.2
      have m3 := mulb (A := 40000) (B := 9999) m1.1 m1.2 (show 0 ≤ q by omega) hq.2
      have m4 := mulb (A := 40000) (B := 9999) m2.1 m2.2 (show 0 ≤ p by omega) hp.2
      refine v237_102 ⟨fun z => by omega, fun _ => ?_⟩
      rw [inc n (by omega), Int.toNat_natCast, Int.toNat_natCast, Int.toNat_natCast, Int.toNat_natCast, w64_id (x := G 160 a * G 160 c) (by omega) (by omega), w64_id (x := G 160 b * G 160 n) (by omega) (by omega), w64_id (x := G 160 a * G 160 c * q) (by omega) (by omega), w64_id (x := G 160 b * G 160 n * p) (by omega) (by omega), cmp_eq]
      refine ⟨fun z => ?_, fun z1 => ⟨fun z => ?_, fun z2 => ⟨fun z => ?_, fun z3 => ⟨fun z => ?_, fun z4 => ⟨fun z => ?_, fun z5 => ⟨by omega, by omega, by omega, by omega, by omega, by omega, by omega, by omega, fun z => ?_, fun z => ?_⟩⟩⟩⟩⟩⟩
      · rintro _ rfl
        exact s0 (by unfold e4; rw [if_neg (by omega)])
      · rintro _ rfl
        exact s0 (by unfold e4; rw [if_neg (by omega)])
      · rintro _ rfl
        exact s0 (by unfold e4; rw [if_neg (by omega)])
      · rintro _ rfl
        exact s0 (by unfold e4; rw [if_neg (by omega)])
      · rintro _ rfl
        exact s0 (by unfold e4; rw [if_neg (by omega)])
      · rintro _ rfl
        exact s0 (by unfold e4; rw [if_neg (fun y => z y.2.2.2.2.2)])
      · rw [w32_id (x := X + vSm (e4 (G 160) p q a b c) n + 1) (by omega) (by omega)]
        rintro _ rfl _ rfl
        rw [show X + vSm (e4 (G 160) p q a b c) (n + 1) = X + vSm (e4 (G 160) p q a b c) n + 1 by show X + (_ + _) = _; rw [show e4 (G 160) p q a b c n = 1 by unfold e4; rw [if_pos ⟨by omega, by omega, by omega, by omega, by omega, z⟩]]; omega] at nx
        exact nx
  have H3 : ∀ (a b : Nat) (X : Int), a < W → b < W → a ≠ b → 0 ≤ X → X ≤ 15000 → pEnds pMT d 237 Yc (fun r' g => r' = some (pI (sA W (G 160) p q W)) ∧ g = G) 34 [pR 109, pI p, pI q, pI (X + sC W (G 160) p q a b W), pI (a : Int), pI ((b + 1 : Nat) : Int), pU, pU] [] G → ∀ (m n : Nat), n + m = W → pEnds pMT d 237 Yc (fun r' g => r' = some (pI (sA W (G 160) p q W)) ∧ g = G) 90 [pR 109, pI p, pI q, pI (X + sC W (G 160) p q a b n), pI (a : Int), pI (b : Int), pI (n : Int), pU] [] G := by
    intro a b X ha hb hab hX0 hX1 K m
    induction m with
    | zero =>
      intro n hn
      obtain rfl : n = W := by omega
      refine v237_90 ⟨fun _ => ?_, fun z => by omega⟩
      rw [inc b (by omega)]
      rintro _ rfl
      exact K
    | succ m ih =>
      intro n hn
      have nx := ih (n + 1) (by omega)
      have bd := bC a b n (by omega)
      refine v237_90 ⟨fun z => by omega, fun _ => ?_⟩
      rintro _ rfl
      have := H4 a b n (X + sC W (G 160) p q a b n) ha hb (by omega) hab (by omega) (by omega) (by
        rw [show sC W (G 160) p q a b (n + 1) = sC W (G 160) p q a b n + vSm (e4 (G 160) p q a b n) W from rfl, ← Int.add_assoc] at nx
        exact nx) W 0 (by omega)
      rw [show X + sC W (G 160) p q a b n + vSm (e4 (G 160) p q a b n) 0 = X + sC W (G 160) p q a b n by show _ + 0 = _; omega] at this
      exact this
  have H2 : ∀ (a : Nat) (X : Int), a < W → 0 ≤ X → X ≤ 12000 → pEnds pMT d 237 Yc (fun r' g => r' = some (pI (sA W (G 160) p q W)) ∧ g = G) 22 [pR 109, pI p, pI q, pI (X + sB W (G 160) p q a W), pI ((a + 1 : Nat) : Int), pU, pU, pU] [] G → ∀ (m n : Nat), n + m = W → pEnds pMT d 237 Yc (fun r' g => r' = some (pI (sA W (G 160) p q W)) ∧ g = G) 34 [pR 109, pI p, pI q, pI (X + sB W (G 160) p q a n), pI (a : Int), pI (n : Int), pU, pU] [] G := by
    intro a X ha hX0 hX1 K m
    induction m with
    | zero =>
      intro n hn
      obtain rfl : n = W := by omega
      refine v237_34 ⟨fun _ => ?_, fun z => by omega⟩
      rw [inc a (by omega)]
      rintro _ rfl
      exact K
    | succ m ih =>
      intro n hn
      have nx := ih (n + 1) (by omega)
      have bd := bB a n (by omega)
      have b2' := b2 a n
      have ta := ht a ha
      have tn := ht n (by omega)
      have m3 := mulb (A := 200) (B := 9999) (show 0 ≤ G 160 a by omega) ta.2 (show 0 ≤ q by omega) hq.2
      have m4 := mulb (A := 200) (B := 9999) (show 0 ≤ G 160 n by omega) tn.2 (show 0 ≤ p by omega) hp.2
      have sn : sB W (G 160) p q a (n + 1) = sB W (G 160) p q a n + (if a = n then 0 else e2 (G 160) p q a n + sC W (G 160) p q a n W) := rfl
      refine v237_34 ⟨fun z => by omega, fun _ => ⟨fun z => ⟨by omega, by omega, by omega, by omega, ?_⟩, fun z => ?_⟩⟩
      · rw [Int.toNat_natCast, Int.toNat_natCast, w64_id (x := G 160 a * q) (by omega) (by omega), w64_id (x := G 160 n * p) (by omega) (by omega), cmp_eq, w32_id (x := X + sB W (G 160) p q a n + 0) (by omega) (by omega), w32_id (x := X + sB W (G 160) p q a n + 1) (by omega) (by omega)]
        rw [sn, if_neg (by omega)] at nx
        have go : ∀ v : Int, v = X + sB W (G 160) p q a n + e2 (G 160) p q a n → pEnds pMT d 237 Yc (fun r' g => r' = some (pI (sA W (G 160) p q W)) ∧ g = G) 90 [pR 109, pI p, pI q, pI v, pI (a : Int), pI (n : Int), pI 0, pU] [] G := by
          rintro v hv
          have := H3 a n v ha (by omega) (by omega) (by omega) (by omega) (by
            rw [show X + (sB W (G 160) p q a n + (e2 (G 160) p q a n + sC W (G 160) p q a n W)) = v + sC W (G 160) p q a n W by omega] at nx
            exact nx) W 0 (by omega)
          rw [show v + sC W (G 160) p q a n 0 = v by show v + 0 = v; omega] at this
          exact this
        refine ⟨fun y => ?_, fun y => ?_⟩
        · rintro _ rfl _ rfl
          exact go _ (by unfold e2; rw [if_neg y])
        · rintro _ rfl _ rfl
          exact go _ (by unfold e2; rw [if_pos y])
      · rw [inc n (by omega)]
        rintro _ rfl
        rw [sn, if_pos (by omega)] at nx
        rw [show X + (sB W (G 160) p q a n + 0) = X + sB W (G 160) p q a n by omega] at nx
        exact nx
  have H1 : ∀ (m n : Nat), n + m = W → pEnds pMT d 237 Yc (fun r' g => r' = some (pI (sA W (G 160) p q W)) ∧ g = G) 22 [pR 109, pI p, pI q, pI (sA W (G 160) p q n), pI (n : Int), pU, pU, pU] [] G := by
    intro m
    induction m with
    | zero =>
      intro n hn
      obtain rfl : n = W := by omega
      exact v237_22 ⟨fun _ => rI rfl rfl, fun z => by omega⟩
    | succ m ih =>
      intro n hn
      have nx := ih (n + 1) (by omega)
      have bd := bA n (by omega)
      refine v237_22 ⟨fun z => by omega, fun _ => ?_⟩
      rintro _ rfl
      have := H2 n (sA W (G 160) p q n) (by omega) (by omega) (by omega) nx W 0 (by omega)
      rw [show sA W (G 160) p q n + sB W (G 160) p q n 0 = sA W (G 160) p q n by show _ + 0 = _; omega] at this
      exact this
  exact H1 W 0 (by omega)
theorem pr_spare (p q : Int) : pPx [73, 78, 79] [] (fun G => rWh G ∧ rTr G) (fun G G' => rWh G' ∧ rTr G') 153 237 [pI p, pI q] := by
  rintro G ⟨hW, hT⟩
  have hW' := hW
  have hT' := hT
  obtain ⟨w1, w2, w3, w4⟩ := hW
  obtain ⟨W, hWn⟩ : ∃ W : Nat, G 109 49 = (W : Int) := ⟨(G 109 49).toNat, by omega⟩
  have ht : ∀ i : Nat, i < W → 10 ≤ G 160 i ∧ G 160 i ≤ 200 := fun i hi => (w4 i (by omega)).2
  by_cases hok : (1 ≤ p ∧ p ≤ 9999) ∧ 1 ≤ q ∧ q ≤ 9999
  · obtain ⟨A, a1, a2, a3, a4, a5⟩ := s113 (d := 57) (G := G) (W := W) (tt := G 160) (by omega) ht (by rw [w3, hWn]) (fun i hi => (w4 i (by omega)).1) hok.1.1 hok.1.2 hok.2.1 hok.2.2 (x := -1) (Or.inl rfl) (by omega)
    have k237 := s237 (d := 59) (G := A) (W := W) (p := p) (q := q) (by omega) (by rw [a2.f 49 (by decide), hWn]) (by rw [a2.c 160 (by decide)]; exact ht) (by omega)
    rw [if_pos hok, a2.c 160 (by decide), ← spare_eq (by omega)] at k237
    have c112 : pRuns pMT 58 112 [pR 73, pI p, pI q] Yc G (some (pI (tFin W (G 160) p q (-1)).2)) A := pRuns.of rfl rfl (v112_0 (pC0.of (by omega) a1 (rI a5.2.1 rfl)))
    refine ⟨_, A, A, pRuns.of rfl rfl (v153_0 (pC1.of (by omega) (s150 (by omega)) ⟨fun z => absurd hok (b2i_0.mp z), fun _ => pC1.of (by omega) c112 (rI rfl rfl)⟩)), k237, a2, a2, ?_, ?_⟩
    · exact ⟨by rw [a2.f 49 (by decide)]; exact w1, by rw [a2.f 49 (by decide)]; exact w2, by rw [a3 1 (by omega), a2.f 49 (by decide)]; exact w3, by rw [a2.f 49 (by decide), a2.c 74 (by decide), a2.c 160 (by decide)]; exact w4⟩
    · unfold rTr at *
      rw [a2.f 50 (by decide), a2.f 56 (by decide), a2.f 57 (by decide), a2.c 76 (by decide), a2.c 77 (by decide), a2.c 162 (by decide), a2.c 163 (by decide), a3 5 (by omega), a3 6 (by omega), a3 7 (by omega)]
      exact hT'
  · have k237 := s237 (d := 59) (G := G) (W := W) (p := p) (q := q) (by omega) hWn ht (by omega)
    rw [if_neg hok] at k237
    exact ⟨-2, G, G, pRuns.of rfl rfl (v153_0 (pC1.of (by omega) (s150 (by omega)) ⟨fun _ => rI rfl rfl, fun z => absurd (b2i_n0.mp z) hok⟩)), k237, fr.refl _ _ _, fr.refl _ _ _, hW', hT'⟩
