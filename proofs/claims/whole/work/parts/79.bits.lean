/-! bits of longs -/
def bL (v : Int) (k : Nat) : Bool := (Int64.ofInt v).toBitVec.getLsbD k
theorem amt64 : ∀ k : Nat, k < 64 → ((Int32.ofInt (k : Int)).toInt64 &&& 63).toBitVec.smod 64 = BitVec.ofNat 64 k := by decide +kernel
theorem bL_get {v : Int} {k : Nat} (hk : k < 64) : plcmp (pland (plshr v (k : Int)) 1) 1 = 0 ↔ bL v k = true := by
  rw [cmp_eq]
  unfold pland plshr bL
  rw [Int64.ofInt_toInt]
  have e : (Int64.ofInt v >>> ((Int32.ofInt (k : Int)).toInt64 &&& 63) &&& Int64.ofInt 1).toBitVec = BitVec.setWidth 64 (BitVec.ofBool ((Int64.ofInt v).toBitVec.getLsbD k)) := by
    rw [Int64.toBitVec_and, Int64.toBitVec_shiftRight, amt64 k hk, show (Int64.ofInt 1).toBitVec = 1#64 from rfl, BitVec.and_one_eq_setWidth_ofBool_getLsbD]
    congr 2
    rw [BitVec.sshiftRight', BitVec.getLsbD_sshiftRight, BitVec.toNat_ofNat]
    have : k % 2 ^ 64 = k := Nat.mod_eq_of_lt (by omega)
    rw [this]
    simp [hk]
  cases c : (Int64.ofInt v).toBitVec.getLsbD k with
  | true =>
    rw [c] at e
    have : (Int64.ofInt v >>> ((Int32.ofInt (k : Int)).toInt64 &&& 63) &&& Int64.ofInt 1) = 1 := Int64.toBitVec_inj.mp (by rw [e]; decide)
    rw [this]
    decide
  | false =>
    rw [c] at e
    have : (Int64.ofInt v >>> ((Int32.ofInt (k : Int)).toInt64 &&& 63) &&& Int64.ofInt 1) = 0 := Int64.toBitVec_inj.mp (by rw [e]; decide)
    rw [this]
    decide
theorem bL_set {v : Int} {k j : Nat} (hk : k < 64) (hj : j < 64) : bL (plor v (plshl 1 (k : Int))) j = (bL v j || decide (j = k)) := by
  unfold plor plshl bL
  rw [Int64.ofInt_toInt, Int64.ofInt_toInt, Int64.toBitVec_or, Int64.toBitVec_shiftLeft, amt64 k hk, BitVec.getLsbD_or]
  congr 1
  rw [BitVec.shiftLeft_eq', BitVec.getLsbD_shiftLeft, BitVec.toNat_ofNat, Nat.mod_eq_of_lt (show k < 2 ^ 64 by omega), show (Int64.ofInt 1).toBitVec = 1#64 from rfl]
  by_cases e : j = k
  · subst e
    simp [hj]
  · rw [decide_eq_false e]
    by_cases l : j < k
    · simp [l]
    · have : j - k ≠ 0 := by omega
      simp [l, BitVec.getLsbD_one, this]
theorem bL_0 (j : Nat) : bL 0 j = false := by
  unfold bL
  rw [show (Int64.ofInt 0).toBitVec = 0#64 from rfl]
  exact BitVec.getLsbD_zero
theorem sh6 {n : Nat} (h : n < 60000) : pshr (n : Int) 6 = ((n / 64 : Nat) : Int) ∧ pand (n : Int) 63 = ((n % 64 : Nat) : Int) := by
  have h1 := pshr_nn (a := n) (k := 6) (by omega) (by omega)
  have h2 := pand_nn (a := n) (b := 63) (by omega)
  rw [Nat.shiftRight_eq_div_pow] at h1
  rw [show (63 : Nat) = 2 ^ 6 - 1 from rfl, Nat.and_two_pow_sub_one_eq_mod] at h2
  exact ⟨h1, h2⟩
/-- the fits, as the reference keeps them -/
def ftM (G : pG) (f : Nat → Bool) (m : Nat) : Prop := ∀ j : Nat, j < 52352 → bL (G 172 (j / 64)) (j % 64) = (decide (j < m) && f j)
theorem s254 {d : Nat} {G : pG} {f : Nat → Bool} {m n : Nat} (h : ftM G f m) (hm : n < m) (hn : n < 52352) : pRuns pMT d 254 [pR 109, pI (n : Int)] Yc G (some (pI (b2i (f n = true)))) G := by
  obtain ⟨e1, e2⟩ := sh6 (n := n) (by omega)
  refine pRuns.of rfl rfl (v254_0 ?_)
  rw [e1, e2, bL_get (by omega), Int.toNat_natCast, h n hn, decide_eq_true hm, Bool.true_and]
  exact ⟨by omega, by omega, fun z => ⟨Or.inl rfl, q0 z, rfl⟩, fun z => ⟨Or.inr rfl, q1 z, rfl⟩⟩
def fN (G : pG) (K : Int) (n : Nat) : Bool := fitB (tlG G) (vH G (n : Int)) (vD G (n : Int)) (vW G (n : Int)) (snL G K)
def lf (f : Nat → Bool) : Nat → Int
  | 0 => -1
  | n + 1 => if f n = true ∧ lf f n = -1 then (n : Int) else lf f n
def cN (f : Nat → Bool) (n : Nat) : Int := vSm (fun i => if f i = true then 1 else 0) n
theorem cN_bd (f : Nat → Bool) (n : Nat) : 0 ≤ cN f n ∧ cN f n ≤ (n : Int) := by
  have := vSm_bd (f := fun i => if f i = true then (1 : Int) else 0) (B := 1) (by omega) n (fun i _ => by show 0 ≤ (if f i = true then (1 : Int) else 0) ∧ _; split <;> omega)
  unfold cN
  omega
theorem tel_iff {G : pG} (n i : Int) (s : Nat) (o : Int) : vTel G n i s = o ↔ woO (vW G n) (tlG G (s : Int)) i = rst (vH G n) (vD G n) (i, (s : Int), o) := by
  have e : vTel G n i s = (vH G n * i).tdiv 5 + woO (vW G n) (tlG G (s : Int)) i + dlO (vD G n) (s : Int) i := by
    unfold vTel vTell woO tlG dlO
    rw [Int.toNat_natCast]
  rw [e]
  unfold rst
  show _ ↔ _ = o - (vH G n * i).tdiv 5 - dlO (vD G n) (s : Int) i
  omega
theorem s255 {d : Nat} {G : pG} {K : Int} (hP : rPart G) (hG : rGau G) (hd : 3 ≤ d) : ∃ G', pRuns pMT d 255 [pR 109, pI K] Yc G none G' ∧ (fr [172] [71, 72] G G' ∧ ftM G' (fN G K) (vCau G).toNat ∧ G' 109 71 = cN (fN G K) (vCau G).toNat ∧ G' 109 72 = lf (fN G K) (vCau G).toNat) := by
  obtain ⟨c1, c2, c3⟩ := vCau_e hP
  obtain ⟨NC, hNC⟩ : ∃ NC : Nat, vCau G = (NC : Int) := ⟨(vCau G).toNat, by omega⟩
  rw [show (vCau G).toNat = NC by omega]
  have hG' := hG
  obtain ⟨⟨g1, g2, -⟩, -, -, g8, -⟩ := hG
  refine pX0 rfl rfl (v255_0 ?_)
  have inv : ∀ g : pG, fr [172] [71, 72] G g → rPart g ∧ rGau g ∧ vCau g = (NC : Int) ∧ g 109 60 = G 109 60 := by
    intro g f
    refine ⟨f.mv rPart_dep (by decide) (by decide) hP, rGau_mv hG' (fun c hc => f.1 c (by revert hc; revert c; decide) (by revert hc; revert c; decide)) (fun j hj => f.2 j (by revert hj; revert j; decide)) (by rw [f.c 80 (by decide)]) (by rw [f.c 80 (by decide)]) (by rw [f.c 80 (by decide)]), ?_, f.f 60 (by decide)⟩
    unfold vCau at hNC ⊢
    rw [f.f 10 (by decide), f.f 11 (by decide)]
    exact hNC
  have H2 : ∀ (m n : Nat) (g : pG), n + m = NC → fr [172] [71, 72] G g → ftM g (fN G K) n → g 109 71 = cN (fN G K) n → g 109 72 = lf (fN G K) n → pEnds pMT d 255 Yc (fun r g => r = none ∧ (fr [172] [71, 72] G g ∧ ftM g (fN G K) NC ∧ g 109 71 = cN (fN G K) NC ∧ g 109 72 = lf (fN G K) NC)) 36 [pR 109, pI K, pI (n : Int), pU, pU] [] g := by
    intro m
    induction m with
    | zero =>
      intro n g hn f1 f2 f3 f4
      obtain rfl : n = NC := by omega
      obtain ⟨hPg, -, hCg, -⟩ := inv g f1
      refine v255_36 (pC1.of (by omega) (s246 hPg (by omega)) ?_)
      rw [hCg]
      exact ⟨fun _ => ⟨rfl, f1, f2, f3, f4⟩, fun z => by omega⟩
    | succ m ih =>
      intro n g hn f1 f2 f3 f4
      obtain ⟨hPg, hGg, hCg, h60⟩ := inv g f1
      have nb : (n : Int) ≤ vCau g - 1 := by rw [hCg]; omega
      have next : ∀ g' : pG, fr [172] [71, 72] G g' → ftM g' (fN G K) (n + 1) → g' 109 71 = cN (fN G K) (n + 1) → g' 109 72 = lf (fN G K) (n + 1) → pEnds pMT d 255 Yc (fun r g => r = none ∧ (fr [172] [71, 72] G g ∧ ftM g (fN G K) NC ∧ g 109 71 = cN (fN G K) NC ∧ g 109 72 = lf (fN G K) NC)) 162 [pR 109, pI K, pI (n : Int), pU, pU] [] g' := by
        intro g' h1 h2 h3 h4
        refine v255_162 ?_
        rw [w32_id (by omega) (by omega)]
        rintro _ rfl
        exact ih (n + 1) g' (by omega) h1 h2 h3 h4
      have after : ∀ x3 : Int, x3 = b2i (fN G K n = true) → pEnds pMT d 255 Yc (fun r g => r = none ∧ (fr [172] [71, 72] G g ∧ ftM g (fN G K) NC ∧ g 109 71 = cN (fN G K) NC ∧ g 109 72 = lf (fN G K) NC)) 114 [pR 109, pI K, pI (n : Int), pI x3, pU] [] g := by
        intro x3 hx3
        have cb := cN_bd (fN G K) n
        obtain ⟨e1, e2⟩ := sh6 (n := n) (by omega)
        have put : fN G K n = true → ∀ g' : pG, fr [172] [71, 72] G g' → g' 172 = g 172 → g' 109 71 = g 109 71 → g' 109 72 = lf (fN G K) (n + 1) → pEnds pMT d 255 Yc (fun r g => r = none ∧ (fr [172] [71, 72] G g ∧ ftM g (fN G K) NC ∧ g 109 71 = cN (fN G K) NC ∧ g 109 72 = lf (fN G K) NC)) 134 [pR 109, pI K, pI (n : Int), pU, pU] [] g' := by
          intro hf g' h1 h2 h3 h4
          refine v255_134 ?_
          rw [e1, e2, Int.toNat_natCast, pset_cl (b := 109) _ _ (by decide), h3, f3, w32_id (by omega) (by omega)]
          refine ⟨by omega, by omega, by omega, by omega, next _ (h1.trans ((fr.set (by decide) (by decide) _ _ _).trans (fr.setF (by decide) _ _))) (fun j hj => ?_) ?_ ?_⟩
          · rw [pset_cl _ _ (by decide), pset_at, if_pos rfl]
            by_cases q : j / 64 = n / 64
            · rw [if_pos q, h2, bL_set (by omega) (by omega), ← q, f2 j hj]
              by_cases w : j = n
              · subst w; simp [hf]
              · have e3 : ¬ (j % 64 = n % 64) := fun z => w (by omega)
                have e4 : (j < n + 1) ↔ j < n := by omega
                simp [e3, e4]
            · rw [if_neg q, h2, f2 j hj]
              have e4 : (j < n + 1) ↔ j < n := by omega
              simp [e4]
          · rw [pset_eq]
            show _ = cN (fN G K) n + (if fN G K n = true then 1 else 0)
            rw [if_pos hf]
          · rw [pset_ne _ _ (by decide), pset_cl _ _ (by decide)]; exact h4
        refine v255_114 ⟨fun z => ?_, fun z => ?_⟩
        · rw [hx3] at z
          have hf := b2i_n0.mp z
          refine ⟨fun y => put hf g f1 rfl rfl ?_, fun y => put hf _ (f1.trans (fr.setF (by decide) _ _)) (by rw [pset_cl _ _ (by decide)]) (by rw [pset_ne _ _ (by decide)]) ?_⟩
          · rw [f4] at y ⊢
            show _ = if fN G K n = true ∧ lf (fN G K) n = -1 then (n : Int) else lf (fN G K) n
            rw [if_neg (fun w => y w.2)]
          · rw [pset_eq]
            rw [f4] at y
            show _ = if fN G K n = true ∧ lf (fN G K) n = -1 then (n : Int) else lf (fN G K) n
            rw [if_pos ⟨hf, y⟩]
        · rw [hx3] at z
          have hf := b2i_0.mp z
          refine next g f1 (fun j hj => ?_) ?_ ?_
          · rw [f2 j hj]
            by_cases w : j = n
            · subst w; simp [hf]
            · have e4 : (j < n + 1) ↔ j < n := by omega
              simp [e4]
          · show _ = cN (fN G K) n + (if fN G K n = true then 1 else 0)
            rw [if_neg hf, f3]; omega
          · show _ = if fN G K n = true ∧ lf (fN G K) n = -1 then (n : Int) else lf (fN G K) n
            rw [if_neg (fun w => hf w.1), f4]
      have ev : ∀ x : Int, vH g x = vH G x ∧ vW g x = vW G x ∧ vD g x = vD G x := by
        intro x
        unfold vH vW vD cDw cWw
        rw [f1.f 10 (by decide), f1.f 11 (by decide)]
        exact ⟨rfl, rfl, rfl⟩
      have IN : ∀ (r k : Nat) (x3 : Int), (k : Int) + r = G 109 60 → x3 = b2i (fitB (tlG G) (vH G (n : Int)) (vD G (n : Int)) (vW G (n : Int)) (cQ (snI G K) k) = true) → pEnds pMT d 255 Yc (fun r g => r = none ∧ (fr [172] [71, 72] G g ∧ ftM g (fN G K) NC ∧ g 109 71 = cN (fN G K) NC ∧ g 109 72 = lf (fN G K) NC)) 49 [pR 109, pI K, pI (n : Int), pI x3, pI (k : Int)] [] g := by
        intro r
        induction r with
        | zero =>
          intro k x3 hk hx
          refine v255_49 ⟨fun _ => after x3 ?_, fun z => by rw [h60] at z; omega⟩
          rw [hx]
          unfold fN snL
          rw [show (G 109 60).toNat = k by omega]
        | succ r ihr =>
          intro k x3 hk hx
          have hkl : (k : Int) < G 109 60 := by omega
          obtain ⟨-, -, -, -, a1, a2, a3, a4, -⟩ := g8 k hkl
          have e : w32 ((k : Int) + 1) = ((k + 1 : Nat) : Int) := by rw [w32_id (by omega) (by omega)]; rfl
          have sp : fitB (tlG G) (vH G (n : Int)) (vD G (n : Int)) (vW G (n : Int)) (cQ (snI G K) (k + 1)) = (fitB (tlG G) (vH G (n : Int)) (vD G (n : Int)) (vW G (n : Int)) (cQ (snI G K) k) && fitB (tlG G) (vH G (n : Int)) (vD G (n : Int)) (vW G (n : Int)) (snI G K k)) := by
            unfold fitB
            show List.all (cQ (snI G K) k ++ snI G K k) _ = _
            rw [List.all_append]
          refine v255_49 ⟨fun z => by rw [h60] at z; omega, fun _ => ⟨fun z => after x3 ?_, fun z => ⟨by omega, by omega, ?_⟩⟩⟩
          · rw [hx] at z
            have z := b2i_0.mp z
            rw [hx]
            have : ¬ fN G K n = true := by
              intro w
              apply z
              unfold fN snL at w
              rw [fitB_e] at w ⊢
              intro y hy
              have mono : ∀ a b : Nat, a ≤ b → ∀ y ∈ cQ (snI G K) a, y ∈ cQ (snI G K) b := by
                intro a b
                induction b with
                | zero => intro h y hy; rwa [show a = 0 by omega] at hy
                | succ b ihb =>
                  intro h y hy
                  by_cases q : a = b + 1
                  · rwa [q] at hy
                  · exact List.mem_append.mpr (Or.inl (ihb (by omega) y hy))
              exact w y (mono k _ (by omega) y hy)
            rw [b2i_f z, b2i_f this]
          · rw [hx] at z
            have z := b2i_n0.mp z
            have go : fitB (tlG G) (vH G (n : Int)) (vD G (n : Int)) (vW G (n : Int)) (snI G K k) = true → pEnds pMT d 255 Yc (fun r g => r = none ∧ (fr [172] [71, 72] G g ∧ ftM g (fN G K) NC ∧ g 109 71 = cN (fN G K) NC ∧ g 109 72 = lf (fN G K) NC)) 102 [pR 109, pI K, pI (n : Int), pU, pI (k : Int)] [] g := by
              intro w
              refine v255_102 ?_
              rw [e]
              intro x hx' y hy
              rw [hy]
              exact ihr (k + 1) x (by omega) (by rw [hx', sp, z, w]; rfl)
            rw [Int.toNat_natCast, f1.c 168 (by decide), f1.c 165 (by decide), f1.c 166 (by decide), e]
            refine ⟨fun w => go ?_, fun w => ⟨by omega, by omega, by omega, by omega, ?_⟩⟩
            · unfold snI; rw [if_neg (by omega)]; rfl
            · obtain ⟨sN, hsN⟩ : ∃ sN : Nat, G 166 k = (sN : Int) := ⟨(G 166 k).toNat, by omega⟩
              rw [hsN]
              refine pC1.of (by omega) (s250 hPg (by omega) nb a1 a2 (by rw [f1.f 11 (by decide)]; omega) (by omega)) (pC1.of (by omega) (s243 hGg (by rw [h60]; exact hkl)) ?_)
              have eT : vTel g (n : Int) (G 165 k) sN = vTel G (n : Int) (G 165 k) sN := vTel_c (f1.f 10 (by decide)) (f1.f 11 (by decide)) (f1.c 115 (by decide)) _ _ _
              have eO : vOff g k K = vOff G k K := vOff_c (fun c hc => f1.1 c (by revert hc; revert c; decide) (by revert hc; revert c; decide)) (f1.f 61 (by decide)) k K
              have iff1 : fitB (tlG G) (vH G (n : Int)) (vD G (n : Int)) (vW G (n : Int)) (snI G K k) = true ↔ vTel G (n : Int) (G 165 k) sN = vOff G k K := by
                rw [fitB_e, tel_iff]
                unfold snI fitW
                rw [if_pos w, hsN]
                constructor
                · intro h; exact h _ (List.mem_singleton.mpr rfl)
                · intro h y hy; rw [List.mem_singleton] at hy; rw [hy]; exact h
              rw [eT, eO]
              refine ⟨fun v => ?_, fun v => go (iff1.mpr v)⟩
              intro x hx' y hy
              rw [hy]
              refine ihr (k + 1) x (by omega) ?_
              rw [hx', sp, z, Bool.true_and, b2i_f (fun u => v (iff1.mp u))]
      refine v255_36 (pC1.of (by omega) (s246 hPg (by omega)) ?_)
      rw [hCg]
      refine ⟨fun z => by omega, fun _ => ?_⟩
      intro x3 hx3 x4 hx4
      rw [hx4]
      exact IN (G 109 60).toNat 0 x3 (by omega) (by rw [hx3]; rfl)
  have H1 : ∀ (m i : Nat) (g : pG), i + m = 818 → fr [172] [71, 72] G g → (∀ j : Nat, j < i → g 172 j = 0) → g 109 71 = 0 → g 109 72 = -1 → pEnds pMT d 255 Yc (fun r g => r = none ∧ (fr [172] [71, 72] G g ∧ ftM g (fN G K) NC ∧ g 109 71 = cN (fN G K) NC ∧ g 109 72 = lf (fN G K) NC)) 12 [pR 109, pI K, pI (i : Int), pU, pU] [] g := by
    intro m
    induction m with
    | zero =>
      intro i g hi f1 f2 f3 f4
      obtain rfl : i = 818 := by omega
      refine v255_12 ⟨fun _ => ?_, fun z => by omega⟩
      rintro _ rfl
      refine H2 NC 0 g (by omega) f1 (fun j hj => ?_) f3 f4
      rw [f2 (j / 64) (by omega), bL_0]
      simp
    | succ m ih =>
      intro i g hi f1 f2 f3 f4
      refine v255_12 ⟨fun z => by omega, fun _ => ⟨by omega, by omega, ?_⟩⟩
      rw [w32_id (by omega) (by omega), Int.toNat_natCast]
      rintro _ rfl
      refine ih (i + 1) _ (by omega) (f1.trans (fr.set (by decide) (by decide) _ _ _)) (fun j hj => ?_) (by rw [pset_cl _ _ (by decide)]; exact f3) (by rw [pset_cl _ _ (by decide)]; exact f4)
      by_cases q : j = i
      · subst q; rw [pset_eq]
      · rw [pset_ne _ _ q]; exact f2 j (by omega)
  rintro _ rfl
  exact H1 818 0 _ rfl ((fr.setF (by decide) _ _).trans (fr.setF (by decide) _ _)) (fun j hj => by omega) (by rw [pset_ne _ _ (by decide), pset_eq]) (by rw [pset_eq])
