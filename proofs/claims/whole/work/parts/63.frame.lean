/-! frames: the cells W and, of the reference object, the fields F may change -/
def fr (W F : List Nat) (G G' : pG) : Prop := (∀ c : Nat, c ∉ W → c ≠ 109 → G' c = G c) ∧ ∀ j : Nat, j ∉ F → G' 109 j = G 109 j
theorem fr.refl (W F : List Nat) (G : pG) : fr W F G G := ⟨fun _ _ _ => rfl, fun _ _ => rfl⟩
theorem fr.trans {W F : List Nat} {G G1 G2 : pG} (h1 : fr W F G G1) (h2 : fr W F G1 G2) : fr W F G G2 := ⟨fun c hc h9 => (h2.1 c hc h9).trans (h1.1 c hc h9), fun j hj => (h2.2 j hj).trans (h1.2 j hj)⟩
theorem fr.mono {W F W' F' : List Nat} {G G' : pG} (h : fr W F G G') (hW : ∀ c ∈ W, c ∈ W') (hF : ∀ c ∈ F, c ∈ F') : fr W' F' G G' := ⟨fun c hc h9 => h.1 c (fun q => hc (hW c q)) h9, fun j hj => h.2 j (fun q => hj (hF j q))⟩
theorem fr.set {W F : List Nat} {c : Nat} (hc : c ∈ W) (h9 : c ≠ 109) (G : pG) (i : Nat) (v : Int) : fr W F G (pset G c i v) := ⟨fun b hb _ => pset_cl G v (fun e => hb (e ▸ hc)), fun j _ => by rw [pset_cl G v (Ne.symm h9)]⟩
theorem fr.setF {W F : List Nat} {i : Nat} (hi : i ∈ F) (G : pG) (v : Int) : fr W F G (pset G 109 i v) := ⟨fun b _ h9 => pset_cl G v h9, fun j hj => pset_ne G v (fun e => hj (e ▸ hi))⟩
theorem fr.cpy {W F : List Nat} {a : Nat} (ha : a ∈ W) (h9 : a ≠ 109) (G : pG) (a0 sp dp n : Nat) : fr W F G (pcpy G a0 sp a dp n) := ⟨fun b hb _ => by unfold pcpy; rw [if_neg (fun e : b = a => hb (e ▸ ha))], fun j _ => by unfold pcpy; rw [if_neg (Ne.symm h9)]⟩
/-- a cell that is outside -/
theorem fr.c {W F : List Nat} {G G' : pG} (h : fr W F G G') (c : Nat) (hc : c ∉ W ∧ c ≠ 109) : G' c = G c := h.1 c hc.1 hc.2
theorem fr.f {W F : List Nat} {G G' : pG} (h : fr W F G G') (j : Nat) (hj : j ∉ F) : G' 109 j = G 109 j := h.2 j hj
/-- what depends on the cells L and the fields K alone -/
def dep (L K : List Nat) (r : pG → Prop) : Prop := ∀ G G' : pG, (∀ c ∈ L, G' c = G c) → (∀ j ∈ K, G' 109 j = G 109 j) → r G → r G'
theorem fr.mv {W F L K : List Nat} {r : pG → Prop} {G G' : pG} (h : fr W F G G') (hr : dep L K r) (hL : ∀ c ∈ L, c ∉ W ∧ c ≠ 109) (hK : ∀ j ∈ K, j ∉ F) (h0 : r G) : r G' := hr G G' (fun c hc => h.1 c (hL c hc).1 (hL c hc).2) (fun j hj => h.2 j (hK j hj)) h0
/-! calls that end somewhere -/
theorem pRuns.ex {MT : Nat → Option pM} {d m : Nat} {as : List pV} {Y : pY} {G : pG} {R : Option pV → pG → Prop} {mi : pM} (hM : MT m = some mi) (hk : Nat.ble (pcat as) mi.2.1 = true) (h : pEnds MT d m Y R 0 (pent as mi.2.1) [] G) : ∃ r G', pRuns MT d m as Y G r G' ∧ R r G' := by
  obtain ⟨f, r, G', h1, h2⟩ := h
  exact ⟨r, G', ⟨mi, f, hM, hk, h1⟩, h2⟩
theorem pX0 {MT : Nat → Option pM} {d m : Nat} {as : List pV} {Y : pY} {G : pG} {Q : pG → Prop} {mi : pM} (hM : MT m = some mi) (hk : Nat.ble (pcat as) mi.2.1 = true) (h : pEnds MT d m Y (fun r g => r = none ∧ Q g) 0 (pent as mi.2.1) [] G) : ∃ G', pRuns MT d m as Y G none G' ∧ Q G' := by
  obtain ⟨r, G', h1, h2, h3⟩ := pRuns.ex hM hk h
  exact ⟨G', h2 ▸ h1, h3⟩
theorem pX1 {MT : Nat → Option pM} {d m : Nat} {as : List pV} {Y : pY} {G : pG} {Q : Int → pG → Prop} {mi : pM} (hM : MT m = some mi) (hk : Nat.ble (pcat as) mi.2.1 = true) (h : pEnds MT d m Y (fun r g => ∃ v : Int, r = some (pI v) ∧ Q v g) 0 (pent as mi.2.1) [] G) : ∃ v G', pRuns MT d m as Y G (some (pI v)) G' ∧ Q v G' := by
  obtain ⟨r, G', h1, v, h2, h3⟩ := pRuns.ex hM hk h
  exact ⟨v, G', h2 ▸ h1, h3⟩
theorem pX2 {MT : Nat → Option pM} {d m : Nat} {as : List pV} {Y : pY} {G : pG} {Q : Int → pG → Prop} {mi : pM} (hM : MT m = some mi) (hk : Nat.ble (pcat as) mi.2.1 = true) (h : pEnds MT d m Y (fun r g => ∃ v : Int, r = some (pL v) ∧ Q v g) 0 (pent as mi.2.1) [] G) : ∃ v G', pRuns MT d m as Y G (some (pL v)) G' ∧ Q v G' := by
  obtain ⟨r, G', h1, v, h2, h3⟩ := pRuns.ex hM hk h
  exact ⟨v, G', h2 ▸ h1, h3⟩
theorem pC0.ox {d m : Nat} {as : List pV} {Y : pY} {G : pG} {Q Q' : pG → Prop} (hd : 1 ≤ d) (h : ∃ G', pRuns pMT (d - 1) m as Y G none G' ∧ Q' G') (hq : ∀ G', Q' G' → Q G') : pC0 pMT d m as Y G Q := by
  obtain ⟨G', h1, h2⟩ := h
  exact pC0.of hd h1 (hq G' h2)
theorem pC1.ox {d m : Nat} {as : List pV} {Y : pY} {G : pG} {Q Q' : Int → pG → Prop} (hd : 1 ≤ d) (h : ∃ v G', pRuns pMT (d - 1) m as Y G (some (pI v)) G' ∧ Q' v G') (hq : ∀ v G', Q' v G' → Q v G') : pC1 pMT d m as Y G Q := by
  obtain ⟨v, G', h1, h2⟩ := h
  exact pC1.of hd h1 (hq v G' h2)
theorem pC2.ox {d m : Nat} {as : List pV} {Y : pY} {G : pG} {Q Q' : Int → pG → Prop} (hd : 1 ≤ d) (h : ∃ v G', pRuns pMT (d - 1) m as Y G (some (pL v)) G' ∧ Q' v G') (hq : ∀ v G', Q' v G' → Q v G') : pC2 pMT d m as Y G Q := by
  obtain ⟨v, G', h1, h2⟩ := h
  exact pC2.of hd h1 (hq v G' h2)
/-- a pair with its frame -/
def pPx (W F : List Nat) (pre : pG → Prop) (post : pG → pG → Prop) (Mc Mr : Nat) (as : List pV) : Prop := ∀ G, pre G → ∃ (r : Int) (G1 G2 : pG), pRuns pMT 59 Mc (pR 0 :: as) Yc G (some (pI r)) G1 ∧ pRuns pMT 59 Mr (pR 109 :: as) Yc G1 (some (pI r)) G2 ∧ fr W F G G1 ∧ fr W F G G2 ∧ post G G2
theorem pPx.pr {W F : List Nat} {pre Rel : pG → Prop} {post : pG → pG → Prop} {Mc Mr : Nat} {as : List pV} (h : pPx W F pre post Mc Mr as) (hW : (498 ∉ W ∧ 498 ≠ 109) ∧ (499 ∉ W ∧ 499 ≠ 109)) (h1 : ∀ G, Rel G → pre G) (h2 : ∀ G G', Rel G → fr W F G G' → post G G' → Rel G') : pPr Rel Mc Mr as := fun G hR => by
  obtain ⟨r, G1, G2, a1, a2, a3, a4, a5⟩ := h G (h1 G hR)
  exact ⟨r, G1, G2, a1, a2, h2 G G2 hR a4 a5, a3.c 498 hW.1, a3.c 499 hW.2, a4.c 498 hW.1, a4.c 499 hW.2⟩
/-! the tape -/
theorem w8_bd (x : Int) : -128 ≤ w8 x ∧ w8 x ≤ 127 := by
  unfold w8
  rw [Int8.toInt_toInt32]
  exact ⟨Int8.le_toInt _, by have := Int8.toInt_lt (Int32.ofInt x).toInt8; omega⟩
def rTape (G : pG) : Prop := G 1 2 = G 109 1 ∧ 0 ≤ G 109 1 ∧ G 109 1 ≤ 800 ∧ ∀ i : Nat, i < 800 → G 2 i = G 110 i ∧ -128 ≤ G 110 i ∧ G 110 i ≤ 127
/-- n bytes of x put from place L on -/
def vPut (b : Nat → Int) (L : Nat) (x : Int) : Nat → Nat → Int
  | 0, j => b j
  | n + 1, j => if j = L + n then w8 (w8 (pshr x (24 - 8 * (n : Int)))) else vPut b L x n j
theorem vPut_c {b b' : Nat → Int} {j : Nat} (h : b j = b' j ∧ -128 ≤ b' j ∧ b' j ≤ 127) (L : Nat) (x : Int) : ∀ n : Nat, vPut b L x n j = vPut b' L x n j ∧ -128 ≤ vPut b' L x n j ∧ vPut b' L x n j ≤ 127
  | 0 => h
  | n + 1 => by
    unfold vPut
    split
    · exact ⟨rfl, w8_bd _⟩
    · exact vPut_c h L x n
theorem s187 {d : Nat} {G : pG} {x : Int} {L : Nat} (h1 : G 109 1 = (L : Int)) (h2 : L + 4 ≤ 800) : ∃ G', pRuns pMT d 187 [pR 109, pI x] Yc G none G' ∧ fr [110] [1] G G' ∧ G' 109 1 = ((L + 4 : Nat) : Int) ∧ G' 110 = vPut (G 110) L x 4 := by
  refine pX0 rfl rfl (v187_0 ?_)
  suffices H : ∀ (n i : Nat) (g : pG), i + n = 4 → fr [110] [1] G g → g 109 1 = ((L + i : Nat) : Int) → g 110 = vPut (G 110) L x i → pEnds pMT d 187 Yc (fun r g => r = none ∧ fr [110] [1] G g ∧ g 109 1 = ((L + 4 : Nat) : Int) ∧ g 110 = vPut (G 110) L x 4) 3 [pR 109, pI x, pI (24 - 8 * (i : Int))] [] g by
    rintro _ rfl
    exact H 4 0 G rfl (fr.refl _ _ _) h1 rfl
  intro n
  induction n with
  | zero =>
    intro i g hi f1 f2 f3
    obtain rfl : i = 4 := by omega
    exact v187_3 ⟨fun _ => ⟨rfl, f1, f2, f3⟩, fun h => by omega⟩
  | succ n ih =>
    intro i g hi f1 f2 f3
    refine v187_3 ⟨fun h => by omega, fun h => ⟨by omega, by omega, ?_⟩⟩
    rw [w32_id (by omega) (by omega), pset_cl g (a := 110) (b := 109) _ (by decide), f2, w32_id (by omega) (by omega), Int.toNat_natCast]
    rintro _ rfl
    have := ih (i + 1) (pset (pset g 110 (L + i) (w8 (w8 (pshr x (24 - 8 * (i : Int)))))) 109 1 (((L + i : Nat) : Int) + 1)) (by omega) (f1.trans ((fr.set (by decide) (by decide) _ _ _).trans (fr.setF (by decide) _ _))) (by rw [pset_eq]; omega) (by
      rw [pset_cl _ _ (by decide)]
      funext j
      unfold vPut
      by_cases e : j = L + i
      · rw [if_pos e, e, pset_eq]
      · rw [if_neg e, pset_ne _ _ e, f3])
    rwa [show (24 : Int) - 8 * ((i + 1 : Nat) : Int) = 24 - 8 * (i : Int) + -8 by omega] at this
theorem sh_e {x : Int} {s : Int} (hs : s = 0 ∨ s = 8 ∨ s = 16 ∨ s = 24) : w8 (push' x s) = w8 (pshr x s) := by
  have key : ∀ (n : Nat) (y : BitVec 32), n ≤ 24 → (BitVec.setWidth 8 (y >>> n)) = BitVec.setWidth 8 (BitVec.sshiftRight y n) := by
    intro n y hn
    apply BitVec.eq_of_getLsbD_eq
    intro i hi
    rw [BitVec.getLsbD_setWidth, BitVec.getLsbD_setWidth, BitVec.getLsbD_ushiftRight, BitVec.getLsbD_sshiftRight]
    have h1 : ¬ (32 ≤ i) := by omega
    have h2 : n + i < 32 := by omega
    simp [h1, h2]
  have k2 : (Int32.ofInt (push' x s)).toInt8 = (Int32.ofInt (pshr x s)).toInt8 := by
    unfold push' pshr
    rw [Int32.ofInt_toInt, Int32.ofInt_toInt]
    apply Int8.toBitVec_inj.mp
    have red : ∀ (a : Int) (n : Nat), n ≤ 24 → ((Int32.ofInt a).toBitVec &&& 31#32) % 32#32 = BitVec.ofNat 32 n → ((Int32.ofInt a).toBitVec &&& 31#32).smod 32#32 = BitVec.ofNat 32 n → ((Int32.ofInt x).toUInt32 >>> ((Int32.ofInt a).toUInt32 &&& Int32.toUInt32 31)).toInt32.toInt8.toBitVec = (Int32.ofInt x >>> (Int32.ofInt a &&& 31)).toInt8.toBitVec := by
      intro a n hn e1 e2
      rw [Int32.toBitVec_toInt8, Int32.toBitVec_toInt8, UInt32.toBitVec_toInt32, UInt32.toBitVec_shiftRight, Int32.toBitVec_shiftRight, UInt32.toBitVec_and, Int32.toBitVec_and, BitVec.signExtend_eq_setWidth_of_le _ (by omega), BitVec.signExtend_eq_setWidth_of_le _ (by omega)]
      show BitVec.setWidth 8 ((Int32.ofInt x).toBitVec >>> (((Int32.ofInt a).toBitVec &&& 31#32) % 32#32)) = BitVec.setWidth 8 (BitVec.sshiftRight' (Int32.ofInt x).toBitVec (((Int32.ofInt a).toBitVec &&& 31#32).smod 32#32))
      rw [e1, e2]
      have := key n (Int32.ofInt x).toBitVec hn
      have hn2 : (BitVec.ofNat 32 n).toNat = n := by rw [BitVec.toNat_ofNat]; omega
      rw [BitVec.ushiftRight_eq', BitVec.sshiftRight', hn2]
      exact this
    rcases hs with rfl | rfl | rfl | rfl
    · exact red 0 0 (by omega) (by decide) (by decide)
    · exact red 8 8 (by omega) (by decide) (by decide)
    · exact red 16 16 (by omega) (by decide) (by decide)
    · exact red 24 24 (by omega) (by decide) (by decide)
  unfold w8
  rw [k2]
theorem s98 {d : Nat} {G : pG} {x : Int} {L : Nat} (h1 : G 1 2 = (L : Int)) (h2 : L + 4 ≤ 800) : ∃ G', pRuns pMT d 98 [pR 1, pI x] Yc G none G' ∧ fr [1, 2] [] G G' ∧ G' 1 2 = ((L + 4 : Nat) : Int) ∧ G' 2 = vPut (G 2) L x 4 := by
  refine pX0 rfl rfl (v98_0 ?_)
  suffices H : ∀ (n i : Nat) (g : pG), i + n = 4 → fr [1, 2] [] G g → g 1 2 = ((L + i : Nat) : Int) → g 2 = vPut (G 2) L x i → pEnds pMT d 98 Yc (fun r g => r = none ∧ fr [1, 2] [] G g ∧ g 1 2 = ((L + 4 : Nat) : Int) ∧ g 2 = vPut (G 2) L x 4) 3 [pR 1, pI x, pI (24 - 8 * (i : Int))] [] g by
    rintro _ rfl
    exact H 4 0 G rfl (fr.refl _ _ _) h1 rfl
  intro n
  induction n with
  | zero =>
    intro i g hi f1 f2 f3
    obtain rfl : i = 4 := by omega
    exact v98_3 ⟨fun _ => ⟨rfl, f1, f2, f3⟩, fun h => by omega⟩
  | succ n ih =>
    intro i g hi f1 f2 f3
    refine v98_3 ⟨fun h => by omega, fun h => ⟨fun h3 => by omega, fun h3 => ⟨by omega, by omega, ?_⟩⟩⟩
    rw [w32_id (by omega) (by omega), pset_cl g (a := 2) (b := 1) _ (by decide), f2, w32_id (by omega) (by omega), Int.toNat_natCast, sh_e (by omega)]
    rintro _ rfl
    have := ih (i + 1) (pset (pset g 2 (L + i) (w8 (w8 (pshr x (24 - 8 * (i : Int)))))) 1 2 (((L + i : Nat) : Int) + 1)) (by omega) (f1.trans ((fr.set (by decide) (by decide) _ _ _).trans (fr.set (by decide) (by decide) _ _ _))) (by rw [pset_eq]; omega) (by
      rw [pset_cl _ _ (by decide)]
      funext j
      unfold vPut
      by_cases e : j = L + i
      · rw [if_pos e, e, pset_eq]
      · rw [if_neg e, pset_ne _ _ e, f3])
    rwa [show (24 : Int) - 8 * ((i + 1 : Nat) : Int) = 24 - 8 * (i : Int) + -8 by omega] at this
def vFeed (b : Nat → Int) (L : Nat) (a1 a2 a3 a4 a5 : Int) : Nat → Int := vPut (vPut (vPut (vPut (vPut b L a1 4) (L + 4) a2 4) (L + 8) a3 4) (L + 12) a4 4) (L + 16) a5 4
theorem pr_feed (a1 a2 a3 a4 a5 : Int) : pPx [1, 2, 110] [1] rTape (fun _ => rTape) 128 186 [pI a1, pI a2, pI a3, pI a4, pI a5] := by
  rintro G ⟨t1, t2, t3, t4⟩
  obtain ⟨L, hL⟩ : ∃ L : Nat, G 109 1 = (L : Int) := ⟨(G 109 1).toNat, by omega⟩
  rw [hL] at t1
  by_cases hl : L + 20 ≤ 800
  · have r1 : ∃ v G', pRuns pMT 59 128 [pR 0, pI a1, pI a2, pI a3, pI a4, pI a5] Yc G (some (pI v)) G' ∧ v = ((L + 20 : Nat) : Int) ∧ fr [1, 2] [] G G' ∧ G' 1 2 = ((L + 20 : Nat) : Int) ∧ G' 2 = vFeed (G 2) L a1 a2 a3 a4 a5 := by
      refine pX1 rfl rfl (v128_0 ?_)
      rw [t1, w32_id (by omega) (by omega)]
      refine ⟨fun _ => ?_, fun h => by omega⟩
      refine pC0.ox (by omega) (s98 (L := L) t1 (by omega)) fun A hA => ?_
      refine pC0.ox (by omega) (s98 (L := L + 4) hA.2.1 (by omega)) fun B hB => ?_
      refine pC0.ox (by omega) (s98 (L := L + 8) hB.2.1 (by omega)) fun C hC => ?_
      refine pC0.ox (by omega) (s98 (L := L + 12) hC.2.1 (by omega)) fun D hD => ?_
      refine pC0.ox (by omega) (s98 (L := L + 16) hD.2.1 (by omega)) fun E hE => ?_
      exact ⟨_, rfl, hE.2.1, hA.1.trans (hB.1.trans (hC.1.trans (hD.1.trans hE.1))), hE.2.1, by rw [hE.2.2, hD.2.2, hC.2.2, hB.2.2, hA.2.2]; rfl⟩
    obtain ⟨v, G1, h1, rfl, f1, g1, g2⟩ := r1
    have e1 : G1 109 1 = (L : Int) := by rw [f1.f 1 (by decide), hL]
    have r2 : ∃ v G', pRuns pMT 59 186 [pR 109, pI a1, pI a2, pI a3, pI a4, pI a5] Yc G1 (some (pI v)) G' ∧ v = ((L + 20 : Nat) : Int) ∧ fr [110] [1] G1 G' ∧ G' 109 1 = ((L + 20 : Nat) : Int) ∧ G' 110 = vFeed (G1 110) L a1 a2 a3 a4 a5 := by
      refine pX1 rfl rfl (v186_0 ?_)
      rw [e1, w32_id (by omega) (by omega)]
      refine ⟨fun _ => ?_, fun h => by omega⟩
      refine pC0.ox (by omega) (s187 (L := L) e1 (by omega)) fun A hA => ?_
      refine pC0.ox (by omega) (s187 (L := L + 4) hA.2.1 (by omega)) fun B hB => ?_
      refine pC0.ox (by omega) (s187 (L := L + 8) hB.2.1 (by omega)) fun C hC => ?_
      refine pC0.ox (by omega) (s187 (L := L + 12) hC.2.1 (by omega)) fun D hD => ?_
      refine pC0.ox (by omega) (s187 (L := L + 16) hD.2.1 (by omega)) fun E hE => ?_
      exact ⟨_, rfl, hE.2.1, hA.1.trans (hB.1.trans (hC.1.trans (hD.1.trans hE.1))), hE.2.1, by rw [hE.2.2, hD.2.2, hC.2.2, hB.2.2, hA.2.2]; rfl⟩
    obtain ⟨v, G2, h2, rfl, f2, k1, k2⟩ := r2
    refine ⟨_, G1, G2, h1, h2, f1.mono (by decide) (by decide), (f1.mono (by decide) (by decide)).trans (f2.mono (by decide) (by decide)), ?_⟩
    refine ⟨by rw [f2.c 1 (by decide), g1, k1], by omega, by omega, fun i hi => ?_⟩
    rw [f2.c 2 (by decide), g2, k2, f1.c 110 (by decide)]
    exact vPut_c (vPut_c (vPut_c (vPut_c (vPut_c (t4 i hi) _ _ 4) _ _ 4) _ _ 4) _ _ 4) _ _ 4
  · refine ⟨-3, G, G, pRuns.of rfl rfl (v128_0 ?_), pRuns.of rfl rfl (v186_0 ?_), fr.refl _ _ _, fr.refl _ _ _, ⟨by rw [t1, hL], t2, t3, t4⟩⟩
    · rw [t1, w32_id (by omega) (by omega)]
      exact ⟨fun h => by omega, fun _ => rI rfl rfl⟩
    · rw [hL, w32_id (by omega) (by omega)]
      exact ⟨fun h => by omega, fun _ => rI rfl rfl⟩
theorem pr_end (x : Int) : pPx [1] [1] rTape (fun _ => rTape) 129 188 [pI x] := by
  rintro G ⟨t1, t2, t3, t4⟩
  by_cases h : 0 ≤ x ∧ x ≤ G 109 1
  · have f1 : fr [1] [] G (pset G 1 2 x) := fr.set (by decide) (by decide) _ _ _
    have f2 : fr [] [1] (pset G 1 2 x) (pset (pset G 1 2 x) 109 1 x) := fr.setF (by decide) _ _
    refine ⟨x, pset G 1 2 x, pset (pset G 1 2 x) 109 1 x, pRuns.of rfl rfl (v129_0 ?_), pRuns.of rfl rfl (v188_0 ?_), f1.mono (by decide) (by decide), (f1.mono (by decide) (by decide)).trans (f2.mono (by decide) (by decide)), ?_⟩
    · rw [t1]
      exact pC1.of (by omega) s118 ⟨fun _ => rI rfl rfl, fun q => absurd h (b2i_0.mp q)⟩
    · rw [f1.f 1 (by decide)]
      exact pC1.of (by omega) s166 ⟨fun _ => rI rfl rfl, fun q => absurd h (b2i_0.mp q)⟩
    · refine ⟨by rw [pset_cl _ _ (by decide), pset_eq, pset_eq], by rw [pset_eq]; omega, by rw [pset_eq]; omega, fun i hi => ?_⟩
      rw [f2.c 2 (by decide), f1.c 2 (by decide), f2.c 110 (by decide), f1.c 110 (by decide)]
      exact t4 i hi
  · refine ⟨-1, G, G, pRuns.of rfl rfl (v129_0 ?_), pRuns.of rfl rfl (v188_0 ?_), fr.refl _ _ _, fr.refl _ _ _, ⟨t1, t2, t3, t4⟩⟩
    · rw [t1]
      exact pC1.of (by omega) s118 ⟨fun q => absurd (b2i_n0.mp q) h, fun q => rI rfl rfl⟩
    · exact pC1.of (by omega) s166 ⟨fun q => absurd (b2i_n0.mp q) h, fun q => rI rfl rfl⟩
