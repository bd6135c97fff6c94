/-- the turns of a step -/
def vTn (G : pG) (k : Nat) : Int := G 116 k * G 112 (G 115 k).toNat + G 117 k
theorem vTn_bd {G : pG} (hP : rPart G) {k : Nat} (hk : (k : Int) < G 109 11) : 1 ≤ G 116 k * G 112 (G 115 k).toNat ∧ G 116 k * G 112 (G 115 k).toNat ≤ 20000 ∧ 1 ≤ vTn G k ∧ vTn G k ≤ 20099 := by
  obtain ⟨-, -, -, -, h5, h6, h7, h8, h9, h10, -⟩ := hP.step k hk
  obtain ⟨-, -, -, q4, q5, -⟩ := hP.tool (G 115 k).toNat (by omega)
  have m1 : 1 * 1 ≤ G 116 k * G 112 (G 115 k).toNat := Int.mul_le_mul h7 q4 (by omega) (by omega)
  have m2 : G 116 k * G 112 (G 115 k).toNat ≤ 400 * 50 := Int.mul_le_mul h8 q5 (by omega) (by omega)
  unfold vTn
  omega
theorem s192 {d : Nat} {G : pG} {k : Nat} (hP : rPart G) (hk : (k : Int) < G 109 11) : pRuns pMT d 192 [pR 109, pI (k : Int)] Yc G (some (pI (vTn G k))) G := by
  have := hP.n1
  have := hP.t1
  have hb := vTn_bd hP hk
  obtain ⟨-, -, -, -, h5, h6, -⟩ := hP.step k hk
  have e : (Int.toNat (k : Int)) = k := Int.toNat_natCast k
  refine pRuns.of rfl rfl (v192_0 ?_)
  rw [e]
  refine ⟨by omega, by omega, by omega, by omega, by omega, by omega, by omega, by omega, ?_⟩
  unfold vTn at hb ⊢
  rw [w32_id (x := G 116 k * G 112 (G 115 k).toNat) (by omega) (by omega), w32_id (by omega) (by omega)]
  exact rI rfl rfl
theorem s62 {d : Nat} {G : pG} {k : Nat} (hP : rPart G) (hk : (k : Int) < G 109 11) : pRuns pMT d 62 [pR 3, pI (k : Int)] Yc G (some (pI (G 116 k * G 112 (G 115 k).toNat))) G := by
  have := hP.n1
  have := hP.t1
  have hb := vTn_bd hP hk
  obtain ⟨g1, g2, -, -, h5, h6, -⟩ := hP.step k hk
  obtain ⟨f1, -⟩ := hP.tool (G 115 k).toNat (by omega)
  have e : (Int.toNat (k : Int)) = k := Int.toNat_natCast k
  refine pRuns.of rfl rfl (v62_0 ?_)
  rw [e, g1, g2, f1]
  refine ⟨by omega, by omega, by omega, by omega, by omega, by omega, ?_⟩
  rw [w32_id (by omega) (by omega)]
  exact rI rfl rfl
theorem s63 {d : Nat} {G : pG} {k : Nat} (hP : rPart G) (hk : (k : Int) < G 109 11) (hd : 1 ≤ d) : pRuns pMT d 63 [pR 3, pI (k : Int)] Yc G (some (pI (vTn G k))) G := by
  have := hP.n1
  have hb := vTn_bd hP hk
  obtain ⟨-, -, g3, -⟩ := hP.step k hk
  have e : (Int.toNat (k : Int)) = k := Int.toNat_natCast k
  refine pRuns.of rfl rfl (v63_0 (pC1.of hd (s62 hP hk) ?_))
  rw [e, g3]
  refine ⟨by omega, by omega, ?_⟩
  unfold vTn at hb ⊢
  rw [w32_id (by omega) (by omega)]
  exact rI rfl rfl
