theorem s118 {d : Nat} {G : pG} {x y z : Int} : pRuns pMT d 118 [pL x, pL y, pL z] Yc G (some (pI (b2i (y ≤ x ∧ x ≤ z)))) (G) := by
  refine pRuns.of rfl rfl (v118_0 ?_)
  simp only [cmp_lt, cmp_ge, cmp_gt, cmp_le, cmp_eq]
  (repeat' first | apply And.intro | intro _) <;> first | rfl | omega | trivial | exact Or.inl trivial | exact Or.inr trivial | exact q0 (by omega) | exact q1 (by omega) | exact qi (by omega)

theorem s166 {d : Nat} {G : pG} {x y z : Int} : pRuns pMT d 166 [pL x, pL y, pL z] Yc G (some (pI (b2i (y ≤ x ∧ x ≤ z)))) (G) := by
  refine pRuns.of rfl rfl (v166_0 ?_)
  simp only [cmp_lt, cmp_ge, cmp_gt, cmp_le, cmp_eq]
  (repeat' first | apply And.intro | intro _) <;> first | rfl | omega | trivial | exact Or.inl trivial | exact Or.inr trivial | exact q0 (by omega) | exact q1 (by omega) | exact qi (by omega)

theorem s104 {d : Nat} {G : pG} {x : Int} : pRuns pMT d 104 [pI x] Yc G (some (pI (b2i (x = 32 ∨ x = 10)))) (G) := by
  refine pRuns.of rfl rfl (v104_0 ?_)
  (repeat' first | apply And.intro | intro _) <;> first | rfl | omega | trivial | exact Or.inl trivial | exact Or.inr trivial | exact q0 (by omega) | exact q1 (by omega) | exact qi (by omega)

theorem s105 {d : Nat} {G : pG} {x : Int} : pRuns pMT d 105 [pI x] Yc G (some (pI (b2i (97 ≤ x ∧ x ≤ 122)))) (G) := by
  refine pRuns.of rfl rfl (v105_0 ?_)
  (repeat' first | apply And.intro | intro _) <;> first | rfl | omega | trivial | exact Or.inl trivial | exact Or.inr trivial | exact q0 (by omega) | exact q1 (by omega) | exact qi (by omega)

theorem s106 {d : Nat} {G : pG} {x : Int} : pRuns pMT d 106 [pI x] Yc G (some (pI (b2i (48 ≤ x ∧ x ≤ 57)))) (G) := by
  refine pRuns.of rfl rfl (v106_0 ?_)
  (repeat' first | apply And.intro | intro _) <;> first | rfl | omega | trivial | exact Or.inl trivial | exact Or.inr trivial | exact q0 (by omega) | exact q1 (by omega) | exact qi (by omega)

theorem s169 {d : Nat} {G : pG} {x : Int} : pRuns pMT d 169 [pI x] Yc G (some (pI (b2i (97 ≤ x ∧ x ≤ 122)))) (G) := by
  refine pRuns.of rfl rfl (v169_0 ?_)
  (repeat' first | apply And.intro | intro _) <;> first | rfl | omega | trivial | exact Or.inl trivial | exact Or.inr trivial | exact q0 (by omega) | exact q1 (by omega) | exact qi (by omega)

theorem s170 {d : Nat} {G : pG} {x : Int} : pRuns pMT d 170 [pI x] Yc G (some (pI (b2i (48 ≤ x ∧ x ≤ 57)))) (G) := by
  refine pRuns.of rfl rfl (v170_0 ?_)
  (repeat' first | apply And.intro | intro _) <;> first | rfl | omega | trivial | exact Or.inl trivial | exact Or.inr trivial | exact q0 (by omega) | exact q1 (by omega) | exact qi (by omega)

theorem s99 {d : Nat} {G : pG} {i : Int} : pRuns pMT d 99 [pR 1, pI i] Yc G (some (pI (if 0 ≤ i ∧ i < 800 ∧ i < G 1 2 then pand (G 2 i.toNat) 255 else 0))) (G) := by
  refine pRuns.of rfl rfl (v99_0 ?_)
  (repeat' first | apply And.intro | intro _) <;> first | rfl | omega | exact qi (if_neg (by omega)).symm | exact qi (if_pos (by omega)).symm

theorem s119 {d : Nat} {G : pG} {a k : Nat} (ha : a < 2147483648) (hk : k < 31) : pRuns pMT d 119 [pI (a : Int), pI (k : Int)] Yc G (some (pI (b2i (a.testBit k = true)))) G := by
  refine pRuns.of rfl rfl (v119_0 ?_)
  rw [bit_nn ha hk]
  refine ⟨fun h => ⟨Or.inl rfl, rI (by rw [b2i_f (b2i_0.mp h)]) rfl⟩, fun h => ⟨Or.inr rfl, rI (by rw [b2i_t (Decidable.byContradiction (fun q => h (b2i_0.mpr q)))]) rfl⟩⟩

theorem s168 {d : Nat} {G : pG} {i : Int} (h0 : 0 ≤ i) (h1 : G 109 2 ≤ 800) : pRuns pMT d 168 [pR 109, pI i] Yc G (some (pI (if i < G 109 2 then pand (G 110 i.toNat) 255 else 0))) (G) := by
  refine pRuns.of rfl rfl (v168_0 ?_)
  (repeat' first | apply And.intro | intro _) <;> first | rfl | omega | exact qi (if_neg (by omega)).symm | exact qi (if_pos (by omega)).symm

theorem s122 {d : Nat} {G : pG} {x : Int} (hd : 1 ≤ d) : pRuns pMT d 122 [pI x] Yc G (some (pI (b2i (0 ≤ x ∧ x ≤ 99)))) G := by
  refine pRuns.of rfl rfl (v122_0 ?_)
  exact pC1.of hd s118 ⟨b2i_01, rfl, rfl⟩

theorem s123 {d : Nat} {G : pG} {x : Int} (hd : 1 ≤ d) : pRuns pMT d 123 [pI x] Yc G (some (pI (b2i (0 ≤ x ∧ x ≤ 3)))) G := by
  refine pRuns.of rfl rfl (v123_0 ?_)
  exact pC1.of hd s118 ⟨b2i_01, rfl, rfl⟩

theorem s124 {d : Nat} {G : pG} {x : Int} (hd : 1 ≤ d) : pRuns pMT d 124 [pI x] Yc G (some (pI (b2i (0 ≤ x ∧ x ≤ 999)))) G := by
  refine pRuns.of rfl rfl (v124_0 ?_)
  exact pC1.of hd s118 ⟨b2i_01, rfl, rfl⟩

theorem s125 {d : Nat} {G : pG} {x : Int} (hd : 1 ≤ d) : pRuns pMT d 125 [pI x] Yc G (some (pI (b2i (0 ≤ x ∧ x ≤ 39)))) G := by
  refine pRuns.of rfl rfl (v125_0 ?_)
  exact pC1.of hd s118 ⟨b2i_01, rfl, rfl⟩

theorem s126 {d : Nat} {G : pG} {x : Int} (hd : 1 ≤ d) : pRuns pMT d 126 [pI x] Yc G (some (pI (b2i (-99 ≤ x ∧ x ≤ 99)))) G := by
  refine pRuns.of rfl rfl (v126_0 ?_)
  exact pC1.of hd s118 ⟨b2i_01, rfl, rfl⟩

theorem s127 {d : Nat} {G : pG} {x : Int} (hd : 1 ≤ d) : pRuns pMT d 127 [pI x] Yc G (some (pI (b2i (0 ≤ x ∧ x ≤ 99)))) G := by
  refine pRuns.of rfl rfl (v127_0 ?_)
  exact pC1.of hd s118 ⟨b2i_01, rfl, rfl⟩

theorem s210 {d : Nat} {G : pG} {x : Int} (hd : 1 ≤ d) : pRuns pMT d 210 [pI x] Yc G (some (pI (b2i (0 ≤ x ∧ x ≤ 99)))) G := by
  refine pRuns.of rfl rfl (v210_0 ?_)
  exact pC1.of hd s166 ⟨b2i_01, rfl, rfl⟩

theorem s217 {d : Nat} {G : pG} {x : Int} (hd : 1 ≤ d) : pRuns pMT d 217 [pI x] Yc G (some (pI (b2i (0 ≤ x ∧ x ≤ 3)))) G := by
  refine pRuns.of rfl rfl (v217_0 ?_)
  exact pC1.of hd s166 ⟨b2i_01, rfl, rfl⟩

theorem s256 {d : Nat} {G : pG} {x : Int} (hd : 1 ≤ d) : pRuns pMT d 256 [pI x] Yc G (some (pI (b2i (0 ≤ x ∧ x ≤ 999)))) G := by
  refine pRuns.of rfl rfl (v256_0 ?_)
  exact pC1.of hd s166 ⟨b2i_01, rfl, rfl⟩

theorem s239 {d : Nat} {G : pG} {x : Int} (hd : 1 ≤ d) : pRuns pMT d 239 [pI x] Yc G (some (pI (b2i (0 ≤ x ∧ x ≤ 39)))) G := by
  refine pRuns.of rfl rfl (v239_0 ?_)
  exact pC1.of hd s166 ⟨b2i_01, rfl, rfl⟩

theorem s240 {d : Nat} {G : pG} {x : Int} (hd : 1 ≤ d) : pRuns pMT d 240 [pI x] Yc G (some (pI (b2i (-99 ≤ x ∧ x ≤ 99)))) G := by
  refine pRuns.of rfl rfl (v240_0 ?_)
  exact pC1.of hd s166 ⟨b2i_01, rfl, rfl⟩

theorem s263 {d : Nat} {G : pG} {x : Int} (hd : 1 ≤ d) : pRuns pMT d 263 [pI x] Yc G (some (pI (b2i (0 ≤ x ∧ x ≤ 99)))) G := by
  refine pRuns.of rfl rfl (v263_0 ?_)
  exact pC1.of hd s166 ⟨b2i_01, rfl, rfl⟩

theorem s233 {d : Nat} {G : pG} {x : Int} (hd : 1 ≤ d) : pRuns pMT d 233 [pI x] Yc G (some (pI (b2i (1 ≤ x ∧ x ≤ 9999)))) G := by
  refine pRuns.of rfl rfl (v233_0 ?_)
  exact pC1.of hd s166 ⟨b2i_01, rfl, rfl⟩

