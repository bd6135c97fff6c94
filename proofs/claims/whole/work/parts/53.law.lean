/-- an int -/
def inr (x : Int) : Prop := -2147483648 ≤ x ∧ x ≤ 2147483647
/-- a pair of calls: they answer alike, and the relation stays -/
def pPr (Rel : pG → Prop) (Mc Mr : Nat) (as : List pV) : Prop := ∀ G, Rel G → ∃ (r : Int) (G1 G2 : pG), pRuns pMT 59 Mc (pR 0 :: as) Yc G (some (pI r)) G1 ∧ pRuns pMT 59 Mr (pR 109 :: as) Yc G1 (some (pI r)) G2 ∧ Rel G2 ∧ G1 498 = G 498 ∧ G1 499 = G 499 ∧ G2 498 = G 498 ∧ G2 499 = G 499
def pPrL (Rel : pG → Prop) (Mc Mr : Nat) (as : List pV) : Prop := ∀ G, Rel G → ∃ (r : Int) (G1 G2 : pG), pRuns pMT 59 Mc (pR 0 :: as) Yc G (some (pL r)) G1 ∧ pRuns pMT 59 Mr (pR 109 :: as) Yc G1 (some (pL r)) G2 ∧ Rel G2 ∧ G1 498 = G 498 ∧ G1 499 = G 499 ∧ G2 498 = G 498 ∧ G2 499 = G 499
theorem lc_192 {Rel : pG → Prop} {R : Option pV → pG → Prop} {G : pG} {x3 : Int} {L : Nat} (hR : Rel G) (hL : G 498 0 = (L : Int)) (hin : ∀ j : Nat, j < L → inr (G 499 j)) (h0 : 0 ≤ x3) (h6 : x3 + 6 ≤ (L : Int)) (hl : L ≤ 3072) (kk : ∀ G2, Rel G2 → G2 498 = G 498 → G2 499 = G 499 → pEnds pMT 60 268 Yc R 1288 [pR 499, pR 0, pR 109, pI x3] [] G2) (h192 : ∀ a1 a2 a3 a4 a5 : Int, inr a1 → inr a2 → inr a3 → inr a4 → inr a5 → pPr Rel 128 186 [pI a1, pI a2, pI a3, pI a4, pI a5]) : pEnds pMT 60 268 Yc R 192 [pR 499, pR 0, pR 109, pI x3] [] G := by
  have e1 : w32 (x3 + (1 : Int)) = x3 + 1 := w32_id (by omega) (by omega)
  have e2 : w32 (x3 + (2 : Int)) = x3 + 2 := w32_id (by omega) (by omega)
  have e3 : w32 (x3 + (3 : Int)) = x3 + 3 := w32_id (by omega) (by omega)
  have e4 : w32 (x3 + (4 : Int)) = x3 + 4 := w32_id (by omega) (by omega)
  have e5 : w32 (x3 + (5 : Int)) = x3 + 5 := w32_id (by omega) (by omega)
  refine v268_192 ?_
  rw [e1, e2, e3, e4, e5]
  obtain ⟨r, G1, G2, h1, h2, h3, g1, g2, g3, g4⟩ := h192 (G 499 (Int.toNat (x3 + 1))) (G 499 (Int.toNat (x3 + 2))) (G 499 (Int.toNat (x3 + 3))) (G 499 (Int.toNat (x3 + 4))) (G 499 (Int.toNat (x3 + 5))) (hin _ (by omega)) (hin _ (by omega)) (hin _ (by omega)) (hin _ (by omega)) (hin _ (by omega)) G hR
  have q0 := congrFun g1 0
  exact ⟨by omega, by omega, by omega, by omega, by omega, by omega, by omega, by omega, by omega, by omega, pC1.of (by omega) h1 ⟨by omega, by omega, by omega, by omega, by omega, by omega, by omega, by omega, by omega, by omega, pC1.of (by omega) (by rw [g2]; exact h2) ⟨fun _ => kk G2 h3 g3 g4, fun h => absurd rfl h⟩⟩⟩

theorem lc_255 {Rel : pG → Prop} {R : Option pV → pG → Prop} {G : pG} {x3 : Int} {L : Nat} (hR : Rel G) (hL : G 498 0 = (L : Int)) (hin : ∀ j : Nat, j < L → inr (G 499 j)) (h0 : 0 ≤ x3) (h6 : x3 + 6 ≤ (L : Int)) (hl : L ≤ 3072) (kk : ∀ G2, Rel G2 → G2 498 = G 498 → G2 499 = G 499 → pEnds pMT 60 268 Yc R 1288 [pR 499, pR 0, pR 109, pI x3] [] G2) (h255 : ∀ a1 : Int, inr a1 → pPr Rel 129 188 [pI a1]) : pEnds pMT 60 268 Yc R 255 [pR 499, pR 0, pR 109, pI x3] [] G := by
  have e1 : w32 (x3 + (1 : Int)) = x3 + 1 := w32_id (by omega) (by omega)
  refine v268_255 ?_
  rw [e1]
  obtain ⟨r, G1, G2, h1, h2, h3, g1, g2, g3, g4⟩ := h255 (G 499 (Int.toNat (x3 + 1))) (hin _ (by omega)) G hR
  have q0 := congrFun g1 0
  exact ⟨by omega, by omega, pC1.of (by omega) h1 ⟨by omega, by omega, pC1.of (by omega) (by rw [g2]; exact h2) ⟨fun _ => kk G2 h3 g3 g4, fun h => absurd rfl h⟩⟩⟩

theorem lc_278 {Rel : pG → Prop} {R : Option pV → pG → Prop} {G : pG} {x3 : Int} {L : Nat} (hR : Rel G) (hL : G 498 0 = (L : Int)) (hin : ∀ j : Nat, j < L → inr (G 499 j)) (h0 : 0 ≤ x3) (h6 : x3 + 6 ≤ (L : Int)) (hl : L ≤ 3072) (kk : ∀ G2, Rel G2 → G2 498 = G 498 → G2 499 = G 499 → pEnds pMT 60 268 Yc R 1288 [pR 499, pR 0, pR 109, pI x3] [] G2) (h278 : pPr Rel 130 189 []) : pEnds pMT 60 268 Yc R 278 [pR 499, pR 0, pR 109, pI x3] [] G := by
  refine v268_278 ?_
  obtain ⟨r, G1, G2, h1, h2, h3, g1, g2, g3, g4⟩ := h278   G hR
  exact pC1.of (by omega) h1 (pC1.of (by omega) h2 ⟨fun _ => kk G2 h3 g3 g4, fun h => absurd rfl h⟩)

theorem lc_291 {Rel : pG → Prop} {R : Option pV → pG → Prop} {G : pG} {x3 : Int} {L : Nat} (hR : Rel G) (hL : G 498 0 = (L : Int)) (hin : ∀ j : Nat, j < L → inr (G 499 j)) (h0 : 0 ≤ x3) (h6 : x3 + 6 ≤ (L : Int)) (hl : L ≤ 3072) (kk : ∀ G2, Rel G2 → G2 498 = G 498 → G2 499 = G 499 → pEnds pMT 60 268 Yc R 1288 [pR 499, pR 0, pR 109, pI x3] [] G2) (h291 : ∀ a1 : Int, inr a1 → pPr Rel 131 190 [pI a1]) : pEnds pMT 60 268 Yc R 291 [pR 499, pR 0, pR 109, pI x3] [] G := by
  have e1 : w32 (x3 + (1 : Int)) = x3 + 1 := w32_id (by omega) (by omega)
  refine v268_291 ?_
  rw [e1]
  obtain ⟨r, G1, G2, h1, h2, h3, g1, g2, g3, g4⟩ := h291 (G 499 (Int.toNat (x3 + 1))) (hin _ (by omega)) G hR
  have q0 := congrFun g1 0
  exact ⟨by omega, by omega, pC1.of (by omega) h1 ⟨by omega, by omega, pC1.of (by omega) (by rw [g2]; exact h2) ⟨fun _ => kk G2 h3 g3 g4, fun h => absurd rfl h⟩⟩⟩

theorem lc_314 {Rel : pG → Prop} {R : Option pV → pG → Prop} {G : pG} {x3 : Int} {L : Nat} (hR : Rel G) (hL : G 498 0 = (L : Int)) (hin : ∀ j : Nat, j < L → inr (G 499 j)) (h0 : 0 ≤ x3) (h6 : x3 + 6 ≤ (L : Int)) (hl : L ≤ 3072) (kk : ∀ G2, Rel G2 → G2 498 = G 498 → G2 499 = G 499 → pEnds pMT 60 268 Yc R 1288 [pR 499, pR 0, pR 109, pI x3] [] G2) (h314 : ∀ a1 : Int, inr a1 → pPr Rel 132 191 [pI a1]) : pEnds pMT 60 268 Yc R 314 [pR 499, pR 0, pR 109, pI x3] [] G := by
  have e1 : w32 (x3 + (1 : Int)) = x3 + 1 := w32_id (by omega) (by omega)
  refine v268_314 ?_
  rw [e1]
  obtain ⟨r, G1, G2, h1, h2, h3, g1, g2, g3, g4⟩ := h314 (G 499 (Int.toNat (x3 + 1))) (hin _ (by omega)) G hR
  have q0 := congrFun g1 0
  exact ⟨by omega, by omega, pC1.of (by omega) h1 ⟨by omega, by omega, pC1.of (by omega) (by rw [g2]; exact h2) ⟨fun _ => kk G2 h3 g3 g4, fun h => absurd rfl h⟩⟩⟩

theorem lc_337 {Rel : pG → Prop} {R : Option pV → pG → Prop} {G : pG} {x3 : Int} {L : Nat} (hR : Rel G) (hL : G 498 0 = (L : Int)) (hin : ∀ j : Nat, j < L → inr (G 499 j)) (h0 : 0 ≤ x3) (h6 : x3 + 6 ≤ (L : Int)) (hl : L ≤ 3072) (kk : ∀ G2, Rel G2 → G2 498 = G 498 → G2 499 = G 499 → pEnds pMT 60 268 Yc R 1288 [pR 499, pR 0, pR 109, pI x3] [] G2) (h337 : ∀ a1 : Int, inr a1 → pPr Rel 134 200 [pI a1]) : pEnds pMT 60 268 Yc R 337 [pR 499, pR 0, pR 109, pI x3] [] G := by
  have e1 : w32 (x3 + (1 : Int)) = x3 + 1 := w32_id (by omega) (by omega)
  refine v268_337 ?_
  rw [e1]
  obtain ⟨r, G1, G2, h1, h2, h3, g1, g2, g3, g4⟩ := h337 (G 499 (Int.toNat (x3 + 1))) (hin _ (by omega)) G hR
  have q0 := congrFun g1 0
  exact ⟨by omega, by omega, pC1.of (by omega) h1 ⟨by omega, by omega, pC1.of (by omega) (by rw [g2]; exact h2) ⟨fun _ => kk G2 h3 g3 g4, fun h => absurd rfl h⟩⟩⟩

theorem lc_360 {Rel : pG → Prop} {R : Option pV → pG → Prop} {G : pG} {x3 : Int} {L : Nat} (hR : Rel G) (hL : G 498 0 = (L : Int)) (hin : ∀ j : Nat, j < L → inr (G 499 j)) (h0 : 0 ≤ x3) (h6 : x3 + 6 ≤ (L : Int)) (hl : L ≤ 3072) (kk : ∀ G2, Rel G2 → G2 498 = G 498 → G2 499 = G 499 → pEnds pMT 60 268 Yc R 1288 [pR 499, pR 0, pR 109, pI x3] [] G2) (h360 : ∀ a1 : Int, inr a1 → pPr Rel 135 201 [pI a1]) : pEnds pMT 60 268 Yc R 360 [pR 499, pR 0, pR 109, pI x3] [] G := by
  have e1 : w32 (x3 + (1 : Int)) = x3 + 1 := w32_id (by omega) (by omega)
  refine v268_360 ?_
  rw [e1]
  obtain ⟨r, G1, G2, h1, h2, h3, g1, g2, g3, g4⟩ := h360 (G 499 (Int.toNat (x3 + 1))) (hin _ (by omega)) G hR
  have q0 := congrFun g1 0
  exact ⟨by omega, by omega, pC1.of (by omega) h1 ⟨by omega, by omega, pC1.of (by omega) (by rw [g2]; exact h2) ⟨fun _ => kk G2 h3 g3 g4, fun h => absurd rfl h⟩⟩⟩

theorem lc_383 {Rel : pG → Prop} {R : Option pV → pG → Prop} {G : pG} {x3 : Int} {L : Nat} (hR : Rel G) (hL : G 498 0 = (L : Int)) (hin : ∀ j : Nat, j < L → inr (G 499 j)) (h0 : 0 ≤ x3) (h6 : x3 + 6 ≤ (L : Int)) (hl : L ≤ 3072) (kk : ∀ G2, Rel G2 → G2 498 = G 498 → G2 499 = G 499 → pEnds pMT 60 268 Yc R 1288 [pR 499, pR 0, pR 109, pI x3] [] G2) (h383 : pPr Rel 136 203 []) : pEnds pMT 60 268 Yc R 383 [pR 499, pR 0, pR 109, pI x3] [] G := by
  refine v268_383 ?_
  obtain ⟨r, G1, G2, h1, h2, h3, g1, g2, g3, g4⟩ := h383   G hR
  exact pC1.of (by omega) h1 (pC1.of (by omega) h2 ⟨fun _ => kk G2 h3 g3 g4, fun h => absurd rfl h⟩)

theorem lc_396 {Rel : pG → Prop} {R : Option pV → pG → Prop} {G : pG} {x3 : Int} {L : Nat} (hR : Rel G) (hL : G 498 0 = (L : Int)) (hin : ∀ j : Nat, j < L → inr (G 499 j)) (h0 : 0 ≤ x3) (h6 : x3 + 6 ≤ (L : Int)) (hl : L ≤ 3072) (kk : ∀ G2, Rel G2 → G2 498 = G 498 → G2 499 = G 499 → pEnds pMT 60 268 Yc R 1288 [pR 499, pR 0, pR 109, pI x3] [] G2) (h396 : ∀ a1 a2 : Int, inr a1 → inr a2 → pPr Rel 137 211 [pI a1, pI a2]) : pEnds pMT 60 268 Yc R 396 [pR 499, pR 0, pR 109, pI x3] [] G := by
  have e1 : w32 (x3 + (1 : Int)) = x3 + 1 := w32_id (by omega) (by omega)
  have e2 : w32 (x3 + (2 : Int)) = x3 + 2 := w32_id (by omega) (by omega)
  refine v268_396 ?_
  rw [e1, e2]
  obtain ⟨r, G1, G2, h1, h2, h3, g1, g2, g3, g4⟩ := h396 (G 499 (Int.toNat (x3 + 1))) (G 499 (Int.toNat (x3 + 2))) (hin _ (by omega)) (hin _ (by omega)) G hR
  have q0 := congrFun g1 0
  exact ⟨by omega, by omega, by omega, by omega, pC1.of (by omega) h1 ⟨by omega, by omega, by omega, by omega, pC1.of (by omega) (by rw [g2]; exact h2) ⟨fun _ => kk G2 h3 g3 g4, fun h => absurd rfl h⟩⟩⟩

theorem lc_429 {Rel : pG → Prop} {R : Option pV → pG → Prop} {G : pG} {x3 : Int} {L : Nat} (hR : Rel G) (hL : G 498 0 = (L : Int)) (hin : ∀ j : Nat, j < L → inr (G 499 j)) (h0 : 0 ≤ x3) (h6 : x3 + 6 ≤ (L : Int)) (hl : L ≤ 3072) (kk : ∀ G2, Rel G2 → G2 498 = G 498 → G2 499 = G 499 → pEnds pMT 60 268 Yc R 1288 [pR 499, pR 0, pR 109, pI x3] [] G2) (h429 : ∀ a1 a2 : Int, inr a1 → inr a2 → pPr Rel 138 214 [pI a1, pI a2]) : pEnds pMT 60 268 Yc R 429 [pR 499, pR 0, pR 109, pI x3] [] G := by
  have e1 : w32 (x3 + (1 : Int)) = x3 + 1 := w32_id (by omega) (by omega)
  have e2 : w32 (x3 + (2 : Int)) = x3 + 2 := w32_id (by omega) (by omega)
  refine v268_429 ?_
  rw [e1, e2]
  obtain ⟨r, G1, G2, h1, h2, h3, g1, g2, g3, g4⟩ := h429 (G 499 (Int.toNat (x3 + 1))) (G 499 (Int.toNat (x3 + 2))) (hin _ (by omega)) (hin _ (by omega)) G hR
  have q0 := congrFun g1 0
  exact ⟨by omega, by omega, by omega, by omega, pC1.of (by omega) h1 ⟨by omega, by omega, by omega, by omega, pC1.of (by omega) (by rw [g2]; exact h2) ⟨fun _ => kk G2 h3 g3 g4, fun h => absurd rfl h⟩⟩⟩

theorem lc_462 {Rel : pG → Prop} {R : Option pV → pG → Prop} {G : pG} {x3 : Int} {L : Nat} (hR : Rel G) (hL : G 498 0 = (L : Int)) (hin : ∀ j : Nat, j < L → inr (G 499 j)) (h0 : 0 ≤ x3) (h6 : x3 + 6 ≤ (L : Int)) (hl : L ≤ 3072) (kk : ∀ G2, Rel G2 → G2 498 = G 498 → G2 499 = G 499 → pEnds pMT 60 268 Yc R 1288 [pR 499, pR 0, pR 109, pI x3] [] G2) (h462 : ∀ a1 : Int, inr a1 → pPr Rel 139 215 [pI a1]) : pEnds pMT 60 268 Yc R 462 [pR 499, pR 0, pR 109, pI x3] [] G := by
  have e1 : w32 (x3 + (1 : Int)) = x3 + 1 := w32_id (by omega) (by omega)
  refine v268_462 ?_
  rw [e1]
  obtain ⟨r, G1, G2, h1, h2, h3, g1, g2, g3, g4⟩ := h462 (G 499 (Int.toNat (x3 + 1))) (hin _ (by omega)) G hR
  have q0 := congrFun g1 0
  exact ⟨by omega, by omega, pC1.of (by omega) h1 ⟨by omega, by omega, pC1.of (by omega) (by rw [g2]; exact h2) ⟨fun _ => kk G2 h3 g3 g4, fun h => absurd rfl h⟩⟩⟩

theorem lc_485 {Rel : pG → Prop} {R : Option pV → pG → Prop} {G : pG} {x3 : Int} {L : Nat} (hR : Rel G) (hL : G 498 0 = (L : Int)) (hin : ∀ j : Nat, j < L → inr (G 499 j)) (h0 : 0 ≤ x3) (h6 : x3 + 6 ≤ (L : Int)) (hl : L ≤ 3072) (kk : ∀ G2, Rel G2 → G2 498 = G 498 → G2 499 = G 499 → pEnds pMT 60 268 Yc R 1288 [pR 499, pR 0, pR 109, pI x3] [] G2) (h485 : ∀ a1 : Int, inr a1 → pPr Rel 140 216 [pI a1]) : pEnds pMT 60 268 Yc R 485 [pR 499, pR 0, pR 109, pI x3] [] G := by
  have e1 : w32 (x3 + (1 : Int)) = x3 + 1 := w32_id (by omega) (by omega)
  refine v268_485 ?_
  rw [e1]
  obtain ⟨r, G1, G2, h1, h2, h3, g1, g2, g3, g4⟩ := h485 (G 499 (Int.toNat (x3 + 1))) (hin _ (by omega)) G hR
  have q0 := congrFun g1 0
  exact ⟨by omega, by omega, pC1.of (by omega) h1 ⟨by omega, by omega, pC1.of (by omega) (by rw [g2]; exact h2) ⟨fun _ => kk G2 h3 g3 g4, fun h => absurd rfl h⟩⟩⟩

theorem lc_508 {Rel : pG → Prop} {R : Option pV → pG → Prop} {G : pG} {x3 : Int} {L : Nat} (hR : Rel G) (hL : G 498 0 = (L : Int)) (hin : ∀ j : Nat, j < L → inr (G 499 j)) (h0 : 0 ≤ x3) (h6 : x3 + 6 ≤ (L : Int)) (hl : L ≤ 3072) (kk : ∀ G2, Rel G2 → G2 498 = G 498 → G2 499 = G 499 → pEnds pMT 60 268 Yc R 1288 [pR 499, pR 0, pR 109, pI x3] [] G2) (h508 : ∀ a1 : Int, inr a1 → pPr Rel 141 218 [pI a1]) : pEnds pMT 60 268 Yc R 508 [pR 499, pR 0, pR 109, pI x3] [] G := by
  have e1 : w32 (x3 + (1 : Int)) = x3 + 1 := w32_id (by omega) (by omega)
  refine v268_508 ?_
  rw [e1]
  obtain ⟨r, G1, G2, h1, h2, h3, g1, g2, g3, g4⟩ := h508 (G 499 (Int.toNat (x3 + 1))) (hin _ (by omega)) G hR
  have q0 := congrFun g1 0
  exact ⟨by omega, by omega, pC1.of (by omega) h1 ⟨by omega, by omega, pC1.of (by omega) (by rw [g2]; exact h2) ⟨fun _ => kk G2 h3 g3 g4, fun h => absurd rfl h⟩⟩⟩

theorem lc_531 {Rel : pG → Prop} {R : Option pV → pG → Prop} {G : pG} {x3 : Int} {L : Nat} (hR : Rel G) (hL : G 498 0 = (L : Int)) (hin : ∀ j : Nat, j < L → inr (G 499 j)) (h0 : 0 ≤ x3) (h6 : x3 + 6 ≤ (L : Int)) (hl : L ≤ 3072) (kk : ∀ G2, Rel G2 → G2 498 = G 498 → G2 499 = G 499 → pEnds pMT 60 268 Yc R 1288 [pR 499, pR 0, pR 109, pI x3] [] G2) (h531 : ∀ a1 a2 : Int, inr a1 → inr a2 → pPr Rel 142 219 [pI a1, pI a2]) : pEnds pMT 60 268 Yc R 531 [pR 499, pR 0, pR 109, pI x3] [] G := by
  have e1 : w32 (x3 + (1 : Int)) = x3 + 1 := w32_id (by omega) (by omega)
  have e2 : w32 (x3 + (2 : Int)) = x3 + 2 := w32_id (by omega) (by omega)
  refine v268_531 ?_
  rw [e1, e2]
  obtain ⟨r, G1, G2, h1, h2, h3, g1, g2, g3, g4⟩ := h531 (G 499 (Int.toNat (x3 + 1))) (G 499 (Int.toNat (x3 + 2))) (hin _ (by omega)) (hin _ (by omega)) G hR
  have q0 := congrFun g1 0
  exact ⟨by omega, by omega, by omega, by omega, pC1.of (by omega) h1 ⟨by omega, by omega, by omega, by omega, pC1.of (by omega) (by rw [g2]; exact h2) ⟨fun _ => kk G2 h3 g3 g4, fun h => absurd rfl h⟩⟩⟩

theorem lc_564 {Rel : pG → Prop} {R : Option pV → pG → Prop} {G : pG} {x3 : Int} {L : Nat} (hR : Rel G) (hL : G 498 0 = (L : Int)) (hin : ∀ j : Nat, j < L → inr (G 499 j)) (h0 : 0 ≤ x3) (h6 : x3 + 6 ≤ (L : Int)) (hl : L ≤ 3072) (kk : ∀ G2, Rel G2 → G2 498 = G 498 → G2 499 = G 499 → pEnds pMT 60 268 Yc R 1288 [pR 499, pR 0, pR 109, pI x3] [] G2) (h564 : ∀ a1 a2 a3 : Int, inr a1 → inr a2 → inr a3 → pPr Rel 143 220 [pI a1, pI a2, pI a3]) : pEnds pMT 60 268 Yc R 564 [pR 499, pR 0, pR 109, pI x3] [] G := by
  have e1 : w32 (x3 + (1 : Int)) = x3 + 1 := w32_id (by omega) (by omega)
  have e2 : w32 (x3 + (2 : Int)) = x3 + 2 := w32_id (by omega) (by omega)
  have e3 : w32 (x3 + (3 : Int)) = x3 + 3 := w32_id (by omega) (by omega)
  refine v268_564 ?_
  rw [e1, e2, e3]
  obtain ⟨r, G1, G2, h1, h2, h3, g1, g2, g3, g4⟩ := h564 (G 499 (Int.toNat (x3 + 1))) (G 499 (Int.toNat (x3 + 2))) (G 499 (Int.toNat (x3 + 3))) (hin _ (by omega)) (hin _ (by omega)) (hin _ (by omega)) G hR
  have q0 := congrFun g1 0
  exact ⟨by omega, by omega, by omega, by omega, by omega, by omega, pC1.of (by omega) h1 ⟨by omega, by omega, by omega, by omega, by omega, by omega, pC1.of (by omega) (by rw [g2]; exact h2) ⟨fun _ => kk G2 h3 g3 g4, fun h => absurd rfl h⟩⟩⟩

theorem lc_607 {Rel : pG → Prop} {R : Option pV → pG → Prop} {G : pG} {x3 : Int} {L : Nat} (hR : Rel G) (hL : G 498 0 = (L : Int)) (hin : ∀ j : Nat, j < L → inr (G 499 j)) (h0 : 0 ≤ x3) (h6 : x3 + 6 ≤ (L : Int)) (hl : L ≤ 3072) (kk : ∀ G2, Rel G2 → G2 498 = G 498 → G2 499 = G 499 → pEnds pMT 60 268 Yc R 1288 [pR 499, pR 0, pR 109, pI x3] [] G2) (h607 : ∀ a1 a2 a3 : Int, inr a1 → inr a2 → inr a3 → pPr Rel 144 222 [pI a1, pI a2, pI a3]) : pEnds pMT 60 268 Yc R 607 [pR 499, pR 0, pR 109, pI x3] [] G := by
  have e1 : w32 (x3 + (1 : Int)) = x3 + 1 := w32_id (by omega) (by omega)
  have e2 : w32 (x3 + (2 : Int)) = x3 + 2 := w32_id (by omega) (by omega)
  have e3 : w32 (x3 + (3 : Int)) = x3 + 3 := w32_id (by omega) (by omega)
  refine v268_607 ?_
  rw [e1, e2, e3]
  obtain ⟨r, G1, G2, h1, h2, h3, g1, g2, g3, g4⟩ := h607 (G 499 (Int.toNat (x3 + 1))) (G 499 (Int.toNat (x3 + 2))) (G 499 (Int.toNat (x3 + 3))) (hin _ (by omega)) (hin _ (by omega)) (hin _ (by omega)) G hR
  have q0 := congrFun g1 0
  exact ⟨by omega, by omega, by omega, by omega, by omega, by omega, pC1.of (by omega) h1 ⟨by omega, by omega, by omega, by omega, by omega, by omega, pC1.of (by omega) (by rw [g2]; exact h2) ⟨fun _ => kk G2 h3 g3 g4, fun h => absurd rfl h⟩⟩⟩

theorem lc_650 {Rel : pG → Prop} {R : Option pV → pG → Prop} {G : pG} {x3 : Int} {L : Nat} (hR : Rel G) (hL : G 498 0 = (L : Int)) (hin : ∀ j : Nat, j < L → inr (G 499 j)) (h0 : 0 ≤ x3) (h6 : x3 + 6 ≤ (L : Int)) (hl : L ≤ 3072) (kk : ∀ G2, Rel G2 → G2 498 = G 498 → G2 499 = G 499 → pEnds pMT 60 268 Yc R 1288 [pR 499, pR 0, pR 109, pI x3] [] G2) (h650 : ∀ a1 : Int, inr a1 → pPr Rel 145 225 [pI a1]) : pEnds pMT 60 268 Yc R 650 [pR 499, pR 0, pR 109, pI x3] [] G := by
  have e1 : w32 (x3 + (1 : Int)) = x3 + 1 := w32_id (by omega) (by omega)
  refine v268_650 ?_
  rw [e1]
  obtain ⟨r, G1, G2, h1, h2, h3, g1, g2, g3, g4⟩ := h650 (G 499 (Int.toNat (x3 + 1))) (hin _ (by omega)) G hR
  have q0 := congrFun g1 0
  exact ⟨by omega, by omega, pC1.of (by omega) h1 ⟨by omega, by omega, pC1.of (by omega) (by rw [g2]; exact h2) ⟨fun _ => kk G2 h3 g3 g4, fun h => absurd rfl h⟩⟩⟩

theorem lc_673 {Rel : pG → Prop} {R : Option pV → pG → Prop} {G : pG} {x3 : Int} {L : Nat} (hR : Rel G) (hL : G 498 0 = (L : Int)) (hin : ∀ j : Nat, j < L → inr (G 499 j)) (h0 : 0 ≤ x3) (h6 : x3 + 6 ≤ (L : Int)) (hl : L ≤ 3072) (kk : ∀ G2, Rel G2 → G2 498 = G 498 → G2 499 = G 499 → pEnds pMT 60 268 Yc R 1288 [pR 499, pR 0, pR 109, pI x3] [] G2) (h673 : ∀ a1 : Int, inr a1 → pPr Rel 146 226 [pI a1]) : pEnds pMT 60 268 Yc R 673 [pR 499, pR 0, pR 109, pI x3] [] G := by
  have e1 : w32 (x3 + (1 : Int)) = x3 + 1 := w32_id (by omega) (by omega)
  refine v268_673 ?_
  rw [e1]
  obtain ⟨r, G1, G2, h1, h2, h3, g1, g2, g3, g4⟩ := h673 (G 499 (Int.toNat (x3 + 1))) (hin _ (by omega)) G hR
  have q0 := congrFun g1 0
  exact ⟨by omega, by omega, pC1.of (by omega) h1 ⟨by omega, by omega, pC1.of (by omega) (by rw [g2]; exact h2) ⟨fun _ => kk G2 h3 g3 g4, fun h => absurd rfl h⟩⟩⟩

theorem lc_696 {Rel : pG → Prop} {R : Option pV → pG → Prop} {G : pG} {x3 : Int} {L : Nat} (hR : Rel G) (hL : G 498 0 = (L : Int)) (hin : ∀ j : Nat, j < L → inr (G 499 j)) (h0 : 0 ≤ x3) (h6 : x3 + 6 ≤ (L : Int)) (hl : L ≤ 3072) (kk : ∀ G2, Rel G2 → G2 498 = G 498 → G2 499 = G 499 → pEnds pMT 60 268 Yc R 1288 [pR 499, pR 0, pR 109, pI x3] [] G2) (h696 : pPr Rel 147 227 []) : pEnds pMT 60 268 Yc R 696 [pR 499, pR 0, pR 109, pI x3] [] G := by
  refine v268_696 ?_
  obtain ⟨r, G1, G2, h1, h2, h3, g1, g2, g3, g4⟩ := h696   G hR
  exact pC1.of (by omega) h1 (pC1.of (by omega) h2 ⟨fun _ => kk G2 h3 g3 g4, fun h => absurd rfl h⟩)

theorem lc_709 {Rel : pG → Prop} {R : Option pV → pG → Prop} {G : pG} {x3 : Int} {L : Nat} (hR : Rel G) (hL : G 498 0 = (L : Int)) (hin : ∀ j : Nat, j < L → inr (G 499 j)) (h0 : 0 ≤ x3) (h6 : x3 + 6 ≤ (L : Int)) (hl : L ≤ 3072) (kk : ∀ G2, Rel G2 → G2 498 = G 498 → G2 499 = G 499 → pEnds pMT 60 268 Yc R 1288 [pR 499, pR 0, pR 109, pI x3] [] G2) (h709 : ∀ a1 : Int, inr a1 → pPr Rel 148 229 [pI a1]) : pEnds pMT 60 268 Yc R 709 [pR 499, pR 0, pR 109, pI x3] [] G := by
  have e1 : w32 (x3 + (1 : Int)) = x3 + 1 := w32_id (by omega) (by omega)
  refine v268_709 ?_
  rw [e1]
  obtain ⟨r, G1, G2, h1, h2, h3, g1, g2, g3, g4⟩ := h709 (G 499 (Int.toNat (x3 + 1))) (hin _ (by omega)) G hR
  have q0 := congrFun g1 0
  exact ⟨by omega, by omega, pC1.of (by omega) h1 ⟨by omega, by omega, pC1.of (by omega) (by rw [g2]; exact h2) ⟨fun _ => kk G2 h3 g3 g4, fun h => absurd rfl h⟩⟩⟩

theorem lc_732 {Rel : pG → Prop} {R : Option pV → pG → Prop} {G : pG} {x3 : Int} {L : Nat} (hR : Rel G) (hL : G 498 0 = (L : Int)) (hin : ∀ j : Nat, j < L → inr (G 499 j)) (h0 : 0 ≤ x3) (h6 : x3 + 6 ≤ (L : Int)) (hl : L ≤ 3072) (kk : ∀ G2, Rel G2 → G2 498 = G 498 → G2 499 = G 499 → pEnds pMT 60 268 Yc R 1288 [pR 499, pR 0, pR 109, pI x3] [] G2) (h732 : ∀ a1 a2 a3 : Int, inr a1 → inr a2 → inr a3 → pPr Rel 149 234 [pI a1, pI a2, pI a3]) : pEnds pMT 60 268 Yc R 732 [pR 499, pR 0, pR 109, pI x3] [] G := by
  have e1 : w32 (x3 + (1 : Int)) = x3 + 1 := w32_id (by omega) (by omega)
  have e2 : w32 (x3 + (2 : Int)) = x3 + 2 := w32_id (by omega) (by omega)
  have e3 : w32 (x3 + (3 : Int)) = x3 + 3 := w32_id (by omega) (by omega)
  refine v268_732 ?_
  rw [e1, e2, e3]
  obtain ⟨r, G1, G2, h1, h2, h3, g1, g2, g3, g4⟩ := h732 (G 499 (Int.toNat (x3 + 1))) (G 499 (Int.toNat (x3 + 2))) (G 499 (Int.toNat (x3 + 3))) (hin _ (by omega)) (hin _ (by omega)) (hin _ (by omega)) G hR
  have q0 := congrFun g1 0
  exact ⟨by omega, by omega, by omega, by omega, by omega, by omega, pC1.of (by omega) h1 ⟨by omega, by omega, by omega, by omega, by omega, by omega, pC1.of (by omega) (by rw [g2]; exact h2) ⟨fun _ => kk G2 h3 g3 g4, fun h => absurd rfl h⟩⟩⟩

theorem lc_775 {Rel : pG → Prop} {R : Option pV → pG → Prop} {G : pG} {x3 : Int} {L : Nat} (hR : Rel G) (hL : G 498 0 = (L : Int)) (hin : ∀ j : Nat, j < L → inr (G 499 j)) (h0 : 0 ≤ x3) (h6 : x3 + 6 ≤ (L : Int)) (hl : L ≤ 3072) (kk : ∀ G2, Rel G2 → G2 498 = G 498 → G2 499 = G 499 → pEnds pMT 60 268 Yc R 1288 [pR 499, pR 0, pR 109, pI x3] [] G2) (h775 : ∀ a1 : Int, inr a1 → pPr Rel 151 235 [pI a1]) : pEnds pMT 60 268 Yc R 775 [pR 499, pR 0, pR 109, pI x3] [] G := by
  have e1 : w32 (x3 + (1 : Int)) = x3 + 1 := w32_id (by omega) (by omega)
  refine v268_775 ?_
  rw [e1]
  obtain ⟨r, G1, G2, h1, h2, h3, g1, g2, g3, g4⟩ := h775 (G 499 (Int.toNat (x3 + 1))) (hin _ (by omega)) G hR
  have q0 := congrFun g1 0
  exact ⟨by omega, by omega, pC1.of (by omega) h1 ⟨by omega, by omega, pC1.of (by omega) (by rw [g2]; exact h2) ⟨fun _ => kk G2 h3 g3 g4, fun h => absurd rfl h⟩⟩⟩

theorem lc_798 {Rel : pG → Prop} {R : Option pV → pG → Prop} {G : pG} {x3 : Int} {L : Nat} (hR : Rel G) (hL : G 498 0 = (L : Int)) (hin : ∀ j : Nat, j < L → inr (G 499 j)) (h0 : 0 ≤ x3) (h6 : x3 + 6 ≤ (L : Int)) (hl : L ≤ 3072) (kk : ∀ G2, Rel G2 → G2 498 = G 498 → G2 499 = G 499 → pEnds pMT 60 268 Yc R 1288 [pR 499, pR 0, pR 109, pI x3] [] G2) (h798 : ∀ b : Int, b = 0 ∨ b = 1 → pPrL Rel 152 236 [pI b]) : pEnds pMT 60 268 Yc R 798 [pR 499, pR 0, pR 109, pI x3] [] G := by
  have e1 : w32 (x3 + (1 : Int)) = x3 + 1 := w32_id (by omega) (by omega)
  refine v268_798 ?_
  rw [e1]
  refine ⟨by omega, by omega, fun hz => ?_, fun hz => ?_⟩
  · obtain ⟨r, G1, G2, h1, h2, h3, g1, g2, g3, g4⟩ := h798 0 (Or.inl rfl) G hR
    have q0 := congrFun g1 0
    refine pC2.of (by omega) h1 ⟨by omega, by omega, fun hz2 => ?_, fun hz2 => ?_⟩
    · exact pC2.of (by omega) h2 ⟨fun _ => kk G2 h3 g3 g4, fun h => absurd (cmp_eq.mpr rfl) h⟩
    · rw [g2] at hz2; exact absurd hz hz2
  · obtain ⟨r, G1, G2, h1, h2, h3, g1, g2, g3, g4⟩ := h798 1 (Or.inr rfl) G hR
    have q0 := congrFun g1 0
    refine pC2.of (by omega) h1 ⟨by omega, by omega, fun hz2 => ?_, fun hz2 => ?_⟩
    · rw [g2] at hz2; exact absurd hz2 hz
    · exact pC2.of (by omega) h2 ⟨fun _ => kk G2 h3 g3 g4, fun h => absurd (cmp_eq.mpr rfl) h⟩

theorem lc_838 {Rel : pG → Prop} {R : Option pV → pG → Prop} {G : pG} {x3 : Int} {L : Nat} (hR : Rel G) (hL : G 498 0 = (L : Int)) (hin : ∀ j : Nat, j < L → inr (G 499 j)) (h0 : 0 ≤ x3) (h6 : x3 + 6 ≤ (L : Int)) (hl : L ≤ 3072) (kk : ∀ G2, Rel G2 → G2 498 = G 498 → G2 499 = G 499 → pEnds pMT 60 268 Yc R 1288 [pR 499, pR 0, pR 109, pI x3] [] G2) (h838 : ∀ a1 a2 : Int, inr a1 → inr a2 → pPr Rel 153 237 [pI a1, pI a2]) : pEnds pMT 60 268 Yc R 838 [pR 499, pR 0, pR 109, pI x3] [] G := by
  have e1 : w32 (x3 + (1 : Int)) = x3 + 1 := w32_id (by omega) (by omega)
  have e2 : w32 (x3 + (2 : Int)) = x3 + 2 := w32_id (by omega) (by omega)
  refine v268_838 ?_
  rw [e1, e2]
  obtain ⟨r, G1, G2, h1, h2, h3, g1, g2, g3, g4⟩ := h838 (G 499 (Int.toNat (x3 + 1))) (G 499 (Int.toNat (x3 + 2))) (hin _ (by omega)) (hin _ (by omega)) G hR
  have q0 := congrFun g1 0
  exact ⟨by omega, by omega, by omega, by omega, pC1.of (by omega) h1 ⟨by omega, by omega, by omega, by omega, pC1.of (by omega) (by rw [g2]; exact h2) ⟨fun _ => kk G2 h3 g3 g4, fun h => absurd rfl h⟩⟩⟩

theorem lc_871 {Rel : pG → Prop} {R : Option pV → pG → Prop} {G : pG} {x3 : Int} {L : Nat} (hR : Rel G) (hL : G 498 0 = (L : Int)) (hin : ∀ j : Nat, j < L → inr (G 499 j)) (h0 : 0 ≤ x3) (h6 : x3 + 6 ≤ (L : Int)) (hl : L ≤ 3072) (kk : ∀ G2, Rel G2 → G2 498 = G 498 → G2 499 = G 499 → pEnds pMT 60 268 Yc R 1288 [pR 499, pR 0, pR 109, pI x3] [] G2) (h871 : ∀ a1 a2 : Int, inr a1 → inr a2 → pPrL Rel 154 238 [pI a1, pI a2]) : pEnds pMT 60 268 Yc R 871 [pR 499, pR 0, pR 109, pI x3] [] G := by
  have e1 : w32 (x3 + (1 : Int)) = x3 + 1 := w32_id (by omega) (by omega)
  have e2 : w32 (x3 + (2 : Int)) = x3 + 2 := w32_id (by omega) (by omega)
  refine v268_871 ?_
  rw [e1, e2]
  obtain ⟨r, G1, G2, h1, h2, h3, g1, g2, g3, g4⟩ := h871 (G 499 (Int.toNat (x3 + 1))) (G 499 (Int.toNat (x3 + 2))) (hin _ (by omega)) (hin _ (by omega)) G hR
  have q0 := congrFun g1 0
  exact ⟨by omega, by omega, by omega, by omega, pC2.of (by omega) h1 ⟨by omega, by omega, by omega, by omega, pC2.of (by omega) (by rw [g2]; exact h2) ⟨fun _ => kk G2 h3 g3 g4, fun h => absurd (cmp_eq.mpr rfl) h⟩⟩⟩

theorem lc_905 {Rel : pG → Prop} {R : Option pV → pG → Prop} {G : pG} {x3 : Int} {L : Nat} (hR : Rel G) (hL : G 498 0 = (L : Int)) (hin : ∀ j : Nat, j < L → inr (G 499 j)) (h0 : 0 ≤ x3) (h6 : x3 + 6 ≤ (L : Int)) (hl : L ≤ 3072) (kk : ∀ G2, Rel G2 → G2 498 = G 498 → G2 499 = G 499 → pEnds pMT 60 268 Yc R 1288 [pR 499, pR 0, pR 109, pI x3] [] G2) (h905 : ∀ a1 a2 a3 a4 : Int, inr a1 → inr a2 → inr a3 → inr a4 → pPr Rel 155 241 [pI a1, pI a2, pI a3, pI a4]) : pEnds pMT 60 268 Yc R 905 [pR 499, pR 0, pR 109, pI x3] [] G := by
  have e1 : w32 (x3 + (1 : Int)) = x3 + 1 := w32_id (by omega) (by omega)
  have e2 : w32 (x3 + (2 : Int)) = x3 + 2 := w32_id (by omega) (by omega)
  have e3 : w32 (x3 + (3 : Int)) = x3 + 3 := w32_id (by omega) (by omega)
  have e4 : w32 (x3 + (4 : Int)) = x3 + 4 := w32_id (by omega) (by omega)
  refine v268_905 ?_
  rw [e1, e2, e3, e4]
  obtain ⟨r, G1, G2, h1, h2, h3, g1, g2, g3, g4⟩ := h905 (G 499 (Int.toNat (x3 + 1))) (G 499 (Int.toNat (x3 + 2))) (G 499 (Int.toNat (x3 + 3))) (G 499 (Int.toNat (x3 + 4))) (hin _ (by omega)) (hin _ (by omega)) (hin _ (by omega)) (hin _ (by omega)) G hR
  have q0 := congrFun g1 0
  exact ⟨by omega, by omega, by omega, by omega, by omega, by omega, by omega, by omega, pC1.of (by omega) h1 ⟨by omega, by omega, by omega, by omega, by omega, by omega, by omega, by omega, pC1.of (by omega) (by rw [g2]; exact h2) ⟨fun _ => kk G2 h3 g3 g4, fun h => absurd rfl h⟩⟩⟩

theorem lc_958 {Rel : pG → Prop} {R : Option pV → pG → Prop} {G : pG} {x3 : Int} {L : Nat} (hR : Rel G) (hL : G 498 0 = (L : Int)) (hin : ∀ j : Nat, j < L → inr (G 499 j)) (h0 : 0 ≤ x3) (h6 : x3 + 6 ≤ (L : Int)) (hl : L ≤ 3072) (kk : ∀ G2, Rel G2 → G2 498 = G 498 → G2 499 = G 499 → pEnds pMT 60 268 Yc R 1288 [pR 499, pR 0, pR 109, pI x3] [] G2) (h958 : ∀ a1 a2 a3 : Int, inr a1 → inr a2 → inr a3 → pPr Rel 156 242 [pI a1, pI a2, pI a3]) : pEnds pMT 60 268 Yc R 958 [pR 499, pR 0, pR 109, pI x3] [] G := by
  have e1 : w32 (x3 + (1 : Int)) = x3 + 1 := w32_id (by omega) (by omega)
  have e2 : w32 (x3 + (2 : Int)) = x3 + 2 := w32_id (by omega) (by omega)
  have e3 : w32 (x3 + (3 : Int)) = x3 + 3 := w32_id (by omega) (by omega)
  refine v268_958 ?_
  rw [e1, e2, e3]
  obtain ⟨r, G1, G2, h1, h2, h3, g1, g2, g3, g4⟩ := h958 (G 499 (Int.toNat (x3 + 1))) (G 499 (Int.toNat (x3 + 2))) (G 499 (Int.toNat (x3 + 3))) (hin _ (by omega)) (hin _ (by omega)) (hin _ (by omega)) G hR
  have q0 := congrFun g1 0
  exact ⟨by omega, by omega, by omega, by omega, by omega, by omega, pC1.of (by omega) h1 ⟨by omega, by omega, by omega, by omega, by omega, by omega, pC1.of (by omega) (by rw [g2]; exact h2) ⟨fun _ => kk G2 h3 g3 g4, fun h => absurd rfl h⟩⟩⟩

theorem lc_1001 {Rel : pG → Prop} {R : Option pV → pG → Prop} {G : pG} {x3 : Int} {L : Nat} (hR : Rel G) (hL : G 498 0 = (L : Int)) (hin : ∀ j : Nat, j < L → inr (G 499 j)) (h0 : 0 ≤ x3) (h6 : x3 + 6 ≤ (L : Int)) (hl : L ≤ 3072) (kk : ∀ G2, Rel G2 → G2 498 = G 498 → G2 499 = G 499 → pEnds pMT 60 268 Yc R 1288 [pR 499, pR 0, pR 109, pI x3] [] G2) (h1001 : ∀ a1 a2 : Int, inr a1 → inr a2 → pPr Rel 157 257 [pI a1, pI a2]) : pEnds pMT 60 268 Yc R 1001 [pR 499, pR 0, pR 109, pI x3] [] G := by
  have e1 : w32 (x3 + (1 : Int)) = x3 + 1 := w32_id (by omega) (by omega)
  have e2 : w32 (x3 + (2 : Int)) = x3 + 2 := w32_id (by omega) (by omega)
  refine v268_1001 ?_
  rw [e1, e2]
  obtain ⟨r, G1, G2, h1, h2, h3, g1, g2, g3, g4⟩ := h1001 (G 499 (Int.toNat (x3 + 1))) (G 499 (Int.toNat (x3 + 2))) (hin _ (by omega)) (hin _ (by omega)) G hR
  have q0 := congrFun g1 0
  exact ⟨by omega, by omega, by omega, by omega, pC1.of (by omega) h1 ⟨by omega, by omega, by omega, by omega, pC1.of (by omega) (by rw [g2]; exact h2) ⟨fun _ => kk G2 h3 g3 g4, fun h => absurd rfl h⟩⟩⟩

theorem lc_1034 {Rel : pG → Prop} {R : Option pV → pG → Prop} {G : pG} {x3 : Int} {L : Nat} (hR : Rel G) (hL : G 498 0 = (L : Int)) (hin : ∀ j : Nat, j < L → inr (G 499 j)) (h0 : 0 ≤ x3) (h6 : x3 + 6 ≤ (L : Int)) (hl : L ≤ 3072) (kk : ∀ G2, Rel G2 → G2 498 = G 498 → G2 499 = G 499 → pEnds pMT 60 268 Yc R 1288 [pR 499, pR 0, pR 109, pI x3] [] G2) (h1034 : ∀ a1 a2 : Int, inr a1 → inr a2 → pPr Rel 158 252 [pI a1, pI a2]) : pEnds pMT 60 268 Yc R 1034 [pR 499, pR 0, pR 109, pI x3] [] G := by
  have e1 : w32 (x3 + (1 : Int)) = x3 + 1 := w32_id (by omega) (by omega)
  have e2 : w32 (x3 + (2 : Int)) = x3 + 2 := w32_id (by omega) (by omega)
  refine v268_1034 ?_
  rw [e1, e2]
  obtain ⟨r, G1, G2, h1, h2, h3, g1, g2, g3, g4⟩ := h1034 (G 499 (Int.toNat (x3 + 1))) (G 499 (Int.toNat (x3 + 2))) (hin _ (by omega)) (hin _ (by omega)) G hR
  have q0 := congrFun g1 0
  exact ⟨by omega, by omega, by omega, by omega, pC1.of (by omega) h1 ⟨by omega, by omega, by omega, by omega, pC1.of (by omega) (by rw [g2]; exact h2) ⟨fun _ => kk G2 h3 g3 g4, fun h => absurd rfl h⟩⟩⟩

theorem lc_1067 {Rel : pG → Prop} {R : Option pV → pG → Prop} {G : pG} {x3 : Int} {L : Nat} (hR : Rel G) (hL : G 498 0 = (L : Int)) (hin : ∀ j : Nat, j < L → inr (G 499 j)) (h0 : 0 ≤ x3) (h6 : x3 + 6 ≤ (L : Int)) (hl : L ≤ 3072) (kk : ∀ G2, Rel G2 → G2 498 = G 498 → G2 499 = G 499 → pEnds pMT 60 268 Yc R 1288 [pR 499, pR 0, pR 109, pI x3] [] G2) (h1067 : ∀ a1 a2 a3 : Int, inr a1 → inr a2 → inr a3 → pPr Rel 159 253 [pI a1, pI a2, pI a3]) : pEnds pMT 60 268 Yc R 1067 [pR 499, pR 0, pR 109, pI x3] [] G := by
  have e1 : w32 (x3 + (1 : Int)) = x3 + 1 := w32_id (by omega) (by omega)
  have e2 : w32 (x3 + (2 : Int)) = x3 + 2 := w32_id (by omega) (by omega)
  have e3 : w32 (x3 + (3 : Int)) = x3 + 3 := w32_id (by omega) (by omega)
  refine v268_1067 ?_
  rw [e1, e2, e3]
  obtain ⟨r, G1, G2, h1, h2, h3, g1, g2, g3, g4⟩ := h1067 (G 499 (Int.toNat (x3 + 1))) (G 499 (Int.toNat (x3 + 2))) (G 499 (Int.toNat (x3 + 3))) (hin _ (by omega)) (hin _ (by omega)) (hin _ (by omega)) G hR
  have q0 := congrFun g1 0
  exact ⟨by omega, by omega, by omega, by omega, by omega, by omega, pC1.of (by omega) h1 ⟨by omega, by omega, by omega, by omega, by omega, by omega, pC1.of (by omega) (by rw [g2]; exact h2) ⟨fun _ => kk G2 h3 g3 g4, fun h => absurd rfl h⟩⟩⟩

theorem lc_1110 {Rel : pG → Prop} {R : Option pV → pG → Prop} {G : pG} {x3 : Int} {L : Nat} (hR : Rel G) (hL : G 498 0 = (L : Int)) (hin : ∀ j : Nat, j < L → inr (G 499 j)) (h0 : 0 ≤ x3) (h6 : x3 + 6 ≤ (L : Int)) (hl : L ≤ 3072) (kk : ∀ G2, Rel G2 → G2 498 = G 498 → G2 499 = G 499 → pEnds pMT 60 268 Yc R 1288 [pR 499, pR 0, pR 109, pI x3] [] G2) (h1110 : ∀ a1 a2 : Int, inr a1 → inr a2 → pPr Rel 160 259 [pI a1, pI a2]) : pEnds pMT 60 268 Yc R 1110 [pR 499, pR 0, pR 109, pI x3] [] G := by
  have e1 : w32 (x3 + (1 : Int)) = x3 + 1 := w32_id (by omega) (by omega)
  have e2 : w32 (x3 + (2 : Int)) = x3 + 2 := w32_id (by omega) (by omega)
  refine v268_1110 ?_
  rw [e1, e2]
  obtain ⟨r, G1, G2, h1, h2, h3, g1, g2, g3, g4⟩ := h1110 (G 499 (Int.toNat (x3 + 1))) (G 499 (Int.toNat (x3 + 2))) (hin _ (by omega)) (hin _ (by omega)) G hR
  have q0 := congrFun g1 0
  exact ⟨by omega, by omega, by omega, by omega, pC1.of (by omega) h1 ⟨by omega, by omega, by omega, by omega, pC1.of (by omega) (by rw [g2]; exact h2) ⟨fun _ => kk G2 h3 g3 g4, fun h => absurd rfl h⟩⟩⟩

theorem lc_1143 {Rel : pG → Prop} {R : Option pV → pG → Prop} {G : pG} {x3 : Int} {L : Nat} (hR : Rel G) (hL : G 498 0 = (L : Int)) (hin : ∀ j : Nat, j < L → inr (G 499 j)) (h0 : 0 ≤ x3) (h6 : x3 + 6 ≤ (L : Int)) (hl : L ≤ 3072) (kk : ∀ G2, Rel G2 → G2 498 = G 498 → G2 499 = G 499 → pEnds pMT 60 268 Yc R 1288 [pR 499, pR 0, pR 109, pI x3] [] G2) (h1143 : ∀ a1 a2 : Int, inr a1 → inr a2 → pPr Rel 161 260 [pI a1, pI a2]) : pEnds pMT 60 268 Yc R 1143 [pR 499, pR 0, pR 109, pI x3] [] G := by
  have e1 : w32 (x3 + (1 : Int)) = x3 + 1 := w32_id (by omega) (by omega)
  have e2 : w32 (x3 + (2 : Int)) = x3 + 2 := w32_id (by omega) (by omega)
  refine v268_1143 ?_
  rw [e1, e2]
  obtain ⟨r, G1, G2, h1, h2, h3, g1, g2, g3, g4⟩ := h1143 (G 499 (Int.toNat (x3 + 1))) (G 499 (Int.toNat (x3 + 2))) (hin _ (by omega)) (hin _ (by omega)) G hR
  have q0 := congrFun g1 0
  exact ⟨by omega, by omega, by omega, by omega, pC1.of (by omega) h1 ⟨by omega, by omega, by omega, by omega, pC1.of (by omega) (by rw [g2]; exact h2) ⟨fun _ => kk G2 h3 g3 g4, fun h => absurd rfl h⟩⟩⟩

theorem lc_1176 {Rel : pG → Prop} {R : Option pV → pG → Prop} {G : pG} {x3 : Int} {L : Nat} (hR : Rel G) (hL : G 498 0 = (L : Int)) (hin : ∀ j : Nat, j < L → inr (G 499 j)) (h0 : 0 ≤ x3) (h6 : x3 + 6 ≤ (L : Int)) (hl : L ≤ 3072) (kk : ∀ G2, Rel G2 → G2 498 = G 498 → G2 499 = G 499 → pEnds pMT 60 268 Yc R 1288 [pR 499, pR 0, pR 109, pI x3] [] G2) (h1176 : pPr Rel 162 262 []) : pEnds pMT 60 268 Yc R 1176 [pR 499, pR 0, pR 109, pI x3] [] G := by
  refine v268_1176 ?_
  obtain ⟨r, G1, G2, h1, h2, h3, g1, g2, g3, g4⟩ := h1176   G hR
  exact pC1.of (by omega) h1 (pC1.of (by omega) h2 ⟨fun _ => kk G2 h3 g3 g4, fun h => absurd rfl h⟩)

theorem lc_1189 {Rel : pG → Prop} {R : Option pV → pG → Prop} {G : pG} {x3 : Int} {L : Nat} (hR : Rel G) (hL : G 498 0 = (L : Int)) (hin : ∀ j : Nat, j < L → inr (G 499 j)) (h0 : 0 ≤ x3) (h6 : x3 + 6 ≤ (L : Int)) (hl : L ≤ 3072) (kk : ∀ G2, Rel G2 → G2 498 = G 498 → G2 499 = G 499 → pEnds pMT 60 268 Yc R 1288 [pR 499, pR 0, pR 109, pI x3] [] G2) (h1189 : ∀ a1 a2 : Int, inr a1 → inr a2 → pPr Rel 163 264 [pI a1, pI a2]) : pEnds pMT 60 268 Yc R 1189 [pR 499, pR 0, pR 109, pI x3] [] G := by
  have e1 : w32 (x3 + (1 : Int)) = x3 + 1 := w32_id (by omega) (by omega)
  have e2 : w32 (x3 + (2 : Int)) = x3 + 2 := w32_id (by omega) (by omega)
  refine v268_1189 ?_
  rw [e1, e2]
  obtain ⟨r, G1, G2, h1, h2, h3, g1, g2, g3, g4⟩ := h1189 (G 499 (Int.toNat (x3 + 1))) (G 499 (Int.toNat (x3 + 2))) (hin _ (by omega)) (hin _ (by omega)) G hR
  have q0 := congrFun g1 0
  exact ⟨by omega, by omega, by omega, by omega, pC1.of (by omega) h1 ⟨by omega, by omega, by omega, by omega, pC1.of (by omega) (by rw [g2]; exact h2) ⟨fun _ => kk G2 h3 g3 g4, fun h => absurd rfl h⟩⟩⟩

theorem lc_1222 {Rel : pG → Prop} {R : Option pV → pG → Prop} {G : pG} {x3 : Int} {L : Nat} (hR : Rel G) (hL : G 498 0 = (L : Int)) (hin : ∀ j : Nat, j < L → inr (G 499 j)) (h0 : 0 ≤ x3) (h6 : x3 + 6 ≤ (L : Int)) (hl : L ≤ 3072) (kk : ∀ G2, Rel G2 → G2 498 = G 498 → G2 499 = G 499 → pEnds pMT 60 268 Yc R 1288 [pR 499, pR 0, pR 109, pI x3] [] G2) (h1222 : ∀ a1 a2 a3 : Int, inr a1 → inr a2 → inr a3 → pPr Rel 164 265 [pI a1, pI a2, pI a3]) : pEnds pMT 60 268 Yc R 1222 [pR 499, pR 0, pR 109, pI x3] [] G := by
  have e1 : w32 (x3 + (1 : Int)) = x3 + 1 := w32_id (by omega) (by omega)
  have e2 : w32 (x3 + (2 : Int)) = x3 + 2 := w32_id (by omega) (by omega)
  have e3 : w32 (x3 + (3 : Int)) = x3 + 3 := w32_id (by omega) (by omega)
  refine v268_1222 ?_
  rw [e1, e2, e3]
  obtain ⟨r, G1, G2, h1, h2, h3, g1, g2, g3, g4⟩ := h1222 (G 499 (Int.toNat (x3 + 1))) (G 499 (Int.toNat (x3 + 2))) (G 499 (Int.toNat (x3 + 3))) (hin _ (by omega)) (hin _ (by omega)) (hin _ (by omega)) G hR
  have q0 := congrFun g1 0
  exact ⟨by omega, by omega, by omega, by omega, by omega, by omega, pC1.of (by omega) h1 ⟨by omega, by omega, by omega, by omega, by omega, by omega, pC1.of (by omega) (by rw [g2]; exact h2) ⟨fun _ => kk G2 h3 g3 g4, fun h => absurd rfl h⟩⟩⟩

theorem lc_1265 {Rel : pG → Prop} {R : Option pV → pG → Prop} {G : pG} {x3 : Int} {L : Nat} (hR : Rel G) (hL : G 498 0 = (L : Int)) (hin : ∀ j : Nat, j < L → inr (G 499 j)) (h0 : 0 ≤ x3) (h6 : x3 + 6 ≤ (L : Int)) (hl : L ≤ 3072) (kk : ∀ G2, Rel G2 → G2 498 = G 498 → G2 499 = G 499 → pEnds pMT 60 268 Yc R 1288 [pR 499, pR 0, pR 109, pI x3] [] G2) (h1265 : ∀ a1 : Int, inr a1 → pPr Rel 165 266 [pI a1]) : pEnds pMT 60 268 Yc R 1265 [pR 499, pR 0, pR 109, pI x3] [] G := by
  have e1 : w32 (x3 + (1 : Int)) = x3 + 1 := w32_id (by omega) (by omega)
  refine v268_1265 ?_
  rw [e1]
  obtain ⟨r, G1, G2, h1, h2, h3, g1, g2, g3, g4⟩ := h1265 (G 499 (Int.toNat (x3 + 1))) (hin _ (by omega)) G hR
  have q0 := congrFun g1 0
  exact ⟨by omega, by omega, pC1.of (by omega) h1 ⟨by omega, by omega, pC1.of (by omega) (by rw [g2]; exact h2) ⟨fun _ => kk G2 h3 g3 g4, fun h => absurd rfl h⟩⟩⟩

set_option maxRecDepth 20000 in
theorem pand63 (x : Int) : 0 ≤ pand x 63 ∧ pand x 63 ≤ 63 := by
  unfold pand
  have h : (Int32.ofInt 63).toBitVec.toNat = 2 ^ 6 - 1 := by decide
  obtain ⟨j, h1, h2⟩ := pk_andE (Int32.ofInt x) 6 h
  rw [h2, nI_toInt (by omega)]
  omega
theorem law_loop {Rel : pG → Prop} (h192 : ∀ a1 a2 a3 a4 a5 : Int, inr a1 → inr a2 → inr a3 → inr a4 → inr a5 → pPr Rel 128 186 [pI a1, pI a2, pI a3, pI a4, pI a5]) (h255 : ∀ a1 : Int, inr a1 → pPr Rel 129 188 [pI a1]) (h278 : pPr Rel 130 189 []) (h291 : ∀ a1 : Int, inr a1 → pPr Rel 131 190 [pI a1]) (h314 : ∀ a1 : Int, inr a1 → pPr Rel 132 191 [pI a1]) (h337 : ∀ a1 : Int, inr a1 → pPr Rel 134 200 [pI a1]) (h360 : ∀ a1 : Int, inr a1 → pPr Rel 135 201 [pI a1]) (h383 : pPr Rel 136 203 []) (h396 : ∀ a1 a2 : Int, inr a1 → inr a2 → pPr Rel 137 211 [pI a1, pI a2]) (h429 : ∀ a1 a2 : Int, inr a1 → inr a2 → pPr Rel 138 214 [pI a1, pI a2]) (h462 : ∀ a1 : Int, inr a1 → pPr Rel 139 215 [pI a1]) (h485 : ∀ a1 : Int, inr a1 → pPr Rel 140 216 [pI a1]) (h508 : ∀ a1 : Int, inr a1 → pPr Rel 141 218 [pI a1]) (h531 : ∀ a1 a2 : Int, inr a1 → inr a2 → pPr Rel 142 219 [pI a1, pI a2]) (h564 : ∀ a1 a2 a3 : Int, inr a1 → inr a2 → inr a3 → pPr Rel 143 220 [pI a1, pI a2, pI a3]) (h607 : ∀ a1 a2 a3 : Int, inr a1 → inr a2 → inr a3 → pPr Rel 144 222 [pI a1, pI a2, pI a3]) (h650 : ∀ a1 : Int, inr a1 → pPr Rel 145 225 [pI a1]) (h673 : ∀ a1 : Int, inr a1 → pPr Rel 146 226 [pI a1]) (h696 : pPr Rel 147 227 []) (h709 : ∀ a1 : Int, inr a1 → pPr Rel 148 229 [pI a1]) (h732 : ∀ a1 a2 a3 : Int, inr a1 → inr a2 → inr a3 → pPr Rel 149 234 [pI a1, pI a2, pI a3]) (h775 : ∀ a1 : Int, inr a1 → pPr Rel 151 235 [pI a1]) (h798 : ∀ b : Int, b = 0 ∨ b = 1 → pPrL Rel 152 236 [pI b]) (h838 : ∀ a1 a2 : Int, inr a1 → inr a2 → pPr Rel 153 237 [pI a1, pI a2]) (h871 : ∀ a1 a2 : Int, inr a1 → inr a2 → pPrL Rel 154 238 [pI a1, pI a2]) (h905 : ∀ a1 a2 a3 a4 : Int, inr a1 → inr a2 → inr a3 → inr a4 → pPr Rel 155 241 [pI a1, pI a2, pI a3, pI a4]) (h958 : ∀ a1 a2 a3 : Int, inr a1 → inr a2 → inr a3 → pPr Rel 156 242 [pI a1, pI a2, pI a3]) (h1001 : ∀ a1 a2 : Int, inr a1 → inr a2 → pPr Rel 157 257 [pI a1, pI a2]) (h1034 : ∀ a1 a2 : Int, inr a1 → inr a2 → pPr Rel 158 252 [pI a1, pI a2]) (h1067 : ∀ a1 a2 a3 : Int, inr a1 → inr a2 → inr a3 → pPr Rel 159 253 [pI a1, pI a2, pI a3]) (h1110 : ∀ a1 a2 : Int, inr a1 → inr a2 → pPr Rel 160 259 [pI a1, pI a2]) (h1143 : ∀ a1 a2 : Int, inr a1 → inr a2 → pPr Rel 161 260 [pI a1, pI a2]) (h1176 : pPr Rel 162 262 []) (h1189 : ∀ a1 a2 : Int, inr a1 → inr a2 → pPr Rel 163 264 [pI a1, pI a2]) (h1222 : ∀ a1 a2 a3 : Int, inr a1 → inr a2 → inr a3 → pPr Rel 164 265 [pI a1, pI a2, pI a3]) (h1265 : ∀ a1 : Int, inr a1 → pPr Rel 165 266 [pI a1]) : ∀ (n : Nat) (G : pG) (L : Nat) (x3 : Int), Rel G → G 498 0 = (L : Int) → L ≤ 3072 → (∀ j : Nat, j < L → inr (G 499 j)) → 0 ≤ x3 → x3 ≤ (L : Int) + 6 → (L : Int) + 7 ≤ x3 + n → pEnds pMT 60 268 Yc (fun r _ => r = some (pI 1)) 18 [pR 499, pR 0, pR 109, pI x3] [] G := by
  intro n
  induction n with
  | zero => intro G L x3 _ _ _ _ _ h1 h2; omega
  | succ n ih =>
    intro G L x3 hR hL hl hin h0 hx hn
    have e0 : w32 (G 498 0 - (6 : Int)) = G 498 0 - 6 := w32_id (by omega) (by omega)
    have kk : x3 + 6 ≤ (L : Int) → ∀ G2, Rel G2 → G2 498 = G 498 → G2 499 = G 499 → pEnds pMT 60 268 Yc (fun r _ => r = some (pI 1)) 1288 [pR 499, pR 0, pR 109, pI x3] [] G2 := by
      intro h6 G2 hR2 g1 g2
      refine v268_1288 (fun y hy => ?_)
      rw [w32_id (by omega) (by omega)] at hy
      have q0 := congrFun g1 0
      exact ih G2 L y hR2 (by rw [q0]; exact hL) hl (fun j hj => by rw [g2]; exact hin j hj) (by omega) (by omega) (by omega)
    refine v268_18 ?_
    rw [e0]
    generalize hc : pand (G 499 (Int.toNat x3)) 63 = c
    have hc2 := pand63 (G 499 (Int.toNat x3))
    rw [hc] at hc2
    refine ⟨fun _ => ⟨Or.inr rfl, rfl⟩, fun h => ⟨h0, by omega, fun _ => kk (by omega) G hR rfl rfl, fun hno => ?_⟩⟩
    have h6 : x3 + 6 ≤ (L : Int) := by omega
    exact ⟨fun _ => lc_192 hR hL hin h0 h6 hl (kk h6) h192, fun n0 => ⟨fun _ => lc_255 hR hL hin h0 h6 hl (kk h6) h255, fun n1 => ⟨fun _ => lc_278 hR hL hin h0 h6 hl (kk h6) h278, fun n2 => ⟨fun _ => lc_291 hR hL hin h0 h6 hl (kk h6) h291, fun n3 => ⟨fun _ => lc_314 hR hL hin h0 h6 hl (kk h6) h314, fun n4 => ⟨fun _ => lc_337 hR hL hin h0 h6 hl (kk h6) h337, fun n5 => ⟨fun _ => lc_360 hR hL hin h0 h6 hl (kk h6) h360, fun n6 => ⟨fun _ => lc_383 hR hL hin h0 h6 hl (kk h6) h383, fun n7 => ⟨fun _ => lc_396 hR hL hin h0 h6 hl (kk h6) h396, fun n8 => ⟨fun _ => lc_429 hR hL hin h0 h6 hl (kk h6) h429, fun n9 => ⟨fun _ => lc_462 hR hL hin h0 h6 hl (kk h6) h462, fun n10 => ⟨fun _ => lc_485 hR hL hin h0 h6 hl (kk h6) h485, fun n11 => ⟨fun _ => lc_508 hR hL hin h0 h6 hl (kk h6) h508, fun n12 => ⟨fun _ => lc_531 hR hL hin h0 h6 hl (kk h6) h531, fun n13 => ⟨fun _ => lc_564 hR hL hin h0 h6 hl (kk h6) h564, fun n14 => ⟨fun _ => lc_607 hR hL hin h0 h6 hl (kk h6) h607, fun n15 => ⟨fun _ => lc_650 hR hL hin h0 h6 hl (kk h6) h650, fun n16 => ⟨fun _ => lc_673 hR hL hin h0 h6 hl (kk h6) h673, fun n17 => ⟨fun _ => lc_696 hR hL hin h0 h6 hl (kk h6) h696, fun n18 => ⟨fun _ => lc_709 hR hL hin h0 h6 hl (kk h6) h709, fun n19 => ⟨fun _ => lc_732 hR hL hin h0 h6 hl (kk h6) h732, fun n20 => ⟨fun _ => lc_775 hR hL hin h0 h6 hl (kk h6) h775, fun n21 => ⟨fun _ => lc_798 hR hL hin h0 h6 hl (kk h6) h798, fun n22 => ⟨fun _ => lc_838 hR hL hin h0 h6 hl (kk h6) h838, fun n23 => ⟨fun _ => lc_871 hR hL hin h0 h6 hl (kk h6) h871, fun n24 => ⟨fun _ => lc_905 hR hL hin h0 h6 hl (kk h6) h905, fun n25 => ⟨fun _ => lc_958 hR hL hin h0 h6 hl (kk h6) h958, fun n26 => ⟨fun _ => lc_1001 hR hL hin h0 h6 hl (kk h6) h1001, fun n27 => ⟨fun _ => lc_1034 hR hL hin h0 h6 hl (kk h6) h1034, fun n28 => ⟨fun _ => lc_1067 hR hL hin h0 h6 hl (kk h6) h1067, fun n29 => ⟨fun _ => lc_1110 hR hL hin h0 h6 hl (kk h6) h1110, fun n30 => ⟨fun _ => lc_1143 hR hL hin h0 h6 hl (kk h6) h1143, fun n31 => ⟨fun _ => lc_1176 hR hL hin h0 h6 hl (kk h6) h1176, fun n32 => ⟨fun _ => lc_1189 hR hL hin h0 h6 hl (kk h6) h1189, fun n33 => ⟨fun _ => lc_1222 hR hL hin h0 h6 hl (kk h6) h1222, fun n34 => ⟨fun _ => lc_1265 hR hL hin h0 h6 hl (kk h6) h1265, fun n35 => (by omega)⟩⟩⟩⟩⟩⟩⟩⟩⟩⟩⟩⟩⟩⟩⟩⟩⟩⟩⟩⟩⟩⟩⟩⟩⟩⟩⟩⟩⟩⟩⟩⟩⟩⟩⟩⟩

