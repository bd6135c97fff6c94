theorem pPr.ro {Rel : pG → Prop} {Mc Mr : Nat} {as : List pV} (h : ∀ G, Rel G → ∃ r, pRuns pMT 59 Mc (pR 0 :: as) Yc G (some (pI r)) G ∧ pRuns pMT 59 Mr (pR 109 :: as) Yc G (some (pI r)) G) : pPr Rel Mc Mr as := fun G hR => by
  obtain ⟨r, h1, h2⟩ := h G hR
  exact ⟨r, G, G, h1, h2, hR, rfl, rfl, rfl, rfl⟩
theorem pPrL.ro {Rel : pG → Prop} {Mc Mr : Nat} {as : List pV} (h : ∀ G, Rel G → ∃ r, pRuns pMT 59 Mc (pR 0 :: as) Yc G (some (pL r)) G ∧ pRuns pMT 59 Mr (pR 109 :: as) Yc G (some (pL r)) G) : pPrL Rel Mc Mr as := fun G hR => by
  obtain ⟨r, h1, h2⟩ := h G hR
  exact ⟨r, G, G, h1, h2, hR, rfl, rfl, rfl, rfl⟩
/-- fault(what) -/
theorem s131 {d : Nat} {G : pG} {x : Int} : pRuns pMT d 131 [pR 0, pI x] Yc G (some (pI (if x = 0 then G 12 3 else if x = 1 then G 12 4 else -1))) G := by
  refine pRuns.of rfl rfl (v131_0 ⟨fun h => ?_, fun h => ⟨fun h1 => ?_, fun h1 => ?_⟩⟩)
  · exact ⟨by rw [if_pos h], rfl⟩
  · exact ⟨by rw [if_neg h, if_pos h1], rfl⟩
  · exact ⟨by rw [if_neg h, if_neg h1], rfl⟩
theorem s190 {d : Nat} {G : pG} {x : Int} : pRuns pMT d 190 [pR 109, pI x] Yc G (some (pI (if x = 0 then G 109 8 else if x = 1 then G 109 9 else -1))) G := by
  refine pRuns.of rfl rfl (v190_0 ⟨fun h => ⟨fun h1 => ?_, fun h1 => ?_⟩, fun h => ?_⟩)
  · exact ⟨by rw [if_neg h, if_neg h1], rfl⟩
  · exact ⟨by rw [if_neg h, if_pos h1], rfl⟩
  · exact ⟨by rw [if_pos h], rfl⟩
/-- the fault, as both hold it -/
def rFlt (G : pG) : Prop := G 12 3 = G 109 8 ∧ G 12 4 = G 109 9
theorem pr_fault {Rel : pG → Prop} (hF : ∀ G, Rel G → rFlt G) (x : Int) : pPr Rel 131 190 [pI x] := pPr.ro fun G hR => ⟨_, s131, by rw [(hF G hR).1, (hF G hR).2]; exact s190⟩
