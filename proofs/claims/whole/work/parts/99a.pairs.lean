/-! all that holds between the calls -/
def Rel (G : pG) : Prop := rTape G ∧ rFlt G ∧ rPart G ∧ rPl G ∧ rPlan G ∧ rDisc G ∧ rCch G ∧ rFea G ∧ rOld G ∧ rCa G ∧ rGets G ∧ rWh G ∧ rTr G ∧ rGau G ∧ rFit G
theorem Rel.tape {G : pG} (h : Rel G) : rTape G := h.1
theorem Rel.flt {G : pG} (h : Rel G) : rFlt G := h.2.1
theorem Rel.part {G : pG} (h : Rel G) : rPart G := h.2.2.1
theorem Rel.pl {G : pG} (h : Rel G) : rPl G := h.2.2.2.1
theorem Rel.plan {G : pG} (h : Rel G) : rPlan G := h.2.2.2.2.1
theorem Rel.disc {G : pG} (h : Rel G) : rDisc G := h.2.2.2.2.2.1
theorem Rel.cch {G : pG} (h : Rel G) : rCch G := h.2.2.2.2.2.2.1
theorem Rel.fea {G : pG} (h : Rel G) : rFea G := h.2.2.2.2.2.2.2.1
theorem Rel.old {G : pG} (h : Rel G) : rOld G := h.2.2.2.2.2.2.2.2.1
theorem Rel.ca {G : pG} (h : Rel G) : rCa G := h.2.2.2.2.2.2.2.2.2.1
theorem Rel.gets {G : pG} (h : Rel G) : rGets G := h.2.2.2.2.2.2.2.2.2.2.1
theorem Rel.wh {G : pG} (h : Rel G) : rWh G := h.2.2.2.2.2.2.2.2.2.2.2.1
theorem Rel.tr {G : pG} (h : Rel G) : rTr G := h.2.2.2.2.2.2.2.2.2.2.2.2.1
theorem Rel.gau {G : pG} (h : Rel G) : rGau G := h.2.2.2.2.2.2.2.2.2.2.2.2.2.1
theorem Rel.fit {G : pG} (h : Rel G) : rFit G := h.2.2.2.2.2.2.2.2.2.2.2.2.2.2
theorem rFlt_dep : dep [12] [8, 9] rFlt := by
  intro G G' h1 h2 h
  unfold rFlt at *
  rw [h1 12 (by decide), h2 8 (by decide), h2 9 (by decide)]
  exact h
theorem rPlan_dep : dep [22, 23, 152] [11, 34] rPlan := by
  intro G G' h1 h2 h
  unfold rPlan at *
  rw [h1 22 (by decide), h1 23 (by decide), h1 152 (by decide), h2 11 (by decide), h2 34 (by decide)]
  exact h
theorem rFea_dep : dep [112, 114, 115, 116, 117, 118, 152] [11] rFea := by
  intro G G' h1 h2 h
  obtain ⟨e1, e2, e3⟩ := pl_cc (G := G) (G' := G') (fun c hc => h1 c (by revert hc; revert c; decide))
  unfold rFea at *
  rw [e1, e2, e3, h1 152 (by decide), h2 11 (by decide)]
  exact h
theorem rGets_dep : dep [49, 157] [10] rGets := by
  intro G G' h1 h2 h
  unfold rGets at *
  rw [h1 49 (by decide), h1 157 (by decide), h2 10 (by decide)]
  exact h
theorem rWh_dep : dep [73, 74, 160] [49] rWh := by
  intro G G' h1 h2 h
  unfold rWh at *
  rw [h1 73 (by decide), h1 74 (by decide), h1 160 (by decide), h2 49 (by decide)]
  exact h
theorem rTr_dep : dep [73, 76, 77, 162, 163] [50, 56, 57] rTr := by
  intro G G' h1 h2 h
  unfold rTr at *
  rw [h1 73 (by decide), h1 76 (by decide), h1 77 (by decide), h1 162 (by decide), h1 163 (by decide), h2 50 (by decide), h2 56 (by decide), h2 57 (by decide)]
  exact h
theorem rGau_dep : dep [80, 81, 82, 83, 84, 85, 86, 87, 165, 166, 167, 168, 169, 170, 171] [60, 61, 62, 11] rGau := by
  intro G G' h1 h2 h
  exact rGau_mv h (fun c hc => h1 c (by revert hc; revert c; decide)) (fun j hj => h2 j (by revert hj; revert j; decide)) (by rw [h1 80 (by decide)]) (by rw [h1 80 (by decide)]) (by rw [h1 80 (by decide)])
theorem rFit_dep : dep [92, 93, 94, 95, 96, 97, 98, 99, 115, 165, 166, 167, 168, 169, 170, 171] [10, 11, 60, 61] rFit := by
  intro G G' h1 h2 h
  exact rFit_mv h (fun c hc => h1 c (by revert hc; revert c; decide)) (fun j hj => h2 j (by revert hj; revert j; decide))
theorem vMn_cg {o o' w : Nat → Int} (h : ∀ m : Nat, m < 100 → o' m = o m) (s : Int) (r : Nat) : ∀ n : Nat, vMn s o' w r n = vMn s o w r n
  | 0 => rfl
  | n + 1 => by
    unfold vMn
    rw [vMn_cg h s r n, h _ (Nat.mod_lt _ (by omega))]
theorem vBt_cg {o o' w : Nat → Int} (h : ∀ m : Nat, m < 100 → o' m = o m) : ∀ n : Nat, vBt o' w n = vBt o w n
  | 0 => rfl
  | n + 1 => by
    unfold vBt vB
    rw [vBt_cg h n, vMn_cg h]
theorem vSu_cg {o o' w : Nat → Int} (h : ∀ m : Nat, m < 100 → o' m = o m) : ∀ n : Nat, n ≤ 100 → vSu o' w n = vSu o w n
  | 0, _ => rfl
  | n + 1, hn => by
    unfold vSu
    rw [vSu_cg h n (by omega), h n (by omega)]
theorem rCa_ca {G G' : pG} (f : fr [1, 45, 46, 47, 48, 52, 53, 54, 55, 56, 57, 155, 156] [1] G G') (h : caMv G G') (hC : rCa G) : rCa G' := by
  have eW : ∀ t m : Nat, vWd G' t m = vWd G t m := fun t m => vDsc_c (fun c hc => f.1 c (by revert hc; revert c; decide) (by revert hc; revert c; decide)) (fun j hj => f.2 j (by revert hj; revert j; decide)) _ _
  have eW' : ∀ t : Nat, vWd G' t = vWd G t := fun t => funext (eW t)
  intro t k ht6 ht hk
  rw [f.f 10 (by decide)] at ht
  have old := hC t k ht6 ht hk
  have e59 : G' (59 + t) = G (59 + t) := f.c (59 + t) ⟨by simp; omega, by omega⟩
  have e66 : G' (66 + t) = G (66 + t) := f.c (66 + t) ⟨by simp; omega, by omega⟩
  have same : G' (52 + t) k = G (52 + t) k → (∀ m : Nat, m < 100 → vO G' k m = vO G k m) → rCa1 G' t k := fun a b => by
    have b1 : vFt G' t k = vFt G t k := by
      unfold vFt
      rw [eW' t, vBt_cg b]
    have b2 : vFs G' t k = vFs G t k := by
      unfold vFs
      rw [b1, eW' t, vSu_cg b 100 (Nat.le_refl _)]
    unfold rCa1 at *
    rw [a, e59, e66, b1, b2]
    exact old
  rcases h with ⟨h1, h2⟩ | ⟨k', hk', h1, h2⟩
  · exact same (by rw [h2 t ht6]) (fun m _ => by unfold vO; rw [h1])
  · by_cases e : k = k'
    · subst e
      exact Or.inl (h1 t ht6).1
    · exact same ((h1 t ht6).2 k e) (fun m hm => h2 k m hk hm e)
theorem rl_feed (a1 a2 a3 a4 a5 : Int) : pPr Rel 128 186 [pI a1, pI a2, pI a3, pI a4, pI a5] := (pr_feed a1 a2 a3 a4 a5).pr (by decide) (fun G h => h.tape) (fun G G' h f p => ⟨p, f.mv rFlt_dep (by decide) (by decide) h.flt, f.mv rPart_dep (by decide) (by decide) h.part, f.mv rPl_dep (by decide) (by decide) h.pl, f.mv rPlan_dep (by decide) (by decide) h.plan, f.mv rDisc_dep (by decide) (by decide) h.disc, f.mv rCch_dep (by decide) (by decide) h.cch, f.mv rFea_dep (by decide) (by decide) h.fea, f.mv rOld_dep (by decide) (by decide) h.old, f.mv rCa_dep (by decide) (by decide) h.ca, f.mv rGets_dep (by decide) (by decide) h.gets, f.mv rWh_dep (by decide) (by decide) h.wh, f.mv rTr_dep (by decide) (by decide) h.tr, f.mv rGau_dep (by decide) (by decide) h.gau, f.mv rFit_dep (by decide) (by decide) h.fit⟩)
theorem rl_end (x : Int) : pPr Rel 129 188 [pI x] := (pr_end x).pr (by decide) (fun G h => h.tape) (fun G G' h f p => ⟨p, f.mv rFlt_dep (by decide) (by decide) h.flt, f.mv rPart_dep (by decide) (by decide) h.part, f.mv rPl_dep (by decide) (by decide) h.pl, f.mv rPlan_dep (by decide) (by decide) h.plan, f.mv rDisc_dep (by decide) (by decide) h.disc, f.mv rCch_dep (by decide) (by decide) h.cch, f.mv rFea_dep (by decide) (by decide) h.fea, f.mv rOld_dep (by decide) (by decide) h.old, f.mv rCa_dep (by decide) (by decide) h.ca, f.mv rGets_dep (by decide) (by decide) h.gets, f.mv rWh_dep (by decide) (by decide) h.wh, f.mv rTr_dep (by decide) (by decide) h.tr, f.mv rGau_dep (by decide) (by decide) h.gau, f.mv rFit_dep (by decide) (by decide) h.fit⟩)
theorem rl_cause (n y : Int) : pPr Rel 158 252 [pI n, pI y] := (pr_cause n y).pr (by decide) (fun G h => h.part) (fun G G' h f _ => ⟨f.mv rTape_dep (by decide) (by decide) h.tape, f.mv rFlt_dep (by decide) (by decide) h.flt, f.mv rPart_dep (by decide) (by decide) h.part, f.mv rPl_dep (by decide) (by decide) h.pl, f.mv rPlan_dep (by decide) (by decide) h.plan, f.mv rDisc_dep (by decide) (by decide) h.disc, f.mv rCch_dep (by decide) (by decide) h.cch, f.mv rFea_dep (by decide) (by decide) h.fea, f.mv rOld_dep (by decide) (by decide) h.old, f.mv rCa_dep (by decide) (by decide) h.ca, f.mv rGets_dep (by decide) (by decide) h.gets, f.mv rWh_dep (by decide) (by decide) h.wh, f.mv rTr_dep (by decide) (by decide) h.tr, f.mv rGau_dep (by decide) (by decide) h.gau, f.mv rFit_dep (by decide) (by decide) h.fit⟩)
theorem rl_tells (n i s : Int) : pPr Rel 159 253 [pI n, pI i, pI s] := (pr_tells n i s).pr (by decide) (fun G h => h.part) (fun G G' h f _ => ⟨f.mv rTape_dep (by decide) (by decide) h.tape, f.mv rFlt_dep (by decide) (by decide) h.flt, f.mv rPart_dep (by decide) (by decide) h.part, f.mv rPl_dep (by decide) (by decide) h.pl, f.mv rPlan_dep (by decide) (by decide) h.plan, f.mv rDisc_dep (by decide) (by decide) h.disc, f.mv rCch_dep (by decide) (by decide) h.cch, f.mv rFea_dep (by decide) (by decide) h.fea, f.mv rOld_dep (by decide) (by decide) h.old, f.mv rCa_dep (by decide) (by decide) h.ca, f.mv rGets_dep (by decide) (by decide) h.gets, f.mv rWh_dep (by decide) (by decide) h.wh, f.mv rTr_dep (by decide) (by decide) h.tr, f.mv rGau_dep (by decide) (by decide) h.gau, f.mv rFit_dep (by decide) (by decide) h.fit⟩)
theorem rl_gauge (a b c e : Int) : pPr Rel 155 241 [pI a, pI b, pI c, pI e] := (pr_gauge a b c e).pr (by decide) (fun G h => ⟨h.part, h.gau⟩) (fun G G' h f p => p.elim (fun q => by rw [q]; exact h) (fun q => ⟨f.mv rTape_dep (by decide) (by decide) h.tape, f.mv rFlt_dep (by decide) (by decide) h.flt, f.mv rPart_dep (by decide) (by decide) h.part, f.mv rPl_dep (by decide) (by decide) h.pl, f.mv rPlan_dep (by decide) (by decide) h.plan, f.mv rDisc_dep (by decide) (by decide) h.disc, f.mv rCch_dep (by decide) (by decide) h.cch, f.mv rFea_dep (by decide) (by decide) h.fea, f.mv rOld_dep (by decide) (by decide) h.old, f.mv rCa_dep (by decide) (by decide) h.ca, f.mv rGets_dep (by decide) (by decide) h.gets, f.mv rWh_dep (by decide) (by decide) h.wh, f.mv rTr_dep (by decide) (by decide) h.tr, q.1, Or.inl q.2⟩))
theorem rl_right (a k e : Int) : pPr Rel 156 242 [pI a, pI k, pI e] := (pr_right a k e).pr (by decide) (fun G h => h.gau) (fun G G' h f p => p.elim (fun q => by rw [q]; exact h) (fun q => ⟨f.mv rTape_dep (by decide) (by decide) h.tape, f.mv rFlt_dep (by decide) (by decide) h.flt, f.mv rPart_dep (by decide) (by decide) h.part, f.mv rPl_dep (by decide) (by decide) h.pl, f.mv rPlan_dep (by decide) (by decide) h.plan, f.mv rDisc_dep (by decide) (by decide) h.disc, f.mv rCch_dep (by decide) (by decide) h.cch, f.mv rFea_dep (by decide) (by decide) h.fea, f.mv rOld_dep (by decide) (by decide) h.old, f.mv rCa_dep (by decide) (by decide) h.ca, f.mv rGets_dep (by decide) (by decide) h.gets, f.mv rWh_dep (by decide) (by decide) h.wh, f.mv rTr_dep (by decide) (by decide) h.tr, q.1, Or.inl q.2⟩))
theorem rl_old (x : Int) : pPr Rel 141 218 [pI x] := (pr_old x).pr (by decide) (fun G h => ⟨h.tape, h.old⟩) (fun G G' h f p => ⟨p.1, f.mv rFlt_dep (by decide) (by decide) h.flt, f.mv rPart_dep (by decide) (by decide) h.part, f.mv rPl_dep (by decide) (by decide) h.pl, f.mv rPlan_dep (by decide) (by decide) h.plan, f.mv rDisc_dep (by decide) (by decide) h.disc, f.mv rCch_dep (by decide) (by decide) h.cch, f.mv rFea_dep (by decide) (by decide) h.fea, p.2.1, rCa_ca f p.2.2 h.ca, f.mv rGets_dep (by decide) (by decide) h.gets, f.mv rWh_dep (by decide) (by decide) h.wh, f.mv rTr_dep (by decide) (by decide) h.tr, f.mv rGau_dep (by decide) (by decide) h.gau, f.mv rFit_dep (by decide) (by decide) h.fit⟩)
theorem rl_keep (t x b : Int) : pPr Rel 143 220 [pI t, pI x, pI b] := (pr_keep t x b).pr (by decide) (fun G h => ⟨h.part, h.pl, h.disc, h.old⟩) (fun G G' h f p => ⟨f.mv rTape_dep (by decide) (by decide) h.tape, f.mv rFlt_dep (by decide) (by decide) h.flt, f.mv rPart_dep (by decide) (by decide) h.part, f.mv rPl_dep (by decide) (by decide) h.pl, f.mv rPlan_dep (by decide) (by decide) h.plan, f.mv rDisc_dep (by decide) (by decide) h.disc, f.mv rCch_dep (by decide) (by decide) h.cch, f.mv rFea_dep (by decide) (by decide) h.fea, p.1, rCa_ca (f.mono (by decide) (by decide)) p.2 h.ca, f.mv rGets_dep (by decide) (by decide) h.gets, f.mv rWh_dep (by decide) (by decide) h.wh, f.mv rTr_dep (by decide) (by decide) h.tr, f.mv rGau_dep (by decide) (by decide) h.gau, f.mv rFit_dep (by decide) (by decide) h.fit⟩)
theorem rl_file (x z y : Int) : pPr Rel 144 222 [pI x, pI z, pI y] := (pr_file x z y).pr (by decide) (fun G h => ⟨h.part, h.pl, h.disc, h.old, h.ca⟩) (fun G G' h f p => ⟨f.mv rTape_dep (by decide) (by decide) h.tape, f.mv rFlt_dep (by decide) (by decide) h.flt, f.mv rPart_dep (by decide) (by decide) h.part, f.mv rPl_dep (by decide) (by decide) h.pl, f.mv rPlan_dep (by decide) (by decide) h.plan, f.mv rDisc_dep (by decide) (by decide) h.disc, f.mv rCch_dep (by decide) (by decide) h.cch, f.mv rFea_dep (by decide) (by decide) h.fea, f.mv rOld_dep (by decide) (by decide) h.old, p, f.mv rGets_dep (by decide) (by decide) h.gets, f.mv rWh_dep (by decide) (by decide) h.wh, f.mv rTr_dep (by decide) (by decide) h.tr, f.mv rGau_dep (by decide) (by decide) h.gau, f.mv rFit_dep (by decide) (by decide) h.fit⟩)
theorem rl_share (x : Int) : pPr Rel 145 225 [pI x] := (pr_share x).pr (by decide) (fun G h => ⟨h.part, h.pl, h.disc, h.old, h.ca, h.gets⟩) (fun G G' h f p => ⟨f.mv rTape_dep (by decide) (by decide) h.tape, f.mv rFlt_dep (by decide) (by decide) h.flt, f.mv rPart_dep (by decide) (by decide) h.part, f.mv rPl_dep (by decide) (by decide) h.pl, f.mv rPlan_dep (by decide) (by decide) h.plan, f.mv rDisc_dep (by decide) (by decide) h.disc, f.mv rCch_dep (by decide) (by decide) h.cch, f.mv rFea_dep (by decide) (by decide) h.fea, f.mv rOld_dep (by decide) (by decide) h.old, p.1, p.2, f.mv rWh_dep (by decide) (by decide) h.wh, f.mv rTr_dep (by decide) (by decide) h.tr, f.mv rGau_dep (by decide) (by decide) h.gau, f.mv rFit_dep (by decide) (by decide) h.fit⟩)
theorem rl_train (a b x : Int) : pPr Rel 149 234 [pI a, pI b, pI x] := (pr_train a b x).pr (by decide) (fun G h => ⟨h.wh, h.tr⟩) (fun G G' h f p => ⟨f.mv rTape_dep (by decide) (by decide) h.tape, f.mv rFlt_dep (by decide) (by decide) h.flt, f.mv rPart_dep (by decide) (by decide) h.part, f.mv rPl_dep (by decide) (by decide) h.pl, f.mv rPlan_dep (by decide) (by decide) h.plan, f.mv rDisc_dep (by decide) (by decide) h.disc, f.mv rCch_dep (by decide) (by decide) h.cch, f.mv rFea_dep (by decide) (by decide) h.fea, f.mv rOld_dep (by decide) (by decide) h.old, f.mv rCa_dep (by decide) (by decide) h.ca, f.mv rGets_dep (by decide) (by decide) h.gets, p.1, p.2, f.mv rGau_dep (by decide) (by decide) h.gau, f.mv rFit_dep (by decide) (by decide) h.fit⟩)
theorem rl_spare (a b : Int) : pPr Rel 153 237 [pI a, pI b] := (pr_spare a b).pr (by decide) (fun G h => ⟨h.wh, h.tr⟩) (fun G G' h f p => ⟨f.mv rTape_dep (by decide) (by decide) h.tape, f.mv rFlt_dep (by decide) (by decide) h.flt, f.mv rPart_dep (by decide) (by decide) h.part, f.mv rPl_dep (by decide) (by decide) h.pl, f.mv rPlan_dep (by decide) (by decide) h.plan, f.mv rDisc_dep (by decide) (by decide) h.disc, f.mv rCch_dep (by decide) (by decide) h.cch, f.mv rFea_dep (by decide) (by decide) h.fea, f.mv rOld_dep (by decide) (by decide) h.old, f.mv rCa_dep (by decide) (by decide) h.ca, f.mv rGets_dep (by decide) (by decide) h.gets, p.1, p.2, f.mv rGau_dep (by decide) (by decide) h.gau, f.mv rFit_dep (by decide) (by decide) h.fit⟩)
theorem rl_byRow : pPr Rel 136 203 [] := (pr_byRow).pr (by decide) (fun G h => ⟨h.tape, h.part, h.cch⟩) (fun G G' h f p => ⟨p, f.mv rFlt_dep (by decide) (by decide) h.flt, f.mv rPart_dep (by decide) (by decide) h.part, f.mv rPl_dep (by decide) (by decide) h.pl, f.mv rPlan_dep (by decide) (by decide) h.plan, f.mv rDisc_dep (by decide) (by decide) h.disc, f.mv rCch_dep (by decide) (by decide) h.cch, f.mv rFea_dep (by decide) (by decide) h.fea, f.mv rOld_dep (by decide) (by decide) h.old, f.mv rCa_dep (by decide) (by decide) h.ca, f.mv rGets_dep (by decide) (by decide) h.gets, f.mv rWh_dep (by decide) (by decide) h.wh, f.mv rTr_dep (by decide) (by decide) h.tr, f.mv rGau_dep (by decide) (by decide) h.gau, f.mv rFit_dep (by decide) (by decide) h.fit⟩)
theorem rl_box : pPr Rel 147 227 [] := (pr_box).pr (by decide) (fun G h => ⟨h.tape, h.wh, h.tr⟩) (fun G G' h f p => ⟨p.1, f.mv rFlt_dep (by decide) (by decide) h.flt, f.mv rPart_dep (by decide) (by decide) h.part, f.mv rPl_dep (by decide) (by decide) h.pl, f.mv rPlan_dep (by decide) (by decide) h.plan, f.mv rDisc_dep (by decide) (by decide) h.disc, f.mv rCch_dep (by decide) (by decide) h.cch, f.mv rFea_dep (by decide) (by decide) h.fea, f.mv rOld_dep (by decide) (by decide) h.old, f.mv rCa_dep (by decide) (by decide) h.ca, f.mv rGets_dep (by decide) (by decide) h.gets, p.2.1, p.2.2, f.mv rGau_dep (by decide) (by decide) h.gau, f.mv rFit_dep (by decide) (by decide) h.fit⟩)
theorem rl_fit (a x : Int) : pPr Rel 157 257 [pI a, pI x] := (pr_fit a x).pr (by decide) (fun G h => ⟨h.part, h.gau, h.fit⟩) (fun G G' h f p => ⟨f.mv rTape_dep (by decide) (by decide) h.tape, f.mv rFlt_dep (by decide) (by decide) h.flt, f.mv rPart_dep (by decide) (by decide) h.part, f.mv rPl_dep (by decide) (by decide) h.pl, f.mv rPlan_dep (by decide) (by decide) h.plan, f.mv rDisc_dep (by decide) (by decide) h.disc, f.mv rCch_dep (by decide) (by decide) h.cch, f.mv rFea_dep (by decide) (by decide) h.fea, f.mv rOld_dep (by decide) (by decide) h.old, f.mv rCa_dep (by decide) (by decide) h.ca, f.mv rGets_dep (by decide) (by decide) h.gets, f.mv rWh_dep (by decide) (by decide) h.wh, f.mv rTr_dep (by decide) (by decide) h.tr, p.1, p.2⟩)
theorem rl_sWorn (a x : Int) : pPr Rel 160 259 [pI a, pI x] := (pr_sWorn a x).pr (by decide) (fun G h => ⟨h.part, h.gau, h.fit⟩) (fun G G' h f p => ⟨f.mv rTape_dep (by decide) (by decide) h.tape, f.mv rFlt_dep (by decide) (by decide) h.flt, f.mv rPart_dep (by decide) (by decide) h.part, f.mv rPl_dep (by decide) (by decide) h.pl, f.mv rPlan_dep (by decide) (by decide) h.plan, f.mv rDisc_dep (by decide) (by decide) h.disc, f.mv rCch_dep (by decide) (by decide) h.cch, f.mv rFea_dep (by decide) (by decide) h.fea, f.mv rOld_dep (by decide) (by decide) h.old, f.mv rCa_dep (by decide) (by decide) h.ca, f.mv rGets_dep (by decide) (by decide) h.gets, f.mv rWh_dep (by decide) (by decide) h.wh, f.mv rTr_dep (by decide) (by decide) h.tr, p.1, p.2⟩)
theorem rl_sDull (a x : Int) : pPr Rel 161 260 [pI a, pI x] := (pr_sDull a x).pr (by decide) (fun G h => ⟨h.part, h.gau, h.fit⟩) (fun G G' h f p => ⟨f.mv rTape_dep (by decide) (by decide) h.tape, f.mv rFlt_dep (by decide) (by decide) h.flt, f.mv rPart_dep (by decide) (by decide) h.part, f.mv rPl_dep (by decide) (by decide) h.pl, f.mv rPlan_dep (by decide) (by decide) h.plan, f.mv rDisc_dep (by decide) (by decide) h.disc, f.mv rCch_dep (by decide) (by decide) h.cch, f.mv rFea_dep (by decide) (by decide) h.fea, f.mv rOld_dep (by decide) (by decide) h.old, f.mv rCa_dep (by decide) (by decide) h.ca, f.mv rGets_dep (by decide) (by decide) h.gets, f.mv rWh_dep (by decide) (by decide) h.wh, f.mv rTr_dep (by decide) (by decide) h.tr, p.1, p.2⟩)
theorem rl_halt (a x : Int) : pPr Rel 163 264 [pI a, pI x] := (pr_halt a x).pr (by decide) (fun G h => ⟨h.part, h.gau, h.fit⟩) (fun G G' h f p => ⟨f.mv rTape_dep (by decide) (by decide) h.tape, f.mv rFlt_dep (by decide) (by decide) h.flt, f.mv rPart_dep (by decide) (by decide) h.part, f.mv rPl_dep (by decide) (by decide) h.pl, f.mv rPlan_dep (by decide) (by decide) h.plan, f.mv rDisc_dep (by decide) (by decide) h.disc, f.mv rCch_dep (by decide) (by decide) h.cch, f.mv rFea_dep (by decide) (by decide) h.fea, f.mv rOld_dep (by decide) (by decide) h.old, f.mv rCa_dep (by decide) (by decide) h.ca, f.mv rGets_dep (by decide) (by decide) h.gets, f.mv rWh_dep (by decide) (by decide) h.wh, f.mv rTr_dep (by decide) (by decide) h.tr, p.1, p.2⟩)
theorem rl_bin (a b x : Int) : pPr Rel 164 265 [pI a, pI b, pI x] := (pr_bin a b x).pr (by decide) (fun G h => ⟨h.part, h.gau, h.fit⟩) (fun G G' h f p => ⟨f.mv rTape_dep (by decide) (by decide) h.tape, f.mv rFlt_dep (by decide) (by decide) h.flt, f.mv rPart_dep (by decide) (by decide) h.part, f.mv rPl_dep (by decide) (by decide) h.pl, f.mv rPlan_dep (by decide) (by decide) h.plan, f.mv rDisc_dep (by decide) (by decide) h.disc, f.mv rCch_dep (by decide) (by decide) h.cch, f.mv rFea_dep (by decide) (by decide) h.fea, f.mv rOld_dep (by decide) (by decide) h.old, f.mv rCa_dep (by decide) (by decide) h.ca, f.mv rGets_dep (by decide) (by decide) h.gets, f.mv rWh_dep (by decide) (by decide) h.wh, f.mv rTr_dep (by decide) (by decide) h.tr, p.1, p.2⟩)
theorem rl_next : pPr Rel 162 262 [] := (pr_next).pr (by decide) (fun G h => ⟨h.part, h.gau, h.fit⟩) (fun G G' h f p => ⟨f.mv rTape_dep (by decide) (by decide) h.tape, f.mv rFlt_dep (by decide) (by decide) h.flt, f.mv rPart_dep (by decide) (by decide) h.part, f.mv rPl_dep (by decide) (by decide) h.pl, f.mv rPlan_dep (by decide) (by decide) h.plan, f.mv rDisc_dep (by decide) (by decide) h.disc, f.mv rCch_dep (by decide) (by decide) h.cch, f.mv rFea_dep (by decide) (by decide) h.fea, f.mv rOld_dep (by decide) (by decide) h.old, f.mv rCa_dep (by decide) (by decide) h.ca, f.mv rGets_dep (by decide) (by decide) h.gets, f.mv rWh_dep (by decide) (by decide) h.wh, f.mv rTr_dep (by decide) (by decide) h.tr, p.1, p.2⟩)
theorem rl_part : pPr Rel 130 189 [] := (pr_part).pr (by decide) (fun G h => h.tape) (fun G G' h f p => p.2.2.elim (fun q => ⟨p.1, p.2.1, q.mv rPart_dep (by decide) (by decide) h.part, q.mv rPl_dep (by decide) (by decide) h.pl, q.mv rPlan_dep (by decide) (by decide) h.plan, q.mv rDisc_dep (by decide) (by decide) h.disc, q.mv rCch_dep (by decide) (by decide) h.cch, q.mv rFea_dep (by decide) (by decide) h.fea, q.mv rOld_dep (by decide) (by decide) h.old, q.mv rCa_dep (by decide) (by decide) h.ca, q.mv rGets_dep (by decide) (by decide) h.gets, q.mv rWh_dep (by decide) (by decide) h.wh, q.mv rTr_dep (by decide) (by decide) h.tr, q.mv rGau_dep (by decide) (by decide) h.gau, q.mv rFit_dep (by decide) (by decide) h.fit⟩) (fun q => ⟨p.1, p.2.1, q.1, q.2.1, q.2.2.1, q.2.2.2.1, q.2.2.2.2.1, q.2.2.2.2.2.1, f.mv rOld_dep (by decide) (by decide) h.old, q.2.2.2.2.2.2.1, q.2.2.2.2.2.2.2.1, f.mv rWh_dep (by decide) (by decide) h.wh, f.mv rTr_dep (by decide) (by decide) h.tr, q.2.2.2.2.2.2.2.2.1, q.2.2.2.2.2.2.2.2.2⟩))
/-- the law's loop: from its head it comes to 1 -/
theorem loop_ok : ∀ (n : Nat) (G : pG) (L : Nat) (x3 : Int), Rel G → G 498 0 = (L : Int) → L ≤ 3072 → (∀ j : Nat, j < L → inr (G 499 j)) → 0 ≤ x3 → x3 ≤ (L : Int) + 6 → (L : Int) + 7 ≤ x3 + n → pEnds pMT 60 268 Yc (fun r _ => r = some (pI 1)) 18 [pR 499, pR 0, pR 109, pI x3] [] G :=
  law_loop (Rel := Rel) (fun a b c d e _ _ _ _ _ => rl_feed a b c d e) (fun a _ => rl_end a) rl_part (fun a _ => pr_fault (fun _ h => h.flt) a) (fun a _ => pr_told (fun _ h => h.part) (fun _ h => ⟨h.wh.2.2.1, h.plan.1⟩) a) (fun a _ => pr_begin (fun _ h => h.part) (fun _ h => h.plan) a) (fun a _ => pr_held (fun _ h => ⟨h.part, h.pl, h.plan, h.cch, h.fea⟩) a) rl_byRow (fun a b _ _ => pr_height (fun _ h => ⟨h.part, h.pl, h.disc⟩) a b) (fun a b _ _ => pr_lobe (fun _ h => ⟨h.part, h.pl, h.disc⟩) a b) (fun a _ => pr_wrong (fun _ h => ⟨h.part, h.pl, h.disc⟩) a) (fun a _ => pr_slope (fun _ h => ⟨h.part, h.pl, h.disc⟩) a) (fun a _ => rl_old a) (fun a b _ _ => pr_was (fun _ h => h.old) a b) (fun a b c _ _ _ => rl_keep a b c) (fun a b c _ _ _ => rl_file a b c) (fun a _ => rl_share a) (fun a _ => pr_shared (fun _ h => h.part) (fun _ h => h.gets) a) rl_box (fun a _ => pr_teeth (fun _ h => h.wh) a) (fun a b c _ _ _ => rl_train a b c) (fun a _ => pr_wheel (fun _ h => h.tr) a) (fun b _ => pr_off (fun _ h => h.tr) b) (fun a b _ _ => rl_spare a b) (fun a b _ _ => pr_worn (fun _ h => h.tr) a b) (fun a b c d _ _ _ _ => rl_gauge a b c d) (fun a b c _ _ _ => rl_right a b c) (fun a b _ _ => rl_fit a b) (fun a b _ _ => rl_cause a b) (fun a b c _ _ _ => rl_tells a b c) (fun a b _ _ => rl_sWorn a b) (fun a b _ _ => rl_sDull a b) rl_next (fun a b _ _ => rl_halt a b) (fun a b c _ _ _ => rl_bin a b c) (fun a _ => pr_count (fun _ h => h.part) (fun _ h => ⟨h.gau.1.2.2, h.gau.2.1.2.2, h.tape.1⟩) a)
