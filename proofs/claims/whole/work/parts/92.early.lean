/-! the reference's plan -/
def aB (G : pG) (dp : Nat) (k l : Nat) : Bool := bt (G (127 + dp) k) l
def okR (G : pG) (S dp : Nat) : Prop := ∀ k : Nat, k < S → 0 ≤ G (127 + dp) k ∧ G (127 + dp) k < 128
theorem vTn_c {G G' : pG} (h : ∀ c ∈ [112, 115, 116, 117], G' c = G c) : vTn G' = vTn G := by
  funext k
  unfold vTn
  rw [h 112 (by decide), h 115 (by decide), h 116 (by decide), h 117 (by decide)]
theorem s194 {d : Nat} {G : pG} {S dp : Nat} (hP : rPart G) (hS : G 109 11 = (S : Int)) (hdp : dp < 24) (hR : okR G S dp) (hd : 1 ≤ d) : ∃ r G', pRuns pMT d 194 [pR 109, pI (dp : Int)] Yc G (some (pI r)) G' ∧ (fr [151] [] G G' ∧ ((r = -1 ∧ ∀ b, ¬ solA S (vTn G) (aB G dp) b) ∨ (r = plL S (vTn G) (G' 151) ∧ solA S (vTn G) (aB G dp) (G' 151) ∧ (∀ j, j < S → G' 151 j ≤ 9000000) ∧ ∀ b, solA S (vTn G) (aB G dp) b → ∀ k, k < S → G' 151 k ≤ b k))) := by
  have n1 := hP.n1
  obtain ⟨rw1, rw2, rw3⟩ := row126 dp hdp
  have hS7 : S ≤ 7 := by omega
  have ht : ∀ k, k < S → 1 ≤ vTn G k ∧ vTn G k ≤ 20099 := fun k hk => (vTn_bd hP (by omega)).2.2
  have inv : ∀ g, fr [151] [] G g → rPart g ∧ g 109 11 = (S : Int) ∧ g (127 + dp) = G (127 + dp) ∧ vTn g = vTn G := by
    intro g f
    refine ⟨f.mv rPart_dep (by decide) (by decide) hP, by rw [f.f 11 (by decide)]; exact hS, f.1 _ (by simp; omega) (by omega), vTn_c (fun c hc => f.1 c (by revert hc; revert c; decide) (by revert hc; revert c; decide))⟩
  refine pX1 rfl rfl (v194_0 ?_)
  obtain ⟨Q, hQ⟩ : ∃ Q : Option pV → pG → Prop, Q = (fun r g => ∃ v : Int, r = some (pI v) ∧ (fr [151] [] G g ∧ ((v = -1 ∧ ∀ b, ¬ solA S (vTn G) (aB G dp) b) ∨ (v = plL S (vTn G) (g 151) ∧ solA S (vTn G) (aB G dp) (g 151) ∧ (∀ j, j < S → g 151 j ≤ 9000000) ∧ ∀ b, solA S (vTn G) (aB G dp) b → ∀ k, k < S → g 151 k ≤ b k)))) := ⟨_, rfl⟩
  rw [← hQ]
  -- the end of it
  have LAST : ∀ g, fr [151] [] G g → (∀ j, j < S → 0 ≤ g 151 j ∧ g 151 j ≤ 9000000) → (∀ j, j < S → tght S (vTn G) (aB G dp) (g 151) j) → (∀ b, solA S (vTn G) (aB G dp) b → ∀ j, j < S → g 151 j ≤ b j) → pEnds pMT d 194 Yc Q 161 [pR 109, pU, pU, pI 0, pI 0, pU] [] g := by
    intro g f b1 b2 b3
    obtain ⟨hPg, hSg, -, eT⟩ := inv g f
    have H : ∀ (m k : Nat), k + m = S → pEnds pMT d 194 Yc Q 161 [pR 109, pU, pU, pI (mxN (fun k => g 151 k + vTn G k) k), pI (k : Int), pU] [] g := by
      intro m
      induction m with
      | zero =>
        intro k hk
        obtain rfl : k = S := by omega
        refine v194_161 ⟨fun _ => ?_, fun z => by omega⟩
        rw [hQ]
        exact ⟨_, rfl, f, Or.inr ⟨rfl, ⟨fun j hj => (b1 j hj).1, fun k l hk hl ha => b2 k hk l hl ha⟩, fun j hj => (b1 j hj).2, b3⟩⟩
      | succ m ih =>
        intro k hk
        have b := b1 k (by omega)
        have tk := ht k (by omega)
        refine v194_161 ⟨fun z => by omega, fun _ => ⟨by omega, by omega, pC1.of hd (s192 hPg (by omega)) ?_⟩⟩
        rw [eT, Int.toNat_natCast, pmx_eq, w32_id (x := g 151 k + vTn G k) (by omega) (by omega), w32_id (by omega) (by omega)]
        rintro _ rfl _ rfl
        exact ih (k + 1) (by omega)
    exact H S 0 (by omega)
  have RND : ∀ (m r : Nat) (g : pG) (x : Int), r + m = S + 1 → fr [151] [] G g → eR S (vTn G) (aB G dp) r (g 151) x → pEnds pMT d 194 Yc Q 27 [pR 109, pI (dp : Int), pI x, pI (r : Int), pU, pU] [] g := by
    intro m
    induction m with
    | zero =>
      intro r g x hr f h
      obtain ⟨hPg, hSg, -, eT⟩ := inv g f
      obtain ⟨h1, h2, h3, h4⟩ := h
      refine v194_27 ⟨fun _ => ⟨fun z => ?_, fun z => ?_⟩, fun z => by omega⟩
      · rintro _ rfl _ rfl
        exact LAST g f (fun j hj => by have := h1 j hj; omega) (h3 z) (fun b hb => (h4 b hb).1)
      · rw [hQ]
        refine ⟨-1, rfl, f, Or.inl ⟨rfl, fun b hb => ?_⟩⟩
        have := (h4 b hb).2.2 (by omega)
        omega
    | succ m ih =>
      intro r g x hr f h
      obtain ⟨hPg, hSg, -, eT⟩ := inv g f
      have hh := h
      obtain ⟨h1, h2, h3, h4⟩ := h
      have stop : x = 0 → ∀ x3 : Int, x3 = 0 → ∀ x4 : Int, x4 = 0 → pEnds pMT d 194 Yc Q 161 [pR 109, pU, pU, pI x3, pI x4, pU] [] g := by
        intro z
        rintro _ rfl _ rfl
        exact LAST g f (fun j hj => by have := h1 j hj; omega) (h3 z) (fun b hb => (h4 b hb).1)
      refine v194_27 ⟨fun z => by omega, fun _ => ⟨fun z => ⟨fun _ => stop z, fun y => absurd z y⟩, fun z => ?_⟩⟩
      obtain ⟨e0, he0⟩ : ∃ e0, e0 = g 151 := ⟨_, rfl⟩
      have h0 : ∀ b, solA S (vTn G) (aB G dp) b → ∀ j, j < S → rkB S b j < r → tght S (vTn G) (aB G dp) e0 j := fun b hb => by rw [he0]; exact (h4 b hb).2.1
      have OUT : ∀ (n k : Nat) (g : pG) (x : Int), k + n = S → fr [151] [] G g → eI S (vTn G) (aB G dp) e0 r k 0 (g 151) x → pEnds pMT d 194 Yc Q 44 [pR 109, pI (dp : Int), pI x, pI (r : Int), pI (k : Int), pU] [] g := by
        intro n
        induction n with
        | zero =>
          intro k g x hk f h
          obtain ⟨hPg, hSg, -, eT⟩ := inv g f
          obtain rfl : k = S := by omega
          refine v194_44 ⟨fun _ => ?_, fun z => by omega⟩
          rw [w32_id (by omega) (by omega)]
          rintro _ rfl
          exact ih (r + 1) g x (by omega) f (eI_R hS7 h)
        | succ n ihn =>
          intro k g x hk f h
          obtain ⟨hPg, hSg, -, eT⟩ := inv g f
          refine v194_44 ⟨fun z => by omega, fun _ => ?_⟩
          have IN : ∀ (n' l : Nat) (g : pG) (x : Int), l + n' = S → fr [151] [] G g → eI S (vTn G) (aB G dp) e0 r k l (g 151) x → pEnds pMT d 194 Yc Q 56 [pR 109, pI (dp : Int), pI x, pI (r : Int), pI (k : Int), pI (l : Int)] [] g := by
            intro n'
            induction n' with
            | zero =>
              intro l g x hl f h
              obtain ⟨hPg, hSg, -, eT⟩ := inv g f
              obtain rfl : l = S := by omega
              refine v194_56 ⟨fun _ => ?_, fun z => by omega⟩
              rw [w32_id (by omega) (by omega)]
              rintro _ rfl
              exact ihn (k + 1) g x (by omega) f (eI_k hS7 (by omega) h)
            | succ n' ihl =>
              intro l g x hl f h
              obtain ⟨hPg, hSg, eRw, eT⟩ := inv g f
              have rb := hR k (by omega)
              have el := h.1 l (by omega)
              have ek := h.1 k (by omega)
              have tl := ht l (by omega)
              refine v194_56 ⟨fun z => by omega, fun _ => ⟨by omega, by omega, 127 + dp, by rw [Int.toNat_natCast]; exact rw1, ?_⟩⟩
              rw [rw2, rw3]
              show 0 ≤ (k : Int) ∧ (k : Int) < 7 ∧ _
              refine ⟨by omega, by omega, ?_⟩
              rw [Int.toNat_natCast, eRw, bit_i rb.1 (by omega) (by omega), w32_id (x := (l : Int) + 1) (by omega) (by omega)]
              have nxt : (aB G dp k l = true → g 151 l + vTn G l ≤ g 151 k) → pEnds pMT d 194 Yc Q 56 [pR 109, pI (dp : Int), pI x, pI (r : Int), pI (k : Int), pI ((l + 1 : Nat) : Int)] [] g := fun hn => ihl (l + 1) g x (by omega) f (eI_n (by omega) h hn)
              refine ⟨fun z => ?_, fun z => ⟨by omega, by omega, pC1.of hd (s192 hPg (by omega)) ⟨by omega, by omega, ?_⟩⟩⟩
              · rintro _ rfl
                exact nxt (fun q => absurd q (b2i_0.mp z))
              · have ha : aB G dp k l = true := b2i_n0.mp z
                rw [Int.toNat_natCast, eT, w32_id (x := g 151 l + vTn G l) (by omega) (by omega)]
                refine ⟨fun y => ⟨by omega, by omega, pC1.of hd (s192 hPg (by omega)) ⟨by omega, by omega, ?_⟩⟩, fun y => ?_⟩
                · rw [eT, w32_id (x := g 151 l + vTn G l) (by omega) (by omega)]
                  rintro _ rfl _ rfl
                  refine ihl (l + 1) _ 1 (by omega) (f.trans (fr.set (by decide) (by decide) _ _ _)) ?_
                  have e1 : pset g 151 k (g 151 l + vTn G l) 151 = vUpd (g 151) k (g 151 l + vTn G l) := by
                    funext j
                    rw [pset_at, if_pos rfl]
                    rfl
                  rw [e1]
                  exact eI_y ht h0 (by omega) (by omega) h ha y
                · rintro _ rfl
                  exact nxt (fun _ => y)
          rintro _ rfl
          exact IN S 0 g x (by omega) f h
      rintro _ rfl _ rfl
      refine OUT S 0 g 0 (by omega) f ?_
      rw [he0]
      exact eR_I hh
  have ZER : ∀ (m k : Nat) (g : pG), k + m = S → fr [151] [] G g → (∀ j, j < k → g 151 j = 0) → pEnds pMT d 194 Yc Q 2 [pR 109, pI (dp : Int), pI (k : Int), pU, pU, pU] [] g := by
    intro m
    induction m with
    | zero =>
      intro k g hk f h
      obtain ⟨hPg, hSg, -, eT⟩ := inv g f
      obtain rfl : k = S := by omega
      refine v194_2 ⟨fun _ => ?_, fun z => by omega⟩
      rintro _ rfl _ rfl
      exact RND (k + 1) 0 g 1 (by omega) f (eR_0 k (vTn G) (aB G dp) h)
    | succ m ih =>
      intro k g hk f h
      obtain ⟨hPg, hSg, -, eT⟩ := inv g f
      refine v194_2 ⟨fun z => by omega, fun _ => ⟨by omega, by omega, ?_⟩⟩
      rw [w32_id (by omega) (by omega), Int.toNat_natCast]
      rintro _ rfl
      refine ih (k + 1) _ (by omega) (f.trans (fr.set (by decide) (by decide) _ _ _)) (fun j hj => ?_)
      rw [pset_at, if_pos rfl]
      split
      · rfl
      · exact h j (by omega)
  rintro _ rfl
  exact ZER S 0 G (by omega) (fr.refl _ _ _) (fun j hj => by omega)
theorem s195 {d : Nat} {G : pG} {S : Nat} {x : Int} (hS : G 109 11 = (S : Int)) (hS7 : S ≤ 7) : ∃ r : Int, pRuns pMT d 195 [pR 109, pI x] Yc G (some (pI r)) G ∧ ((r = 1 ∧ G 109 34 ≠ -1 ∧ plLe S (G 109 34) (G 152) x (G 151)) ∨ (r = 0 ∧ (G 109 34 = -1 ∨ plLe S x (G 151) (G 109 34) (G 152)))) := by
  have key : ∃ r G', pRuns pMT d 195 [pR 109, pI x] Yc G (some (pI r)) G' ∧ (G' = G ∧ ((r = 1 ∧ G 109 34 ≠ -1 ∧ plLe S (G 109 34) (G 152) x (G 151)) ∨ (r = 0 ∧ (G 109 34 = -1 ∨ plLe S x (G 151) (G 109 34) (G 152))))) := by
    refine pX1 rfl rfl (v195_0 ⟨fun z => ⟨fun y => ?_, fun y => ⟨fun w => ⟨Or.inl rfl, 0, rfl, rfl, Or.inr ⟨rfl, Or.inr (Or.inl (by omega))⟩⟩, fun w => ⟨Or.inr rfl, 1, rfl, rfl, Or.inl ⟨rfl, z, Or.inl w⟩⟩⟩⟩, fun z => ⟨Or.inl rfl, 0, rfl, rfl, Or.inr ⟨rfl, Or.inl z⟩⟩⟩)
    have H : ∀ (m k : Nat), k + m = S → (∀ j, j < k → G 151 j = G 152 j) → pEnds pMT d 195 Yc (fun r g => ∃ v : Int, r = some (pI v) ∧ (g = G ∧ ((v = 1 ∧ G 109 34 ≠ -1 ∧ plLe S (G 109 34) (G 152) x (G 151)) ∨ (v = 0 ∧ (G 109 34 = -1 ∨ plLe S x (G 151) (G 109 34) (G 152)))))) 34 [pR 109, pU, pI (k : Int)] [] G := by
      intro m
      induction m with
      | zero =>
        intro k hk h
        refine v195_34 ⟨fun _ => ⟨Or.inr rfl, 1, rfl, rfl, Or.inl ⟨rfl, z, Or.inr ⟨y.symm, Or.inr (fun j hj => (h j (by omega)).symm)⟩⟩⟩, fun w => by omega⟩
      | succ m ih =>
        intro k hk h
        refine v195_34 ⟨fun w => by omega, fun _ => ⟨by omega, by omega, by omega, by omega, ?_⟩⟩
        rw [Int.toNat_natCast, w32_id (by omega) (by omega)]
        refine ⟨fun w => ?_, fun w => ⟨by omega, by omega, by omega, by omega, fun v => ⟨Or.inl rfl, 0, rfl, rfl, Or.inr ⟨rfl, Or.inr (Or.inr ⟨y, Or.inl ⟨k, by omega, h, by omega⟩⟩)⟩⟩, fun v => ⟨Or.inr rfl, 1, rfl, rfl, Or.inl ⟨rfl, z, Or.inr ⟨y.symm, Or.inl ⟨k, by omega, fun j hj => (h j hj).symm, v⟩⟩⟩⟩⟩⟩
        rintro _ rfl
        refine ih (k + 1) (by omega) (fun j hj => ?_)
        by_cases e : j = k
        · subst e; exact w
        · exact h j (by omega)
    rintro _ rfl
    exact H S 0 (by omega) (fun j hj => by omega)
  obtain ⟨r, G', r1, r2, r3⟩ := key
  rw [r2] at r1
  exact ⟨r, r1, r3⟩
