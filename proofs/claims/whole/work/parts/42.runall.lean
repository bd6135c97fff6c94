theorem inv_s {Y : pY} {G : pG} {rc M n : Nat} {c : Int} {pc : Nat} {loc stk : List pV} {z : pO} (h : pstep Y G (.invokestatic rc, 3, M, n, c) pc loc stk = some z) : ∃ as st, z = .inr (.inl (M, as, st)) := by
  obtain ⟨q, -, h2⟩ := k_op_s (o := ppop n stk []) h
  obtain ⟨-, h3⟩ := bif_s h2
  exact ⟨q.1, q.2, (Option.some.inj h3).symm⟩
theorem pent1_b {K rt : Nat} {ini : Bool} {e0 : pE} (h1 : pent1 K rt ini (some e0) = true) : ∀ i, e0.1 = .getfield i ∨ e0.1 = .putfield i → e0.2.2.2.1 ≠ 999 := by
  intro i hi
  obtain ⟨q, len, a, b, c⟩ := e0
  rcases hi with hi | hi
  · have hi : q = .getfield i := hi
    subst hi
    have h2 := Nat.le_of_ble_eq_true h1
    show b ≠ 999
    omega
  · have hi : q = .putfield i := hi
    subst hi
    have h1 : (Nat.ble b 12 && (!(c == 2) || (ini && Nat.beq b K))) = true := h1
    rw [Bool.and_eq_true] at h1
    have h2 := Nat.le_of_ble_eq_true h1.1
    show b ≠ 999
    omega
theorem pent1_f {K rt : Nat} {ini : Bool} {len a b : Nat} (h1 : pent1 K rt ini (some (.putfield 0, len, a, b, 2)) = true) : ini = true ∧ b = K := by
  have h1 : (Nat.ble b 12 && (!((2 : Int) == 2) || (ini && Nat.beq b K))) = true := h1
  rw [Bool.and_eq_true] at h1
  have h2 : (ini && Nat.beq b K) = true := h1.2
  rw [Bool.and_eq_true] at h2
  exact ⟨h2.1, beq_e h2.2⟩
set_option maxHeartbeats 4000000 in
/-- what the pure machine does, the kit's does -/
theorem run_all (hR : pRows) (hAO : pAOM) : ∀ f, pRunP f := by
  intro f
  induction f with
  | zero =>
    intro p l e R s m args below meth c Q D A sx n0 s0 ws0 d M pc loc stk Y G res Y' G' mi h
    exact absurd h (by simp [pexec])
  | succ f ih =>
    intro p l e R s m args below meth c Q D A sx n0 s0 ws0 d M pc loc stk Y G res Y' G' mi h hM hX hsc hnm hYk hr1 hr2 hret
    rw [pexec, hM] at h
    dsimp only at h
    cases hl : plook mi.1 pc with
    | none => rw [hl] at h; exact absurd h (by simp)
    | some e0 =>
      rw [hl] at h
      dsimp only at h
      obtain ⟨hok1, hok2, hok3, hok4⟩ := pMT_ok hM
      obtain ⟨r, len, hd, hp⟩ := plook_at hok1 hl
      have htk := ptok_at hok4 hl
      rcases ptr_cls hp with ⟨rfl, rfl, he0⟩ | ⟨rfl, rfl, he0⟩ | ⟨rfl, rfl, he0⟩ | ⟨way, i, M1, hway, rfl, hlk, hcal⟩ | hgo
      · cases hs : pstep Y G e0 pc loc stk with
        | none => rw [hs] at h; exact absurd h (by simp)
        | some z =>
          have hs' := hs
          rw [he0] at hs'
          obtain ⟨x, rfl, rfl, h01⟩ := iret_s hs'
          rw [hs] at h
          cases h
          intro H locs ws tys ls st cells slots hW hA hl2 hst hc1 hc2
          obtain ⟨y, st1, rfl, hy, hst1⟩ := sR_i hst
          have hn := sR_n hst1
          subst hn
          refine hret pc H locs ws tys ls _ cells slots hW hA hc1 hc2 ⟨y, hd, rfl, hy, ?_⟩
          rw [he0] at htk
          have htk : (Nat.beq mi.2.2 1 || Nat.beq mi.2.2 3) = true := htk
          rw [Bool.or_eq_true] at htk
          rcases htk with q | q
          · exact Or.inl (beq_e q)
          · exact Or.inr ⟨beq_e q, h01 (by rw [q]; rfl)⟩
      · cases hs : pstep Y G e0 pc loc stk with
        | none => rw [hs] at h; exact absurd h (by simp)
        | some z =>
          have hs' := hs
          rw [he0] at hs'
          obtain ⟨x, rfl, rfl⟩ := lret_s hs'
          rw [hs] at h
          cases h
          intro H locs ws tys ls st cells slots hW hA hl2 hst hc1 hc2
          obtain ⟨y, st1, rfl, hy, hst1⟩ := sR_l hst
          have hn := sR_n hst1
          subst hn
          refine hret pc H locs ws tys ls _ cells slots hW hA hc1 hc2 ⟨y, hd, rfl, hy, ?_⟩
          rw [he0] at htk
          exact beq_e htk
      · cases hs : pstep Y G e0 pc loc stk with
        | none => rw [hs] at h; exact absurd h (by simp)
        | some z =>
          have hs' := hs
          rw [he0] at hs'
          obtain ⟨rfl, rfl⟩ := vret_s hs'
          rw [hs] at h
          cases h
          intro H locs ws tys ls st cells slots hW hA hl2 hst hc1 hc2
          have hn := sR_n hst
          subst hn
          refine hret pc H locs ws tys ls _ cells slots hW hA hc1 hc2 ⟨hd, rfl, ?_⟩
          rw [he0] at htk
          exact beq_e htk
      · obtain ⟨w, hw, hwy, he0⟩ := pcalM_s hcal
        cases hs : pstep Y G e0 pc loc stk with
        | none => rw [hs] at h; exact absurd h (by simp)
        | some z =>
          have hs' := hs
          rw [he0] at hs'
          obtain ⟨as, st0, rfl⟩ := inv_s hs'
          rw [hs] at h
          dsimp only at h
          cases d with
          | zero => exact absurd h (by simp)
          | succ d1 =>
            dsimp only at h
            cases hm : pMT M1 with
            | none => rw [hm] at h; exact absurd h (by simp)
            | some mc =>
              rw [hm] at h
              dsimp only at h
              obtain ⟨hk, h⟩ := bif_s h
              cases hc : pexec pMT f d1 M1 0 (pent as mc.2.1) [] Y G with
              | none => rw [hc] at h; exact absurd h (by simp)
              | some q =>
                obtain ⟨r1, Y1, G1⟩ := q
                rw [hc] at h
                dsimp only at h
                have hh1 := pexec_hi _ _ _ _ _ _ _ _ _ _ _ hc
                have hh2 := pexec_hi _ _ _ _ _ _ _ _ _ _ _ h
                exact sim_call ih hAO hX hway hlk hcal hd hs hm (Nat.le_of_ble_eq_true hk) hc hYk (by have := hh2.1; omega) (by have := hh2.2.1; omega) (ih p l e R s m args below meth c Q D A sx n0 s0 ws0 (d1 + 1) M (pc + 3) loc (r1.toList ++ st0) Y1 G1 res Y' G' mi h hM hX (fun q => (hsc q).mv (hh1.2.2 hYk).2) hnm (hh1.2.2 hYk).1 hr1 hr2 hret)
      · cases hs : pstep Y G e0 pc loc stk with
        | none => rw [hs] at h; exact absurd h (by simp)
        | some z =>
          obtain ⟨⟨pc1, loc1, stk1, Y1, G1⟩, rfl⟩ := pI1_step hgo z hs
          rw [hs] at h
          dsimp only at h
          have hh1 := pH_step (pent1_b htk) _ _ _ _ _ hs
          have hh2 := pexec_hi _ _ _ _ _ _ _ _ _ _ _ h
          exact sim_step hR hX (fun q _ => hsc q) (fun a b he => by
            rw [he] at htk
            obtain ⟨g1, g2⟩ := pent1_f htk
            exact ⟨hnm g1, g2⟩) hd hp hs ⟨by have := hh2.1; omega, by have := hh2.2.1; omega⟩ (ih p l e R s m args below meth c Q D A sx n0 s0 ws0 d M pc1 loc1 stk1 Y1 G1 res Y' G' mi h hM hX (fun q => (hsc q).mv (hh1.2.2 hYk).2) hnm (hh1.2.2 hYk).1 hr1 hr2 hret)
