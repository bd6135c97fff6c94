/-- a run of one frame up to a place, without the script -/
def pnsc (q : Instr) : Bool := match q with
  | .faload => false
  | .fastore => false
  | .iaload => false
  | .arraylength => false
  | _ => true
def ppref (F : Nat) : Nat → Nat → Nat → Nat → Nat → List pV → List pV → pY → pG → Option (List pV × List pV × pY × pG)
  | 0, _, _, _, _, _, _, _, _ => none
  | f + 1, d, M, tg, pc, loc, stk, Y, G => bif Nat.beq pc tg then some (loc, stk, Y, G) else match pMT M with
    | none => none
    | some mi => match plook mi.1 pc with
      | none => none
      | some e0 => bif pnsc e0.1 then (match pstep Y G e0 pc loc stk with
        | none => none
        | some (.inl (pc', loc', stk', Y', G')) => ppref F f d M tg pc' loc' stk' Y' G'
        | some (.inr (.inl (m, as, st))) => match d with
          | 0 => none
          | d' + 1 => match pMT m with
            | none => none
            | some mc => bif Nat.ble (pcat as) mc.2.1 then (match pexec pMT F d' m 0 (pent as mc.2.1) [] Y G with
              | none => none
              | some (r, Y', G') => ppref F f d M tg (pc + 3) loc (r.toList ++ st) Y' G') else none
        | some (.inr (.inr _)) => none) else none
theorem ptr_ns {K rt pc len : Nat} {r : Instr} {e0 : pE} (h : ptr K rt pc r len = some e0) (hn : pnsc e0.1 = true) : ¬ (r = .iaload ∨ r = .arraylength) := by
  intro hr
  obtain ⟨-, hp⟩ := ptr_l h
  rcases hr with rfl | rfl
  · have hp : some ((bif Nat.beq K 13 then Instr.faload else Instr.iaload), len, 0, 0, (0 : Int)) = some e0 := hp
    cases hK : Nat.beq K 13 with
    | true => rw [hK] at hp; cases hp; cases hn
    | false => rw [hK] at hp; cases hp; cases hn
  · have hp : some ((bif Nat.beq K 13 then Instr.fastore else Instr.arraylength), len, 0, 0, (0 : Int)) = some e0 := hp
    cases hK : Nat.beq K 13 with
    | true => rw [hK] at hp; cases hp; cases hn
    | false => rw [hK] at hp; cases hp; cases hn
set_option maxHeartbeats 4000000 in
theorem pref_ok (hR : pRows) (hAO : pAOM) {F : Nat} {p : Program} {l : Launch} {e : Env} {R : Room} {s : State} {m : MethodId} {args : Array Value} {below : List Frame} {meth : Method} {c : Code} {Q : State → Prop} {D : va_G} {A : Nat → Prop} {sx : Nat → Option Nat} {n0 s0 : Nat} {ws0 : va_W} {d M tg : Nat} {mi : pM} (hM : pMT M = some mi) (hX : pCx p R s m args c sx A (pKo M) mi.2.1 d (pcd M)) (hnm : pini M = true → meth.name = "<init>") {loc1 stk1 : List pV} {Y1 : pY} {G1 : pG} (hr1 : Y1.1.1 ≤ n0 + R.cells) (hr2 : Y1.1.2 ≤ s0 + R.slots) (kk : pKK p l e R s m args below meth c Q D A sx mi.2.1 n0 s0 ws0 tg loc1 stk1 Y1 G1) : ∀ (f pc : Nat) (loc stk : List pV) (Y : pY) (G : pG), ppref F f d M tg pc loc stk Y G = some (loc1, stk1, Y1, G1) → pYk Y → pKK p l e R s m args below meth c Q D A sx mi.2.1 n0 s0 ws0 pc loc stk Y G ∧ pHi Y G Y1 G1 := by
  intro f
  induction f with
  | zero => intro pc loc stk Y G h; exact absurd h (by simp [ppref])
  | succ f ih =>
    intro pc loc stk Y G h hYk
    rw [ppref] at h
    cases hpc : Nat.beq pc tg with
    | true =>
      rw [hpc] at h
      have hpc := beq_e hpc
      subst hpc
      cases h
      exact ⟨kk, pHi.rf _ _⟩
    | false =>
      rw [hpc, hM] at h
      dsimp only [cond_false] at h
      cases hl : plook mi.1 pc with
      | none => rw [hl] at h; exact absurd h (by simp)
      | some e0 =>
        rw [hl] at h
        dsimp only at h
        obtain ⟨hns, h⟩ := bif_s h
        obtain ⟨hok1, hok2, hok3, hok4⟩ := pMT_ok hM
        obtain ⟨r, len, hd, hp⟩ := plook_at hok1 hl
        have htk := ptok_at hok4 hl
        cases hs : pstep Y G e0 pc loc stk with
        | none => rw [hs] at h; exact absurd h (by simp)
        | some z =>
          rcases z with ⟨pc2, loc2, stk2, Y2, G2⟩ | ⟨M1, as, st0⟩ | rz
          · rw [hs] at h
            dsimp only at h
            have hh1 := pH_step (pent1_b htk) _ _ _ _ _ hs
            obtain ⟨hk2, hh2⟩ := ih pc2 loc2 stk2 Y2 G2 h (hh1.2.2 hYk).1
            refine ⟨sim_step hR hX (fun _ q => absurd q (ptr_ns hp hns)) (fun a b he => by
              rw [he] at htk
              obtain ⟨g1, g2⟩ := pent1_f htk
              exact ⟨hnm g1, g2⟩) hd hp hs ⟨by have := hh2.1; omega, by have := hh2.2.1; omega⟩ hk2, hh1.tr hh2⟩
          · rw [hs] at h
            dsimp only at h
            cases d with
            | zero => exact absurd h (by simp)
            | succ d1 =>
              dsimp only at h
              cases hm : pMT M1 with
              | none => rw [hm] at h; exact absurd h (by simp)
              | some mc =>
                rw [hm] at h
                dsimp only at h
                obtain ⟨hk, h⟩ := bif_s h
                cases hc : pexec pMT F d1 M1 0 (pent as mc.2.1) [] Y G with
                | none => rw [hc] at h; exact absurd h (by simp)
                | some qq =>
                  obtain ⟨r1, Y2, G2⟩ := qq
                  rw [hc] at h
                  dsimp only at h
                  have hh1 := pexec_hi _ _ _ _ _ _ _ _ _ _ _ hc
                  obtain ⟨hk2, hh2⟩ := ih (pc + 3) loc (r1.toList ++ st0) Y2 G2 h (hh1.2.2 hYk).1
                  refine ⟨?_, hh1.tr hh2⟩
                  rcases ptr_cls hp with ⟨-, -, he0⟩ | ⟨-, -, he0⟩ | ⟨-, -, he0⟩ | ⟨way, i, M3, hway, rfl, hlk, hcal⟩ | hgo
                  · rw [he0] at hs; obtain ⟨x, -, hz, -⟩ := iret_s hs; cases hz
                  · rw [he0] at hs; obtain ⟨x, -, hz⟩ := lret_s hs; cases hz
                  · rw [he0] at hs; obtain ⟨-, hz⟩ := vret_s hs; cases hz
                  · obtain ⟨w, hw, hwy, he0⟩ := pcalM_s hcal
                    have hs' := hs
                    rw [he0] at hs'
                    obtain ⟨as2, st2, hz⟩ := inv_s hs'
                    cases hz
                    exact sim_call (run_all hR hAO F) hAO hX hway hlk hcal hd hs hm (Nat.le_of_ble_eq_true hk) hc hYk (by have := hh2.1; omega) (by have := hh2.2.1; omega) hk2
                  · obtain ⟨xx, hz⟩ := pI1_step hgo _ hs; cases hz
          · rw [hs] at h; exact absurd h (by simp)
/-- the start of all, and what both constructors leave -/
def pY0 : pY := ((0, 0), (fun _ => (999, 0)), (fun _ _ => none))
def pst0 : Option (List pV × List pV × pY × pG) := ppref 4000 30 60 268 18 0 [pR 499, pU, pU, pU] [] pY0 (fun _ _ => 0)
def pY1 : pY := match pst0 with
  | some q => q.2.2.1
  | none => pY0
def pG1 : pG := match pst0 with
  | some q => q.2.2.2
  | none => fun _ _ => 0
def pst0c : Bool := match pst0 with
  | none => false
  | some q => decide (q.1 = [pR 499, pR 0, pR 109, pI 0]) && decide (q.2.1 = []) && decide (q.2.2.1.1 = (174, 13851)) && (List.range 174).all (fun i => decide (q.2.2.1.2.1 i = Yc.2.1 i) && (List.range 74).all (fun j => bif Nat.blt j (Yc.2.1 i).2.toNat && (Nat.blt (Yc.2.1 i).1 13 || Nat.beq (Yc.2.1 i).1 103) then decide (q.2.2.1.2.2 i j = Yc.2.2 i j) else true))
set_option maxRecDepth 1000000 in
theorem pst0_ok : pst0c = true := by decide +kernel
