/-! the runs on the board -/
noncomputable def ruF (b : Int → Int) (W : Int → Prop) (u : Int) : Int → Int := fun j => sel (srS b (j / 2) (j % 2) = 1 ∧ (u = 0 ∨ ¬ W (rnS b (j / 2) (j % 2) (b (j / 2))))) 1 0
theorem ruF_c {b b' : Int → Int} {W W' : Int → Prop} (h : bdE b b') (hW : ∀ c, W c ↔ W' c) (u : Int) : xsm (ruF b W u) 162 = xsm (ruF b' W' u) 162 := by
  refine xsm_c 162 (fun j a e => ?_)
  unfold ruF
  refine sel_congr ?_ (fun _ => rfl)
  rw [srS_c h (by omega) (by omega), rnS_c h, h (j / 2) (by omega) (by omega), hW]
theorem ruF_R (b : Int → Int) (W : Int → Prop) (u : Int) (n : Nat) : 0 ≤ xsm (ruF b W u) n ∧ xsm (ruF b W u) n ≤ n := xsm_01 _ (fun j => (sel01 (p := srS b (j / 2) (j % 2) = 1 ∧ (u = 0 ∨ ¬ W (rnS b (j / 2) (j % 2) (b (j / 2))))) (a := 1) (b := 0)).symm) n
theorem srS01 (b : Int → Int) (q d : Int) : srS b q d = 0 ∨ srS b q d = 1 := if01
theorem cG_runsInAll (I : Nat → Int → Int) (hb : bdR (I 8)) : XR mG_runsInAll [.inr 4] (hN I) (some (.inl (xsm (ruF (I 8) (inC I) 0) 162))) (hN I) := by
  refine XRa.of (by decide) (Nat.le_of_ble_eq_true rfl) ?_
  have loop : ∀ (n i : Nat), i + n = 162 → XE mG_runsInAll (some (.inl (xsm (ruF (I 8) (inC I) 0) 162))) (hN I) 8 [(2, .inl (i : Int)), (1, .inl (xsm (ruF (I 8) (inC I) 0) i)), (0, .inr 4)] [.inl 162, .inl (i : Int)] (hN I) := by
    intro n
    induction n with
    | zero =>
      intro i h1
      have ei : i = 162 := by omega
      subst ei
      refine x_le rfl (by omega) (by omega) (fun hc => ?_) (fun hc => absurd (by omega) hc)
      repeat refine x_step rfl ?_
      exact x_iret rfl rfl rfl rfl
    | succ n ih =>
      intro i h1
      have next := ih (i + 1) (by omega)
      have ei : ((i + 1 : Nat) : Int) = (i : Int) + 1 := by omega
      have es : xsm (ruF (I 8) (inC I) 0) (i + 1) = xsm (ruF (I 8) (inC I) 0) i + ruF (I 8) (inC I) 0 i := rfl
      rw [ei, es] at next
      have h01 := srS01 (I 8) ((i : Int) / 2) ((i : Int) % 2)
      have body : XE mG_runsInAll (some (.inl (xsm (ruF (I 8) (inC I) 0) 162))) (hN I) 30 [(2, .inl (i : Int)), (1, .inl (xsm (ruF (I 8) (inC I) 0) i)), (0, .inr 4)] [.inl ((i : Int) % 2), .inl ((i : Int) / 2), .inr 7] (hN I) := by
        refine x_call rfl (cS_startsRun I hb _ _ (by omega) (by omega) (by omega)) ?_
        refine x_eq rfl (by omega) (by omega) (fun w => ?_) (fun w => ?_)
        · have e : ruF (I 8) (inC I) 0 i = 0 := by unfold ruF; rw [sel_neg (fun v => by omega)]
          rw [e, Int.add_zero] at next
          repeat refine x_step rfl ?_
          exact x_loc (by exact ⟨rfl, rfl, rfl, trivial⟩) next
        · have e : ruF (I 8) (inC I) 0 i = 1 := by unfold ruF; rw [sel_pos ⟨by omega, Or.inl rfl⟩]
          rw [e] at next
          repeat refine x_step rfl ?_
          exact x_loc (by exact ⟨rfl, rfl, rfl, trivial⟩) next
      refine x_le rfl (by omega) (by omega) (fun hc => absurd hc (by omega)) (fun hc => ?_)
      repeat refine x_step rfl ?_
      refine x_div rfl (by omega) (by omega) (by omega) (by omega) ?_
      repeat refine x_step rfl ?_
      refine x_rem rfl (by omega) (by omega) (by omega) (by omega) ?_
      repeat refine x_step rfl ?_
      refine x_eq rfl (by omega) (by omega) (fun w => ?_) (fun w => ?_)
      · repeat refine x_step rfl ?_
        exact x_stk (S' := [.inl ((i : Int) % 2), .inl ((i : Int) / 2), .inr 7]) (by rw [w]) (x_loc (by exact ⟨rfl, rfl, rfl, trivial⟩) body)
      · repeat refine x_step rfl ?_
        exact x_stk (S' := [.inl ((i : Int) % 2), .inl ((i : Int) / 2), .inr 7]) (by rw [show (i : Int) % 2 = 0 by omega]) (x_loc (by exact ⟨rfl, rfl, rfl, trivial⟩) body)
  have fin := loop 162 0 (by omega)
  repeat refine x_step rfl ?_
  exact x_loc (by exact ⟨rfl, rfl, rfl, trivial⟩) fin
theorem cG_runsUnlisted (I : Nat → Int → Int) (hb : bdR (I 8)) (hw : wdR I) : XR mG_runsUnlisted [.inr 4] (hN I) (some (.inl (xsm (ruF (I 8) (inC I) 1) 162))) (hN I) := by
  refine XRa.of (by decide) (Nat.le_of_ble_eq_true rfl) ?_
  have loop : ∀ (n i : Nat), i + n = 162 → XE mG_runsUnlisted (some (.inl (xsm (ruF (I 8) (inC I) 1) 162))) (hN I) 8 [(2, .inl (i : Int)), (1, .inl (xsm (ruF (I 8) (inC I) 1) i)), (0, .inr 4)] [.inl 162, .inl (i : Int)] (hN I) := by
    intro n
    induction n with
    | zero =>
      intro i h1
      have ei : i = 162 := by omega
      subst ei
      refine x_le rfl (by omega) (by omega) (fun hc => ?_) (fun hc => absurd (by omega) hc)
      repeat refine x_step rfl ?_
      exact x_iret rfl rfl rfl rfl
    | succ n ih =>
      intro i h1
      have next := ih (i + 1) (by omega)
      have ei : ((i + 1 : Nat) : Int) = (i : Int) + 1 := by omega
      have es : xsm (ruF (I 8) (inC I) 1) (i + 1) = xsm (ruF (I 8) (inC I) 1) i + ruF (I 8) (inC I) 1 i := rfl
      rw [ei, es] at next
      have h01 := srS01 (I 8) ((i : Int) / 2) ((i : Int) % 2)
      have hbi := hb ((i : Int) / 2) (by omega) (by omega)
      have hrn := rnS_R hb (q := (i : Int) / 2) (d := (i : Int) % 2) (x := I 8 ((i : Int) / 2)) (by omega) (by omega) (by omega) hbi
      have hno := no_in (I := I) hw.1 (rnS (I 8) ((i : Int) / 2) ((i : Int) % 2) (I 8 ((i : Int) / 2)))
      have hnoR := noS_R I hw.1 hw.2.1 (rnS (I 8) ((i : Int) / 2) ((i : Int) % 2) (I 8 ((i : Int) / 2)))
      have hw2 := hw.2.1
      have body : XE mG_runsUnlisted (some (.inl (xsm (ruF (I 8) (inC I) 1) 162))) (hN I) 36 [(4, .inl ((i : Int) % 2)), (3, .inl ((i : Int) / 2)), (2, .inl (i : Int)), (1, .inl (xsm (ruF (I 8) (inC I) 1) i)), (0, .inr 4)] [.inl ((i : Int) % 2), .inl ((i : Int) / 2), .inr 7] (hN I) := by
        refine x_call rfl (cS_startsRun I hb _ _ (by omega) (by omega) (by omega)) ?_
        refine x_eq rfl (by omega) (by omega) (fun w => ?_) (fun w => ?_)
        · have e : ruF (I 8) (inC I) 1 i = 0 := by unfold ruF; rw [sel_neg (fun v => by omega)]
          rw [e, Int.add_zero] at next
          repeat refine x_step rfl ?_
          exact x_loc (by exact ⟨rfl, rfl, rfl, trivial⟩) next
        · repeat refine x_step rfl ?_
          refine x_call rfl (cS_letterOn I _ (by omega) (by omega)) ?_
          refine x_call rfl (cS_runThrough I hb _ _ _ (by omega) (by omega) (by omega) (by omega)) ?_
          repeat refine x_step rfl ?_
          refine x_call rfl (cW_no I hw _ (by omega)) ?_
          refine x_le rfl (by omega) (by omega) (fun w2 => ?_) (fun w2 => ?_)
          · have e : ruF (I 8) (inC I) 1 i = 0 := by
              unfold ruF
              rw [sel_neg (fun v => v.2.elim (fun x => by omega) (fun x => x (hno.mp w2)))]
            rw [e, Int.add_zero] at next
            repeat refine x_step rfl ?_
            exact x_loc (by exact ⟨rfl, rfl, rfl, trivial⟩) next
          · have e : ruF (I 8) (inC I) 1 i = 1 := by
              unfold ruF
              rw [sel_pos ⟨by omega, Or.inr (fun x => w2 (hno.mpr x))⟩]
            rw [e] at next
            repeat refine x_step rfl ?_
            exact x_loc (by exact ⟨rfl, rfl, rfl, trivial⟩) next
      refine x_le rfl (by omega) (by omega) (fun hc => absurd hc (by omega)) (fun hc => ?_)
      repeat refine x_step rfl ?_
      refine x_div rfl (by omega) (by omega) (by omega) (by omega) ?_
      repeat refine x_step rfl ?_
      refine x_rem rfl (by omega) (by omega) (by omega) (by omega) ?_
      repeat refine x_step rfl ?_
      refine x_eq rfl (by omega) (by omega) (fun w => ?_) (fun w => ?_)
      · repeat refine x_step rfl ?_
        exact x_stk (S' := [.inl ((i : Int) % 2), .inl ((i : Int) / 2), .inr 7]) (by rw [w]) (x_loc (by exact ⟨xsi w.symm, rfl, rfl, rfl, rfl, trivial⟩) body)
      · have w0 : (i : Int) % 2 = 0 := by omega
        repeat refine x_step rfl ?_
        exact x_stk (S' := [.inl ((i : Int) % 2), .inl ((i : Int) / 2), .inr 7]) (by rw [w0]) (x_loc (by exact ⟨xsi w0.symm, rfl, rfl, rfl, rfl, trivial⟩) body)
  have fin := loop 162 0 (by omega)
  repeat refine x_step rfl ?_
  exact x_loc (by exact ⟨rfl, rfl, rfl, trivial⟩) fin
/-- a square begins a run, as the reference asks it -/
theorem sr_bg {b : Int → Int} (hb : bdR b) {q d : Int} (h0 : 0 ≤ q) (h1 : q ≤ 80) (hd : d = 0 ∨ d = 1) (hz : b q ≠ 0) : (srS b q d = 1 ↔ atS q d (bkS (lfS b q d) 9 0) = q ∧ rnS b q d (b q) ≠ 0) := by
  have hbq := hb q h0 h1
  have h2 := rnS_0 hb h0 h1 hd (x := b q) (by omega)
  have h3 := otS_0 hb q d
  have hin : ∀ k, lfS b q d k ≠ 0 → -(c0S q d) ≤ k := fun k hk => by
    have := lfC h0 h1 hd hk
    omega
  have hc := c0_R (d := d) h0 h1
  have hb8 := bkS_ge hin 8 (0 - 1)
  have hb9 : bkS (lfS b q d) 9 0 = if lfS b q d (0 - 1) = 0 then 0 else bkS (lfS b q d) 8 (0 - 1) := rfl
  have e0 : atS q d 0 = q := by unfold atS; split <;> omega
  rw [show (0 : Int) - 1 = -1 by rfl] at hb8 hb9
  have hk : atS q d (bkS (lfS b q d) 9 0) = q ↔ lfS b q d (-1) = 0 := by
    rw [hb9]
    by_cases w : lfS b q d (-1) = 0
    · rw [if_pos w]
      exact ⟨fun _ => w, fun _ => e0⟩
    · rw [if_neg w]
      have := hb8 (hin _ w)
      refine ⟨fun v => ?_, fun v => absurd v w⟩
      have v3 : atS q d (bkS (lfS b q d) 8 (-1)) = atS q d 0 := by rw [e0]; exact v
      have := atS_inj v3
      omega
  rw [hk, Ne, h2, h3]
  unfold srS
  by_cases w : b q ≠ 0 ∧ lfS b q d (-1) = 0 ∧ lfS b q d 1 ≠ 0
  · rw [if_pos w]
    exact ⟨fun _ => ⟨w.2.1, fun v => w.2.2 v.1⟩, fun _ => rfl⟩
  · rw [if_neg w]
    exact ⟨fun v => by omega, fun v => absurd ⟨hz, v.1, fun x => v.2 ⟨x, v.1⟩⟩ w⟩