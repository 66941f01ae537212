/-! the score of a play -/
def smF (b : Int → Int) (c q d : Int) (n : Nat) : Int := xsm (fun i => if lfS b q d i = 0 then tvS (atS q d i) (wlS c i) else vlS (wlS c i)) n
def ftF (b : Int → Int) (q d : Int) : Nat → Int
  | 0 => 1
  | n + 1 => ftF b q d n * (if lfS b q d n = 0 then tfS (atS q d n) else 1)
def crF (b : Int → Int) (c q d : Int) (n : Nat) : Int := xsm (fun i => if lfS b q d i = 0 then xwS b (atS q d i) (1 - d) (wlS c i) else 0) n
def woS (b : Int → Int) (c q d : Int) : Int := smF b c q d (lnS c).toNat * ftF b q d (lnS c).toNat + crF b c q d (lnS c).toNat + (if neF b q d (lnS c).toNat = 6 then 15 else 0)
theorem xsm_R {f : Int → Int} {m : Int} (hf : ∀ j : Int, 0 ≤ f j ∧ f j ≤ m) : ∀ n : Nat, 0 ≤ xsm f n ∧ xsm f n ≤ m * n := by
  intro n
  induction n with
  | zero => exact ⟨Int.le_refl 0, by show (0 : Int) ≤ m * ((0 : Nat) : Int); simp⟩
  | succ n ih =>
    have h := hf n
    have e : m * ((n + 1 : Nat) : Int) = m * n + m := by rw [show ((n + 1 : Nat) : Int) = (n : Int) + 1 by omega, Int.mul_add, Int.mul_one]
    rw [e]
    unfold xsm
    generalize m * (n : Int) = t at *
    omega
theorem smF_R (b : Int → Int) (c q d : Int) (n : Nat) : 0 ≤ smF b c q d n ∧ smF b c q d n ≤ 12 * n := by
  refine xsm_R (fun j => ?_) n
  have h1 := tvS_R (atS q d j) (wlS c j)
  have h2 := vlS_le (wlS c j)
  show 0 ≤ (if _ then _ else _ : Int) ∧ (if _ then _ else _ : Int) ≤ 12
  split <;> omega
theorem crF_R (b : Int → Int) (c q d : Int) (n : Nat) : 0 ≤ crF b c q d n ∧ crF b c q d n ≤ 152 * n := by
  refine xsm_R (fun j => ?_) n
  have h1 := xwS_R b (atS q d j) (1 - d) (wlS c j)
  show 0 ≤ (if _ then _ else _ : Int) ∧ (if _ then _ else _ : Int) ≤ 152
  split <;> omega
theorem ftF_R (b : Int → Int) (q d : Int) : ∀ n : Nat, 1 ≤ ftF b q d n ∧ ftF b q d n ≤ (2 ^ n : Nat) := by
  intro n
  induction n with
  | zero => exact ⟨Int.le_refl 1, Int.le_refl 1⟩
  | succ n ih =>
    have e : ((2 ^ (n + 1) : Nat) : Int) = 2 * ((2 ^ n : Nat) : Int) := by rw [Nat.pow_succ]; omega
    rw [e]
    unfold ftF
    have h : (if lfS b q d n = 0 then tfS (atS q d n) else 1) = 1 ∨ (if lfS b q d n = 0 then tfS (atS q d n) else 1) = 2 := by
      split
      · exact tfS_R _
      · exact Or.inl rfl
    rcases h with h | h <;> rw [h] <;> omega
theorem woS_R (b : Int → Int) (c q d : Int) : 0 ≤ woS b c q d ∧ woS b c q d ≤ 20000 := by
  have hl := lnS_le c
  have h1 := smF_R b c q d (lnS c).toNat
  have h2 := crF_R b c q d (lnS c).toNat
  have h3 := ftF_R b q d (lnS c).toNat
  have h4 : (2 ^ (lnS c).toNat : Nat) ≤ 2 ^ 7 := Nat.pow_le_pow_right (by omega) (by omega)
  have h5 : smF b c q d (lnS c).toNat * ftF b q d (lnS c).toNat ≤ 84 * 128 := Int.mul_le_mul (by omega) (by omega) (by omega) (by omega)
  have h6 : 0 ≤ smF b c q d (lnS c).toNat * ftF b q d (lnS c).toNat := Int.mul_nonneg h1.1 (by omega)
  unfold woS
  generalize smF b c q d (lnS c).toNat * ftF b q d (lnS c).toNat = t at *
  split <;> omega
theorem smF_s (b : Int → Int) (c q d : Int) (n : Nat) : smF b c q d (n + 1) = smF b c q d n + (if lfS b q d n = 0 then tvS (atS q d n) (wlS c n) else vlS (wlS c n)) := rfl
theorem crF_s (b : Int → Int) (c q d : Int) (n : Nat) : crF b c q d (n + 1) = crF b c q d n + (if lfS b q d n = 0 then xwS b (atS q d n) (1 - d) (wlS c n) else 0) := rfl
theorem neF_s (b : Int → Int) (q d : Int) (n : Nat) : neF b q d (n + 1) = neF b q d n + (if lfS b q d n = 0 then 1 else 0) := rfl
theorem ftF_s (b : Int → Int) (q d : Int) (n : Nat) : ftF b q d (n + 1) = ftF b q d n * (if lfS b q d n = 0 then tfS (atS q d n) else 1) := rfl
theorem cG_worthOf (I : Nat → Int → Int) (P A : Nat) (c q d : Int) (hP : plP P A) (hp : PL I P A c q d) (hr : plR c q d) (hb : bdR (I 8)) (h9 : c0S q d + lnS c ≤ 9) : XR mG_worthOf [.inr 4, .inr P] (hN I) (some (.inl (woS (I 8) c q d))) (hN I) := by
  refine XRa.of (by decide) (Nat.le_of_ble_eq_true rfl) ?_
  have hPP := hP
  obtain ⟨r1, r2, r3, r4, hd⟩ := id hr
  have hl := lnS_le c
  have hc0 := c0_R (d := d) r3 r4
  have hp2 := hp.2.1
  have hp4 := hp.2.2.2.1
  have loop : ∀ (n i : Nat), (i : Int) + n = lnS c → XE mG_worthOf (some (.inl (woS (I 8) c q d))) (hN I) 19 [(6, .inl (i : Int)), (5, .inl (neF (I 8) q d i)), (4, .inl (crF (I 8) c q d i)), (3, .inl (ftF (I 8) q d i)), (2, .inl (smF (I 8) c q d i)), (1, .inr P), (0, .inr 4)] [.inl (lnS c), .inl (i : Int)] (hN I) := by
    intro n
    induction n with
    | zero =>
      intro i h1
      have ei : (lnS c).toNat = i := by omega
      have hne := neF_R (I 8) q d i
      refine x_le rfl (by omega) (by omega) (fun hc => ?_) (fun hc => absurd (by omega) hc)
      repeat refine x_step rfl ?_
      refine x_eq rfl (by omega) (by omega) (fun hz => ?_) (fun hz => ?_)
      · repeat refine x_step rfl ?_
        exact x_iret rfl rfl (by unfold woS; rw [ei, if_pos hz]) rfl
      · repeat refine x_step rfl ?_
        exact x_iret rfl rfl (by unfold woS; rw [ei, if_neg hz]) rfl
    | succ n ih =>
      intro i h1
      have ha := at_in (k := i) r3 r4 hd (by omega) (by omega)
      have hwl := wlS_R (i := i) r2 (by omega) (by omega)
      have hlf := lf_in (b := I 8) (k := i) hd r3 r4 (by omega) (by omega)
      have hlR := lfS_R hb q d i
      have next := ih (i + 1) (by omega)
      have ei : ((i + 1 : Nat) : Int) = (i : Int) + 1 := by omega
      rw [neF_s, crF_s, ftF_s, smF_s, ei] at next
      have hd2 : 1 - d = 0 ∨ 1 - d = 1 := by omega
      rcases hP with ⟨rfl, rfl⟩ | ⟨rfl, rfl⟩
      all_goals
        refine x_le rfl (by omega) (by omega) (fun hc => absurd hc (by omega)) (fun hc => ?_)
        repeat refine x_step rfl ?_
        refine x_call rfl (cP_squareOf I _ _ hPP c q d hp hr i) ?_
        repeat refine x_step rfl ?_
        refine x_call rfl (cP_letterOf I _ _ hPP c q d hp i (by omega) (by omega)) ?_
        repeat refine x_step rfl ?_
        refine x_call rfl (cS_letterOn I _ ha.1 ha.2.1) ?_
        rw [hlf]
        refine x_eq rfl (by omega) (by omega) (fun hz => ?_) (fun hz => ?_)
        · rw [if_pos hz, if_pos hz, if_pos hz, if_pos hz] at next
          repeat refine x_step rfl ?_
          refine x_call rfl (cB_newTileValue _ _ _ ha.1 ha.2.1 (by omega)) ?_
          repeat refine x_step rfl ?_
          refine x_call rfl (cB_newTileFactor _ _ ha.1 ha.2.1) ?_
          repeat refine x_step rfl ?_
          rw [hp4]
          refine x_eq rfl (by omega) (by omega) (fun hd0 => ?_) (fun hd0 => ?_)
          · repeat refine x_step rfl ?_
            refine x_call rfl (cG_crossingWorth I hb _ 1 _ ha.1 ha.2.1 (Or.inr rfl) (by omega)) ?_
            rw [show 1 - d = 1 by omega] at next
            repeat refine x_step rfl ?_
            rw [hp2]
            exact x_loc (by exact ⟨rfl, rfl, rfl, rfl, rfl, rfl, rfl, trivial⟩) next
          · repeat refine x_step rfl ?_
            refine x_call rfl (cG_crossingWorth I hb _ 0 _ ha.1 ha.2.1 (Or.inl rfl) (by omega)) ?_
            rw [show 1 - d = 0 by omega] at next
            repeat refine x_step rfl ?_
            rw [hp2]
            exact x_loc (by exact ⟨rfl, rfl, rfl, rfl, rfl, rfl, rfl, trivial⟩) next
        · rw [if_neg hz, if_neg hz, if_neg hz, if_neg hz] at next
          repeat refine x_step rfl ?_
          refine x_call rfl (cB_valueOf _ _ (by omega)) ?_
          repeat refine x_step rfl ?_
          rw [hp2]
          exact x_loc (by exact ⟨rfl, xsi (Int.add_zero _).symm, xsi (Int.add_zero _).symm, xsi (Int.mul_one _).symm, rfl, rfl, rfl, trivial⟩) next
  have fin := loop (lnS c).toNat 0 (by omega)
  rcases hP with ⟨rfl, rfl⟩ | ⟨rfl, rfl⟩
  all_goals
    repeat refine x_step rfl ?_
    rw [hp2]
    exact x_loc (by exact ⟨rfl, rfl, rfl, rfl, rfl, rfl, rfl, trivial⟩) fin
