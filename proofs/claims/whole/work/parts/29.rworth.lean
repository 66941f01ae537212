/-! the score of a play in the reference -/
theorem cM_scoreOf (I : Nat → Int → Int) (c q d : Int) (hr : plR c q d) (hb : bdR (I 118)) (h9 : c0S q d + lnS c ≤ 9) : XR mM_scoreOf [.inr 117, .inl c, .inl q, .inl d] (hN I) (some (.inl (woS (I 118) c q d))) (hN (xset I 122 (wrS (I 122) c 0))) := by
  refine XRa.of (by decide) (Nat.le_of_ble_eq_true rfl) ?_
  obtain ⟨r1, r2, r3, r4, hd⟩ := id hr
  have hl := lnS_le c
  have hc0 := c0_R (d := d) r3 r4
  have e118 : xset I 122 (wrS (I 122) c 0) 118 = I 118 := xset_ne (by omega)
  have e122 : ∀ i, 0 ≤ i → i < lnS c → xset I 122 (wrS (I 122) c 0) 122 i = wlS c i := fun i a b => by
    rw [xset_at]
    unfold wrS
    rw [if_pos ⟨a, b⟩]
  have hsp := cM_spell I c r1 r2
  generalize xset I 122 (wrS (I 122) c 0) = J at *
  have hbJ : bdR (J 118) := by rw [e118]; exact hb
  rw [← e118]
  have loop : ∀ (n i : Nat), (i : Int) + n = lnS c → XE mM_scoreOf (some (.inl (woS (J 118) c q d))) (hN J) 26 [(9, .inl (i : Int)), (8, .inl (neF (J 118) q d i)), (7, .inl (crF (J 118) c q d i)), (6, .inl (ftF (J 118) q d i)), (5, .inl (smF (J 118) c q d i)), (4, .inl (lnS c)), (3, .inl d), (2, .inl q), (1, .inl c), (0, .inr 117)] [.inl (lnS c), .inl (i : Int)] (hN J) := by
    intro n
    induction n with
    | zero =>
      intro i h1
      have ei : (lnS c).toNat = i := by omega
      have hne := neF_R (J 118) q d i
      refine x_le rfl (by omega) (by omega) (fun hc => ?_) (fun hc => absurd (by omega) hc)
      repeat refine x_step rfl ?_
      refine x_eq rfl (by omega) (by omega) (fun hz => ?_) (fun hz => ?_)
      · repeat refine x_step rfl ?_
        exact x_iret rfl rfl (by unfold woS; rw [ei, if_pos hz]) rfl
      · repeat refine x_step rfl ?_
        exact x_iret rfl rfl (by unfold woS; rw [ei, if_neg hz]) rfl
    | succ n ih =>
      intro i h1
      have ha := at_in (k := i) r3 r4 hd (by omega) (by omega)
      have hwl := wlS_R (i := i) r2 (by omega) (by omega)
      have hlf := lf_in (b := J 118) (k := i) hd r3 r4 (by omega) (by omega)
      have hlR := lfS_R hbJ q d i
      have hle := e122 i (by omega) (by omega)
      have next := ih (i + 1) (by omega)
      have ei : ((i + 1 : Nat) : Int) = (i : Int) + 1 := by omega
      rw [neF_s, crF_s, ftF_s, smF_s, ei] at next
      clear ih
      have hws := zwsS01 (atS q d i)
      have hls := zlsS01 (atS q d i)
      have hxw := xwS_R (J 118) (atS q d i) (1 - d) (wlS c i)
      have pre : XE mM_scoreOf (some (.inl (woS (J 118) c q d))) (hN J) 53 [(10, .inl (atS q d i)), (9, .inl (i : Int)), (8, .inl (neF (J 118) q d i)), (7, .inl (crF (J 118) c q d i)), (6, .inl (ftF (J 118) q d i)), (5, .inl (smF (J 118) c q d i)), (4, .inl (lnS c)), (3, .inl d), (2, .inl q), (1, .inl c), (0, .inr 117)] [.inl (lfS (J 118) q d i)] (hN J) := by
        refine x_eq rfl (by omega) (by omega) (fun hz => ?_) (fun hz => ?_)
        · rw [if_pos hz, if_pos hz, if_pos hz, if_pos hz] at next
          -- the new tile
          have c4 : ∀ (u w : Int), u = tvS (atS q d i) (wlS c i) → w = tfS (atS q d i) → XE mM_scoreOf (some (.inl (woS (J 118) c q d))) (hN J) 124 [(11, .inl 1), (10, .inl (atS q d i)), (9, .inl (i : Int)), (8, .inl (neF (J 118) q d i)), (7, .inl (crF (J 118) c q d i)), (6, .inl (ftF (J 118) q d i * w)), (5, .inl (smF (J 118) c q d i + u)), (4, .inl (lnS c)), (3, .inl d), (2, .inl q), (1, .inl c), (0, .inr 117)] [.inl 1, .inl (crF (J 118) c q d i)] (hN J) := by
            intro u w hu hw
            rw [hu, hw]
            refine x_eq rfl (by omega) (by omega) (fun hc => by omega) (fun hc => ?_)
            repeat refine x_step rfl ?_
            refine x_ald (len := 6) rfl (by omega) (by omega) ?_
            rw [hle]
            refine x_call rfl (cM_crossScore J hbJ _ d _ ha.1 ha.2.1 hd hwl) ?_
            repeat refine x_step rfl ?_
            refine x_eq rfl (by omega) (by omega) (fun hc => by omega) (fun hc => ?_)
            repeat refine x_step rfl ?_
            exact x_loc (by exact ⟨rfl, rfl, rfl, rfl, rfl, rfl, rfl, rfl, rfl, rfl, trivial⟩) next
          have c3 : ∀ (u : Int), u = tvS (atS q d i) (wlS c i) → XE mM_scoreOf (some (.inl (woS (J 118) c q d))) (hN J) 101 [(11, .inl 1), (10, .inl (atS q d i)), (9, .inl (i : Int)), (8, .inl (neF (J 118) q d i)), (7, .inl (crF (J 118) c q d i)), (6, .inl (ftF (J 118) q d i)), (5, .inl (smF (J 118) c q d i + u)), (4, .inl (lnS c)), (3, .inl d), (2, .inl q), (1, .inl c), (0, .inr 117)] [.inl 1, .inl (ftF (J 118) q d i)] (hN J) := by
            intro u hu
            refine x_eq rfl (by omega) (by omega) (fun hc => by omega) (fun hc => ?_)
            repeat refine x_step rfl ?_
            refine x_call rfl (cM_isWordSquare _ _ ha.1 ha.2.1) ?_
            refine x_eq rfl (by omega) (by omega) (fun hz => ?_) (fun hz => ?_)
            · repeat refine x_step rfl ?_
              exact x_loc (by exact ⟨rfl, rfl, rfl, rfl, rfl, rfl, rfl, rfl, rfl, rfl, rfl, rfl, trivial⟩) (c4 u 1 hu (by unfold tfS; rw [if_neg (by omega)]))
            · repeat refine x_step rfl ?_
              exact x_loc (by exact ⟨rfl, rfl, rfl, rfl, rfl, rfl, rfl, rfl, rfl, rfl, rfl, rfl, trivial⟩) (c4 u 2 hu (by unfold tfS; rw [if_pos (by omega)]))
          repeat refine x_step rfl ?_
          refine x_ald (len := 6) rfl (by omega) (by omega) ?_
          rw [hle]
          refine x_call rfl (cM_value _ _ hwl.1 hwl.2) ?_
          repeat refine x_step rfl ?_
          refine x_eq rfl (by omega) (by omega) (fun hc => by omega) (fun hc => ?_)
          repeat refine x_step rfl ?_
          refine x_call rfl (cM_isLetterSquare _ _ ha.1 ha.2.1) ?_
          refine x_eq rfl (by omega) (by omega) (fun hz => ?_) (fun hz => ?_)
          · repeat refine x_step rfl ?_
            exact x_loc (by exact ⟨rfl, rfl, rfl, rfl, rfl, rfl, rfl, rfl, rfl, rfl, rfl, rfl, trivial⟩) (c3 _ (by unfold tvS; rw [if_neg (by omega)]))
          · repeat refine x_step rfl ?_
            exact x_loc (by exact ⟨rfl, rfl, rfl, rfl, rfl, rfl, rfl, rfl, rfl, rfl, rfl, rfl, trivial⟩) (c3 _ (by unfold tvS; rw [if_pos (by omega)]))
        · rw [if_neg hz, if_neg hz, if_neg hz, if_neg hz] at next
          repeat refine x_step rfl ?_
          refine x_ald (len := 6) rfl (by omega) (by omega) ?_
          rw [hle]
          refine x_call rfl (cM_value _ _ hwl.1 hwl.2) ?_
          repeat refine x_step rfl ?_
          refine x_eq rfl (by omega) (by omega) (fun hc => ?_) (fun hc => by omega)
          repeat refine x_step rfl ?_
          refine x_eq rfl (by omega) (by omega) (fun hc => ?_) (fun hc => by omega)
          repeat refine x_step rfl ?_
          refine x_eq rfl (by omega) (by omega) (fun hc => ?_) (fun hc => by omega)
          repeat refine x_step rfl ?_
          refine x_eq rfl (by omega) (by omega) (fun hc => ?_) (fun hc => by omega)
          repeat refine x_step rfl ?_
          exact x_loc (by exact ⟨rfl, rfl, rfl, rfl, xsi (by omega), rfl, rfl, rfl, rfl, rfl, trivial⟩) next
      clear next
      refine x_le rfl (by omega) (by omega) (fun hc => absurd hc (by omega)) (fun hc => ?_)
      repeat refine x_step rfl ?_
      have at2 : ∀ t : Int, t = (if d = 0 then 1 else 9) → XE mM_scoreOf (some (.inl (woS (J 118) c q d))) (hN J) 52 [(10, .inl (q + t * i)), (9, .inl (i : Int)), (8, .inl (neF (J 118) q d i)), (7, .inl (crF (J 118) c q d i)), (6, .inl (ftF (J 118) q d i)), (5, .inl (smF (J 118) c q d i)), (4, .inl (lnS c)), (3, .inl d), (2, .inl q), (1, .inl c), (0, .inr 117)] [.inl (q + t * i), .inr 118] (hN J) := by
        intro t ht
        have et : q + t * i = atS q d i := by
          rw [ht]
          rcases hd with rfl | rfl
          · rw [at_0, if_pos rfl]; omega
          · rw [at_1, if_neg (by omega)]
        rw [et]
        refine x_ald (len := 132) rfl (by omega) (by omega) ?_
        rw [hlf]
        exact pre
      refine x_eq rfl (by omega) (by omega) (fun hz => ?_) (fun hz => ?_)
      · repeat refine x_step rfl ?_
        exact x_loc (by exact ⟨rfl, rfl, rfl, rfl, rfl, rfl, rfl, rfl, rfl, rfl, rfl, trivial⟩) (at2 1 (by rw [if_pos hz]))
      · repeat refine x_step rfl ?_
        exact x_loc (by exact ⟨rfl, rfl, rfl, rfl, rfl, rfl, rfl, rfl, rfl, rfl, rfl, trivial⟩) (at2 9 (by rw [if_neg hz]))
  have fin := loop (lnS c).toNat 0 (by omega)
  repeat refine x_step rfl ?_
  refine x_call rfl hsp ?_
  repeat refine x_step rfl ?_
  exact x_loc (by exact ⟨rfl, rfl, rfl, rfl, rfl, rfl, rfl, rfl, rfl, rfl, trivial⟩) fin
