/-! the law acts -/
/-- plays and scores so far are few -/
abbrev SB (B : Int) (I : Nat → Int → Int) : Prop := (0 ≤ I 118 109 ∧ I 118 109 ≤ B) ∧ (0 ≤ I 118 107 ∧ I 118 107 ≤ 20000 * B) ∧ (0 ≤ I 118 108 ∧ I 118 108 ≤ 20000 * B)
theorem SB.of {B : Int} {I J : Nat → Int → Int} (h : SB B I) (h0 : 0 ≤ B) (hj : ∀ j : Int, 107 ≤ j → j ≤ 109 → J 118 j = I 118 j) : SB (B + 1) J := by
  unfold SB
  rw [hj 107 (by omega) (by omega), hj 108 (by omega) (by omega), hj 109 (by omega) (by omega)]
  omega
theorem dp_hi {z : Int → Int} (hw : WZ z) {c q d : Int} (h2 : 0 < lnS c) (h8 : ¬ r8P z (rkZ z (z 106)) c q d) : dpZ z c q d 106 = 1 - z 106 ∧ dpZ z c q d 109 = z 109 + 1 ∧ dpZ z c q d (107 + z 106) = z (107 + z 106) + woS z c q d ∧ dpZ z c q d (107 + (1 - z 106)) = z (107 + (1 - z 106)) := by
  have hp := hw.tu
  have h3 := hw.d3 h2 h8
  have hf : ∀ j : Int, 107 ≤ j → dpZ z c q d j = dp3 z c q d j := fun j a => by
    unfold dpZ
    rw [show upF (fzS (z 106) (6 - ttS (rkZ (dp3 z c q d) (z 106))).toNat (dp3 z c q d)) 106 (1 - z 106) j = fzS (z 106) (6 - ttS (rkZ (dp3 z c q d) (z 106))).toNat (dp3 z c q d) j from if_neg (by omega)]
    exact fz_ne hp (by omega) _ _ h3.tz
  refine ⟨by unfold dpZ upF; rw [if_pos rfl], ?_, ?_, ?_⟩
  · rw [hf _ (by omega)]
    unfold dp3 upF
    rw [if_pos rfl]
  · rw [hf _ (by omega)]
    unfold dp3 upF
    rw [if_neg (by omega), if_pos rfl]
  · rw [hf _ (by omega)]
    unfold dp3 upF
    rw [if_neg (by omega), if_neg (by omega)]
    exact zpl_ne (by omega) (by omega)
/-- a swap leaves as many tiles in the bag -/
theorem sw_bag {z : Int → Int} (hk : KZ z) (hw : WZ z) (hc : ttS (rkZ z (z 106)) ≤ ttS (bgZ z)) : ttS (bgZ (swZ z)) = ttS (bgZ z) := by
  have hp := hw.tu
  have h1 := hw.s1 hp
  have hr := hw.rn hp
  have ht := sw1_t z (z 106)
  have h2 := h1.fz hp 6 (by omega)
  obtain ⟨k1, k2⟩ := (KZ.iff hp).mp hk
  have hf := fz_full hp 6 h1 (by omega)
  have hto := fz_tot hp 6 h1.tz
  have e1 : ttS (bgZ (sw1 z (z 106))) = ttS (bgZ z) := ttS_c (fun k a b => sw1_b hp a)
  have he := fz_empty (p := z 106) 6 (z := sw1 z (z 106))
  have hr2 := h2.rn hp
  have hb2 := bg_nn h2
  rw [e1, ht] at hto
  have eR : ttS (rkZ (fzS (z 106) 6 (sw1 z (z 106))) (z 106)) = ttS (rkZ z (z 106)) := by
    rcases k2 with k2 | k2
    · rw [he (by rw [e1]; exact k2), ht]
      omega
    · omega
  have e3 : ttS (bgZ (swZ z)) = ttS (bgZ (fzS (z 106) 6 (sw1 z (z 106)))) + ttS (rkZ z (z 106)) := by
    have g : ∀ l : Int, 1 ≤ l → l ≤ 8 → bgZ (swZ z) l = bgZ (fzS (z 106) 6 (sw1 z (z 106))) l + rkZ z (z 106) l := fun l a b => by
      unfold swZ
      show upF (upF (sw3 z (fzS (z 106) 6 (sw1 z (z 106))) (z 106)) 111 (z 111 + 1)) 106 (1 - z 106) (96 + l) = fzS (z 106) 6 (sw1 z (z 106)) (96 + l) + z (80 + 8 * z 106 + l)
      unfold upF
      rw [if_neg (by omega), if_neg (by omega)]
      unfold sw3
      rw [if_pos (by omega), show 96 + l - 96 = l by omega]
    rw [ttS_c (f := bgZ (swZ z)) (g := fun l => bgZ (fzS (z 106) 6 (sw1 z (z 106))) l + rkZ z (z 106) l) g]
    unfold ttS
    dsimp only
    omega
  omega
theorem sw_hi {z : Int → Int} (hw : WZ z) : swZ z 106 = 1 - z 106 ∧ ∀ j : Int, 107 ≤ j → j ≤ 109 → swZ z j = z j := by
  have hp := hw.tu
  have h1 := hw.s1 hp
  refine ⟨by unfold swZ upF; rw [if_pos rfl], fun j a b => ?_⟩
  unfold swZ upF
  rw [if_neg (by omega), if_neg (by omega)]
  unfold sw3
  rw [if_neg (by omega), fz_ne hp (by omega) 6 _ h1.tz]
  exact sw1_ne (by omega)
/-- the number of the word k -/
theorem noM_at {I : Nat → Int → Int} (h : SIM I) {k : Int} (h0 : 0 ≤ k) (h1 : k < I 118 112) : noM I (I 118 (113 + k)) = k := by
  have hmn := h.1.2.mn
  have hds := h.1.2.ds
  rcases laS_spec (fun j => I 118 (113 + j)) (I 118 (113 + k)) (I 118 112).toNat with ⟨b1, b2⟩ | ⟨b1, b2, b3⟩
  · exact absurd rfl (b2 k h0 (by omega))
  · unfold noM
    generalize laS (fun j => I 118 (113 + j)) (I 118 (113 + k)) (I 118 112).toNat = i at *
    have b3 : I 118 (113 + i) = I 118 (113 + k) := b3
    by_cases e : i < k
    · exact absurd b3 (hds i k b1 e h1)
    · by_cases e2 : k < i
      · exact absurd b3.symm (hds k i h0 e2 (by omega))
      · omega
section ACTS
variable {I : Nat → Int → Int}
set_option maxRecDepth 20000 in
set_option maxHeartbeats 4000000 in
theorem cL_act (h : SIM I) {B : Int} (hB : SB B I) (b0 : 0 ≤ B) (b1 : B ≤ 100) (x y : Int) : ∃ J, XR mL_act [.inr 3, .inl x, .inl y] (hN I) (some (.inl 1)) (hN J) ∧ SIM J ∧ SB (B + 1) J := by
  obtain ⟨c, hl, hc, hrd⟩ := cL_random h y
  have htu := h.1.2.tu
  have hmn := h.1.2.mn
  have hwm := h.1.wm
  have hhow : 0 ≤ x % 2147483648 % 12 ∧ x % 2147483648 % 12 ≤ 11 := by omega
  have hnm := noM_in hwm.1 c
  -- to the first branch
  have start : ∀ J, XE mL_act (some (.inl 1)) (hN J) 25 [(5, .inl c), (4, .inl (x % 2147483648 % 12)), (3, .inl (I 118 106)), (2, .inl y), (1, .inl x), (0, .inr 3)] [.inl 5, .inl (x % 2147483648 % 12)] (hN I) → XR mL_act [.inr 3, .inl x, .inl y] (hN I) (some (.inl 1)) (hN J) := by
    intro J k
    refine XRa.of (by decide) (Nat.le_of_ble_eq_true rfl) ?_
    repeat refine x_step rfl ?_
    refine x_call rfl (B_count6 h) ?_
    repeat refine x_step rfl ?_
    refine x_call rfl (cL_low _ x 12 (by omega) (by omega)) ?_
    repeat refine x_step rfl ?_
    refine x_call rfl hrd ?_
    repeat refine x_step rfl ?_
    exact x_loc (by exact ⟨rfl, rfl, rfl, rfl, rfl, rfl, trivial⟩) k
  generalize x % 2147483648 % 12 = how at *
  by_cases h5 : how < 5
  · -- a word is added
    obtain ⟨J, a1, a2, a3⟩ := A_addWord h c hc hl
    refine ⟨J, start J ?_, a2, hB.of b0 (fun j _ _ => a3 j (by omega))⟩
    refine x_le rfl (by omega) (by omega) (fun g => absurd g (by omega)) (fun _ => ?_)
    repeat refine x_step rfl ?_
    refine x_call rfl (B_count0 h) ?_
    repeat refine x_step rfl ?_
    refine x_call rfl (cL_isInList h c hc) ?_
    by_cases hin : inM I c
    · rw [if_pos (hnm.mpr hin)] at a1
      rw [sel_pos hin]
      refine x_eq rfl (by omega) (by omega) (fun g => absurd g (by omega)) (fun _ => ?_)
      repeat refine x_step rfl ?_
      refine x_call rfl a1 ?_
      repeat refine x_step rfl ?_
      refine x_eq rfl (by omega) (by omega) (fun _ => ?_) (fun g => absurd rfl g)
      repeat refine x_step rfl ?_
      exact x_zret rfl rfl rfl (Or.inr rfl) rfl
    · rw [if_neg (fun g => hin (hnm.mp g))] at a1
      rw [sel_neg hin]
      refine x_eq rfl (by omega) (by omega) (fun _ => ?_) (fun g => absurd rfl g)
      repeat refine x_step rfl ?_
      refine x_call rfl a1 ?_
      repeat refine x_step rfl ?_
      refine x_eq rfl (by omega) (by omega) (fun g => ?_) (fun g => ?_)
      · rw [if_pos g]
        repeat refine x_step rfl ?_
        refine x_eq rfl (by omega) (by omega) (fun _ => ?_) (fun g => absurd rfl g)
        repeat refine x_step rfl ?_
        exact x_zret rfl rfl rfl (Or.inr rfl) rfl
      · rw [if_neg g]
        repeat refine x_step rfl ?_
        refine x_eq rfl (by omega) (by omega) (fun _ => ?_) (fun g => absurd rfl g)
        repeat refine x_step rfl ?_
        exact x_zret rfl rfl rfl (Or.inr rfl) rfl
  · by_cases h9 : how < 9
    · -- the best play
      obtain ⟨f, bs, bp, bw, hBS⟩ := BST.get h
      have hR := BST.R h hBS
      obtain ⟨J1, x1, F1⟩ := B_best h hBS 0 (by omega) (by omega)
      have S1 := FQ.sim h F1
      by_cases hf : f = 0
      · rw [if_pos hf] at x1
        obtain ⟨J2, x2, F2⟩ := B_plays S1 (BST.c F1.e8 hBS)
        have S2 := FQ.sim S1 F2
        obtain ⟨J3, x3, S3, e3⟩ := A_pass S2
        rw [F2.e8, F1.e8] at x3 e3
        refine ⟨J3, start J3 ?_, S3, hB.of b0 (fun j _ _ => e3 j (by omega) (by omega))⟩
        refine x_le rfl (by omega) (by omega) (fun _ => ?_) (fun g => absurd (by omega) g)
        repeat refine x_step rfl ?_
        refine x_le rfl (by omega) (by omega) (fun g => absurd g (by omega)) (fun _ => ?_)
        repeat refine x_step rfl ?_
        refine x_call rfl x1 ?_
        repeat refine x_step rfl ?_
        refine x_le rfl (by omega) (by omega) (fun g => absurd g (by omega)) (fun _ => ?_)
        repeat refine x_step rfl ?_
        refine x_call rfl x2 ?_
        refine x_eq rfl (by omega) (by omega) (fun _ => ?_) (fun g => absurd hf g)
        repeat refine x_step rfl ?_
        refine x_call rfl x3 ?_
        repeat refine x_step rfl ?_
        refine x_eq rfl (by omega) (by omega) (fun _ => ?_) (fun g => absurd rfl g)
        repeat refine x_step rfl ?_
        exact x_zret rfl rfl rfl (Or.inr rfl) rfl
      · obtain ⟨r1, r2, r3, r4, r5, r6, r7, r8⟩ := hR.2.2 hf
        rw [if_neg hf, if_pos rfl] at x1
        obtain ⟨J2, x2, F2⟩ := B_best S1 (BST.c F1.e8 hBS) 3 (by omega) (by omega)
        rw [if_neg hf, if_neg (by omega), if_neg (by omega), if_neg (by omega)] at x2
        have S2 := FQ.sim S1 F2
        have E2 : J2 118 = I 118 := F2.e8.trans F1.e8
        obtain ⟨J3, x3, F3⟩ := B_best S2 (BST.c E2 hBS) 1 (by omega) (by omega)
        rw [if_neg hf, if_neg (by omega), if_pos rfl] at x3
        have S3 := FQ.sim S2 F3
        have E3 : J3 118 = I 118 := F3.e8.trans E2
        obtain ⟨J4, x4, F4⟩ := B_best S3 (BST.c E3 hBS) 2 (by omega) (by omega)
        rw [if_neg hf, if_neg (by omega), if_neg (by omega), if_pos rfl] at x4
        have S4 := FQ.sim S3 F4
        have E4 : J4 118 = I 118 := F4.e8.trans E3
        obtain ⟨hwl, hwc⟩ := h.1.2.wd bw r5 r6
        have hrf : RF I (I 118 (113 + bw)) (bp / 2) (bp % 2) = 0 := r7
        have hsc : woS (I 118) (I 118 (113 + bw)) (bp / 2) (bp % 2) = bs := r8.symm
        have hw2 := B_word S2 bw r5 (by rw [E2]; exact r6)
        rw [E2] at hw2
        have hs1 := B_score S1 (I 118 106) htu
        have hc7 := B_count7 S1
        rw [F1.e8] at hs1 hc7
        generalize I 118 (113 + bw) = c2 at *
        obtain ⟨J5, x5, S5, e5, -⟩ := A_play S4 c2 (bp / 2) (bp % 2) hwc hwl (by omega) (by omega) (by omega)
        rw [RF_c E4] at x5 e5
        rw [if_pos hrf, E4, hsc] at x5
        have e5 := e5 hrf
        rw [E4] at e5
        have hok := rf_ok hrf
        obtain ⟨d1, d2, d3, d4⟩ := dp_hi h.1.2 (c := c2) (q := bp / 2) (d := bp % 2) hwl hok.2
        rw [← e5] at d1 d2 d3 d4
        rw [hsc] at d3
        have hs5 := B_score S5 (I 118 106) htu
        have hc75 := B_count7 S5
        have hc65 := B_count6 S5
        rw [d3] at hs5
        rw [d2] at hc75
        rw [d1] at hc65
        have hSB : SB (B + 1) J5 := by
          obtain ⟨s1, s2, s3⟩ := hB
          rcases htu with g | g
          · rw [g, show (107 : Int) + 0 = 107 by rfl] at d3
            rw [g, show (107 : Int) + (1 - 0) = 108 by rfl] at d4
            refine ⟨?_, ?_, ?_⟩ <;> omega
          · rw [g, show (107 : Int) + 1 = 108 by rfl] at d3
            rw [g, show (107 : Int) + (1 - 1) = 107 by rfl] at d4
            refine ⟨?_, ?_, ?_⟩ <;> omega
        have hsI : 0 ≤ I 118 (107 + I 118 106) ∧ I 118 (107 + I 118 106) ≤ 20000 * B := by
          obtain ⟨s1, s2, s3⟩ := hB
          rcases htu with g | g
          · rw [g]; exact s2
          · rw [g]; exact s3
        have avg := act_avg S5 (pl := I 118 109) d2 (by omega) (by omega)
        refine ⟨J5, start J5 ?_, S5, hSB⟩
        have fin : ∀ (d : Int) (L : XL), d = bp % 2 → xsub L [(8, .inl (I 118 109)), (7, .inl (I 118 (107 + I 118 106))), (6, .inl bs), (3, .inl (I 118 106)), (0, .inr 3)] → XE mL_act (some (.inl 1)) (hN J5) 176 L [.inl d, .inl (bp / 2), .inl c2, .inr 3] (hN J4) := by
          intro d L e hL
          subst e
          refine x_loc hL ?_
          refine x_call rfl x5 ?_
          repeat refine x_step rfl ?_
          refine x_eq rfl (by omega) (by omega) (fun _ => ?_) (fun g => absurd rfl g)
          repeat refine x_step rfl ?_
          refine x_call rfl hs5 ?_
          repeat refine x_step rfl ?_
          refine x_eq rfl (by omega) (by omega) (fun _ => ?_) (fun g => absurd rfl g)
          repeat refine x_step rfl ?_
          refine x_call rfl hc75 ?_
          repeat refine x_step rfl ?_
          refine x_eq rfl (by omega) (by omega) (fun _ => ?_) (fun g => absurd rfl g)
          repeat refine x_step rfl ?_
          refine x_call rfl hc65 ?_
          repeat refine x_step rfl ?_
          refine x_eq rfl (by omega) (by omega) (fun _ => ?_) (fun g => absurd rfl g)
          repeat refine x_step rfl ?_
          exact x_loc (by exact ⟨rfl, rfl, trivial⟩) avg
        refine x_le rfl (by omega) (by omega) (fun _ => ?_) (fun g => absurd (by omega) g)
        repeat refine x_step rfl ?_
        refine x_le rfl (by omega) (by omega) (fun g => absurd g (by omega)) (fun _ => ?_)
        repeat refine x_step rfl ?_
        refine x_call rfl x1 ?_
        repeat refine x_step rfl ?_
        refine x_le rfl (by omega) (by omega) (fun _ => ?_) (fun g => absurd r1 g)
        repeat refine x_step rfl ?_
        refine x_call rfl hs1 ?_
        repeat refine x_step rfl ?_
        refine x_call rfl hc7 ?_
        repeat refine x_step rfl ?_
        refine x_call rfl x2 ?_
        refine x_call rfl hw2 ?_
        repeat refine x_step rfl ?_
        refine x_call rfl x3 ?_
        repeat refine x_step rfl ?_
        refine x_call rfl x4 ?_
        repeat refine x_step rfl ?_
        refine x_eq rfl (by omega) (by omega) (fun g => ?_) (fun g => ?_)
        · repeat refine x_step rfl ?_
          exact fin 1 _ g.symm (by exact ⟨rfl, rfl, rfl, rfl, rfl, trivial⟩)
        · repeat refine x_step rfl ?_
          exact fin 0 _ (by omega) (by exact ⟨rfl, rfl, rfl, rfl, rfl, trivial⟩)
    · -- to the second branches
      have start2 : ∀ J, XE mL_act (some (.inl 1)) (hN J) 258 [(5, .inl c), (4, .inl how), (3, .inl (I 118 106)), (2, .inl y), (0, .inr 3)] [.inl 9, .inl how] (hN I) → XR mL_act [.inr 3, .inl x, .inl y] (hN I) (some (.inl 1)) (hN J) := by
        intro J k
        refine start J ?_
        refine x_le rfl (by omega) (by omega) (fun _ => ?_) (fun g => absurd (by omega) g)
        repeat refine x_step rfl ?_
        refine x_le rfl (by omega) (by omega) (fun _ => ?_) (fun g => absurd (by omega) g)
        repeat refine x_step rfl ?_
        exact x_loc (by exact ⟨rfl, rfl, rfl, rfl, rfl, trivial⟩) k
      by_cases he9 : how = 9
      · -- a swap
        obtain ⟨J, x1, S1, e1, e2⟩ := A_swap h
        have hrn := h.1.2.rn htu
        have hbg := amR_sum h.1.2.bz
        have hSB : SB (B + 1) J := by
          by_cases g : ttS (bgZ (I 118)) < ttS (rkZ (I 118) (I 118 106))
          · exact hB.of b0 (fun j _ _ => by rw [e1 g])
          · exact hB.of b0 (fun j a b => by rw [e2 g]; exact (sw_hi h.1.2).2 j a b)
        have sums : ∀ (n i : Nat), i + n = 8 → XE mL_act (some (.inl 1)) (hN J) 271 [(7, .inl ((i : Int) + 1)), (6, .inl (xsm (fun j => rkZ (I 118) (I 118 106) (j + 1)) i)), (3, .inl (I 118 106)), (0, .inr 3)] [.inl 9, .inl ((i : Int) + 1)] (hN I) := by
          intro n
          induction n with
          | zero =>
            intro i g1
            have g2 : i = 8 := by omega
            subst g2
            rw [ttS_xsm]
            refine x_le rfl (by omega) (by omega) (fun _ => ?_) (fun g => absurd (by omega) g)
            repeat refine x_step rfl ?_
            refine x_call rfl (B_count2 h) ?_
            repeat refine x_step rfl ?_
            by_cases g : ttS (bgZ (I 118)) < ttS (rkZ (I 118) (I 118 106))
            · rw [if_pos g] at x1
              refine x_le rfl (by omega) (by omega) (fun v => absurd v (by omega)) (fun _ => ?_)
              repeat refine x_step rfl ?_
              refine x_call rfl x1 ?_
              repeat refine x_step rfl ?_
              refine x_eq rfl (by omega) (by omega) (fun _ => ?_) (fun g => absurd rfl g)
              repeat refine x_step rfl ?_
              exact x_zret rfl rfl rfl (Or.inr rfl) rfl
            · rw [if_neg g] at x1
              have c6 := B_count6 S1
              have c2 := B_count2 S1
              rw [e2 g, (sw_hi h.1.2).1] at c6
              rw [e2 g, sw_bag h.2.2.2 h.1.2 (by omega)] at c2
              refine x_le rfl (by omega) (by omega) (fun _ => ?_) (fun v => absurd (by omega) v)
              repeat refine x_step rfl ?_
              refine x_call rfl x1 ?_
              repeat refine x_step rfl ?_
              refine x_eq rfl (by omega) (by omega) (fun _ => ?_) (fun g => absurd rfl g)
              repeat refine x_step rfl ?_
              refine x_call rfl c6 ?_
              repeat refine x_step rfl ?_
              refine x_eq rfl (by omega) (by omega) (fun _ => ?_) (fun g => absurd rfl g)
              repeat refine x_step rfl ?_
              refine x_call rfl c2 ?_
              repeat refine x_step rfl ?_
              refine x_eq rfl (by omega) (by omega) (fun _ => ?_) (fun g => absurd rfl g)
              repeat refine x_step rfl ?_
              exact x_zret rfl rfl rfl (Or.inr rfl) rfl
          | succ n ih =>
            intro i g1
            have ei : ((i + 1 : Nat) : Int) + 1 = (i : Int) + 1 + 1 := by omega
            have nx := ih (i + 1) (by omega)
            have s0 : xsm (fun j => rkZ (I 118) (I 118 106) (j + 1)) (i + 1) = xsm (fun j => rkZ (I 118) (I 118 106) (j + 1)) i + I 118 (80 + 8 * I 118 106 + ((i : Int) + 1)) := rfl
            rw [s0, ei] at nx
            refine x_le rfl (by omega) (by omega) (fun v => absurd v (by omega)) (fun _ => ?_)
            repeat refine x_step rfl ?_
            refine x_call rfl (B_tiles h (I 118 106) ((i : Int) + 1) (by omega) (by omega) (by omega) (by omega)) ?_
            repeat refine x_step rfl ?_
            exact x_loc (by exact ⟨rfl, rfl, rfl, rfl, trivial⟩) nx
        refine ⟨J, start2 J ?_, S1, hSB⟩
        refine x_eq rfl (by omega) (by omega) (fun _ => ?_) (fun g => absurd he9 g)
        repeat refine x_step rfl ?_
        exact x_loc (by exact ⟨rfl, rfl, rfl, rfl, trivial⟩) (sums 8 0 (by omega))
      · by_cases h10 : how = 10 ∧ 4 < I 118 112
        · -- a word is dropped
          have hi0 := Int.emod_nonneg (y % 2147483648) (show I 118 112 ≠ 0 by omega)
          have hi1 := Int.emod_lt_of_pos (y % 2147483648) (show 0 < I 118 112 by omega)
          have hlo := cL_low (hN I) y (I 118 112) (by omega) (by omega)
          generalize y % 2147483648 % I 118 112 = k at *
          obtain ⟨hwl, hwc⟩ := h.1.2.wd k hi0 hi1
          have hno := noM_at h hi0 hi1
          have hwd := B_word h k hi0 hi1
          have hds := h.1.2.ds
          obtain ⟨J, x1, S1, e1⟩ := A_dropWord h (I 118 (113 + k)) hwc hwl (by rw [hno]; exact hi0)
          rw [hno] at x1 e1
          have e112 : J 118 112 = I 118 112 - 1 := by rw [e1]; exact if_pos rfl
          have ew : ∀ j : Int, 0 ≤ j → j < I 118 112 - 1 → J 118 (113 + j) = if k ≤ j then I 118 (113 + (j + 1)) else I 118 (113 + j) := fun j a b => by
            rw [e1]
            unfold twS
            rw [if_neg (by omega)]
            by_cases g : k ≤ j
            · rw [if_pos (by omega), if_pos g, show 113 + j + 1 = 113 + (j + 1) by omega]
            · rw [if_neg (by omega), if_neg g]
          have hni : ¬ 0 ≤ noM J (I 118 (113 + k)) := fun g => by
            obtain ⟨j, j0, j1, j2⟩ := (noM_in S1.1.wm.1 _).mp g
            rw [e112] at j1
            rw [ew j j0 j1] at j2
            by_cases g2 : k ≤ j
            · rw [if_pos g2] at j2
              exact hds k (j + 1) hi0 (by omega) (by omega) j2.symm
            · rw [if_neg g2] at j2
              exact hds j k j0 (by omega) hi1 j2
          have c0 := B_count0 S1
          rw [e112] at c0
          obtain ⟨J2, x2, S2, e2⟩ := A_dropNone S1 (I 118 (113 + k)) hwc hwl hni
          have ehi : ∀ j : Int, 107 ≤ j → j ≤ 109 → J2 118 j = I 118 j := fun j a b => by
            rw [e2, e1]
            unfold twS
            rw [if_neg (by omega), if_neg (by omega)]
          refine ⟨J2, start2 J2 ?_, S2, hB.of b0 ehi⟩
          clear hds ew hni
          refine x_eq rfl (by omega) (by omega) (fun g => absurd g he9) (fun _ => ?_)
          repeat refine x_step rfl ?_
          refine x_eq rfl (by omega) (by omega) (fun _ => ?_) (fun g => absurd h10.1 g)
          repeat refine x_step rfl ?_
          refine x_call rfl (B_count0 h) ?_
          repeat refine x_step rfl ?_
          refine x_le rfl (by omega) (by omega) (fun g => absurd g (by omega)) (fun _ => ?_)
          repeat refine x_step rfl ?_
          refine x_call rfl (B_count0 h) ?_
          refine x_call rfl hlo ?_
          repeat refine x_step rfl ?_
          refine x_call rfl (B_count0 h) ?_
          repeat refine x_step rfl ?_
          refine x_call rfl hwd ?_
          repeat refine x_step rfl ?_
          refine x_call rfl x1 ?_
          repeat refine x_step rfl ?_
          refine x_eq rfl (by omega) (by omega) (fun _ => ?_) (fun g => absurd rfl g)
          repeat refine x_step rfl ?_
          refine x_call rfl c0 ?_
          repeat refine x_step rfl ?_
          refine x_eq rfl (by omega) (by omega) (fun _ => ?_) (fun g => absurd rfl g)
          repeat refine x_step rfl ?_
          refine x_call rfl x2 ?_
          repeat refine x_step rfl ?_
          refine x_eq rfl (by omega) (by omega) (fun _ => ?_) (fun g => absurd rfl g)
          repeat refine x_step rfl ?_
          exact x_zret rfl rfl rfl (Or.inr rfl) rfl
        · -- a play by chance
          have hq : 0 ≤ nrm y / xpw 4 % 2147483648 % 81 ∧ nrm y / xpw 4 % 2147483648 % 81 ≤ 80 := by omega
          have play : ∀ d : Int, d = 0 ∨ d = 1 → ∃ J, XE mL_act (some (.inl 1)) (hN J) 463 [(6, .inl (nrm y / xpw 4 % 2147483648 % 81)), (5, .inl c), (0, .inr 3)] [.inl d] (hN I) ∧ SIM J ∧ SB (B + 1) J := by
            intro d hd
            generalize nrm y / xpw 4 % 2147483648 % 81 = q at *
            obtain ⟨J, x1, S1, e1, e2⟩ := A_play h c q d hc hl hq.1 hq.2 hd
            have hr : plR c q d := ⟨hc, hl, hq.1, hq.2, hd⟩
            have hR := RF_R I c q d
            have hwR := woS_R (I 118) c q d
            by_cases hz : RF I c q d = 0
            · rw [if_pos hz] at x1
              have e1 := e1 hz
              have hok := rf_ok (show rfS (I 118) (inM I) (rkZ (I 118) (I 118 106)) c q d = 0 from hz)
              obtain ⟨d1, d2, d3, d4⟩ := dp_hi h.1.2 (c := c) (q := q) (d := d) hl hok.2
              rw [← e1] at d1 d2 d3 d4
              refine ⟨J, ?_, S1, ?_⟩
              · repeat refine x_step rfl ?_
                refine x_call rfl (cL_reason h c q d hr) ?_
                repeat refine x_step rfl ?_
                refine x_le rfl (by omega) (by omega) (fun _ => ?_) (fun g => absurd (by omega) g)
                repeat refine x_step rfl ?_
                refine x_call rfl (cL_score h c q d hr hok.1) ?_
                repeat refine x_step rfl ?_
                refine x_call rfl x1 ?_
                repeat refine x_step rfl ?_
                refine x_eq rfl (by omega) (by omega) (fun _ => ?_) (fun g => absurd rfl g)
                repeat refine x_step rfl ?_
                exact x_zret rfl rfl rfl (Or.inr rfl) rfl
              · obtain ⟨s1, s2, s3⟩ := hB
                rcases htu with g | g
                · rw [g, show (107 : Int) + 0 = 107 by rfl] at d3
                  rw [g, show (107 : Int) + (1 - 0) = 108 by rfl] at d4
                  refine ⟨?_, ?_, ?_⟩ <;> omega
                · rw [g, show (107 : Int) + 1 = 108 by rfl] at d3
                  rw [g, show (107 : Int) + (1 - 1) = 107 by rfl] at d4
                  refine ⟨?_, ?_, ?_⟩ <;> omega
            · rw [if_neg hz] at x1
              refine ⟨J, ?_, S1, hB.of b0 (fun j _ _ => by rw [e2 hz])⟩
              repeat refine x_step rfl ?_
              refine x_call rfl (cL_reason h c q d hr) ?_
              repeat refine x_step rfl ?_
              refine x_le rfl (by omega) (by omega) (fun g => absurd g (by omega)) (fun _ => ?_)
              repeat refine x_step rfl ?_
              refine x_call rfl x1 ?_
              repeat refine x_step rfl ?_
              refine x_eq rfl (by omega) (by omega) (fun _ => ?_) (fun g => absurd rfl g)
              repeat refine x_step rfl ?_
              exact x_zret rfl rfl rfl (Or.inr rfl) rfl
          have there : ∀ J, (∀ L : XL, xsub L [(5, .inl c), (2, .inl y), (0, .inr 3)] → XE mL_act (some (.inl 1)) (hN J) 439 L [] (hN I)) → XE mL_act (some (.inl 1)) (hN J) 258 [(5, .inl c), (4, .inl how), (3, .inl (I 118 106)), (2, .inl y), (0, .inr 3)] [.inl 9, .inl how] (hN I) := by
            intro J k
            refine x_eq rfl (by omega) (by omega) (fun g => absurd g he9) (fun _ => ?_)
            repeat refine x_step rfl ?_
            refine x_eq rfl (by omega) (by omega) (fun g => ?_) (fun g => k _ (by exact ⟨rfl, rfl, rfl, trivial⟩))
            repeat refine x_step rfl ?_
            refine x_call rfl (B_count0 h) ?_
            repeat refine x_step rfl ?_
            refine x_le rfl (by omega) (by omega) (fun g2 => k _ (by exact ⟨rfl, rfl, rfl, trivial⟩)) (fun g2 => absurd ⟨g, by omega⟩ h10)
          by_cases hd : nrm y / xpw 3 % 2 = 1
          · obtain ⟨J, x1, S1, s1⟩ := play 1 (Or.inr rfl)
            refine ⟨J, start2 J (there J (fun L hL => ?_)), S1, s1⟩
            refine x_loc hL ?_
            repeat refine x_step rfl ?_
            refine x_ishrG rfl (by omega) (by omega) ?_
            repeat refine x_step rfl ?_
            refine x_call rfl (cL_low _ _ 81 (by omega) (by omega)) ?_
            repeat refine x_step rfl ?_
            refine x_ishrG rfl (by omega) (by omega) ?_
            repeat refine x_step rfl ?_
            refine x_iand1 rfl ?_
            repeat refine x_step rfl ?_
            refine x_eq rfl (by omega) (by omega) (fun _ => ?_) (fun g => absurd hd g)
            refine x_step rfl ?_
            refine x_step rfl ?_
            exact x_loc (by exact ⟨rfl, rfl, rfl, trivial⟩) x1
          · obtain ⟨J, x1, S1, s1⟩ := play 0 (Or.inl rfl)
            refine ⟨J, start2 J (there J (fun L hL => ?_)), S1, s1⟩
            refine x_loc hL ?_
            repeat refine x_step rfl ?_
            refine x_ishrG rfl (by omega) (by omega) ?_
            repeat refine x_step rfl ?_
            refine x_call rfl (cL_low _ _ 81 (by omega) (by omega)) ?_
            repeat refine x_step rfl ?_
            refine x_ishrG rfl (by omega) (by omega) ?_
            repeat refine x_step rfl ?_
            refine x_iand1 rfl ?_
            repeat refine x_step rfl ?_
            refine x_eq rfl (by omega) (by omega) (fun g => absurd g hd) (fun _ => ?_)
            refine x_step rfl ?_
            exact x_loc (by exact ⟨rfl, rfl, rfl, trivial⟩) x1
end ACTS
