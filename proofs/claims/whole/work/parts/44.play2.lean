/-! the play that is made -/
theorem mpH_ne {I : Nat → Int → Int} {R a : Nat} {c q d : Int} (hR : R = 10 ∨ R = 12) (h : a < 4 ∨ 12 < a) (h2 : a ≠ 14) : mpH I R c q d a = I a := by
  unfold mpH
  rw [xup_ne (by omega), xup_ne (by omega)]
  unfold mpF fiH
  rw [xset_ne (by omega), xset_ne (by omega), xup_ne (by omega)]
  unfold mpK
  rw [xup_ne (by omega), plH_ne (by omega) (by omega)]
theorem rcH_o {X Y : Nat → Int → Int} (h : ∀ a : Nat, a ≠ 122 → a ≠ 123 → X a = Y a) {a : Nat} (h2 : a ≠ 122) (h3 : a ≠ 123) : rcH X a = rcH Y a := by
  have hc := rcH_c (h 117 (by omega) (by omega)) (h 118 (by omega) (by omega)) (h 119 (by omega) (by omega))
  by_cases e7 : a = 117
  · rw [e7]; exact hc.1
  · by_cases e9 : a = 119
    · rw [e9]; exact hc.2
    · rw [rcH_ne e7 e9, rcH_ne e7 e9]; exact h a h2 h3
theorem S_play {I : Nat → Int → Int} (h : SIM I) (c q d : Int) (hc : InR c) (hq : InR q) (hd : d = 0 ∨ d = 1) : SAM mB_play mM_play [.inl c, .inl q, .inl d] I := by
  by_cases h1 : lnS c = 0
  · refine S_err _ _ h (-2) ?_ ?_
    · refine XRa.of (by decide) (Nat.le_of_ble_eq_true rfl) ?_
      repeat refine x_step rfl ?_
      refine x_call rfl (cB_errorOf _ c q hc hq) ?_
      rw [if_pos h1]
      repeat refine x_step rfl ?_
      refine x_eq rfl (by omega) (by omega) (fun w => by omega) (fun w => ?_)
      repeat refine x_step rfl ?_
      exact x_iret rfl rfl rfl rfl
    · refine XRa.of (by decide) (Nat.le_of_ble_eq_true rfl) ?_
      repeat refine x_step rfl ?_
      refine x_call rfl (cM_isCode _ c hc) ?_
      rw [if_neg (by omega)]
      refine x_eq rfl (by omega) (by omega) (fun w => ?_) (fun w => absurd rfl w)
      repeat refine x_step rfl ?_
      exact x_iret rfl rfl rfl rfl
  · have hl := lnS_le c
    by_cases h2 : 0 ≤ q ∧ q ≤ 80
    · have hC := h.cd c q d
      have hK := hC.pr
      have hplC : PL (cdH I c q d) 112 113 c q d := PL_set I 112 113 (Or.inl ⟨rfl, rfl⟩) c q d
      have hpl : PL (prH (cdH I c q d)) 112 113 c q d := by
        unfold PL
        rw [prH_ne hC.2.2.1 (by omega), prH_ne hC.2.2.1 (by omega)]
        exact hplC
      have hr : plR c q d := ⟨hc, by omega, h2.1, h2.2, hd⟩
      obtain ⟨x0, x1, s0, s1, sm⟩ := hC.x0
      have hG := hK.1
      have ht := hG.t01
      have hrf := hG.rf (c := c) h2.1 h2.2 hd
      have hwo := hG.wo c q d
      have hR := rfS_R (prH (cdH I c q d) 118) (inM (prH (cdH I c q d))) (rkZ (prH (cdH I c q d) 118) (prH (cdH I c q d) 118 106)) c q d
      have hb14 : 0 ≤ prH (cdH I c q d) 4 6 ∧ prH (cdH I c q d) 4 6 ≤ 65536 ∧ amR (prH (cdH I c q d) 14) := by
        have e : prH (cdH I c q d) 4 6 = prH (cdH I c q d) 118 105 := hG.1.x 6 (by omega) (by omega)
        refine ⟨by rw [e]; exact hG.2.dr.1, by rw [e]; exact hG.2.dr.2, fun k a b => ?_⟩
        have e : prH (cdH I c q d) 14 k = bgZ (prH (cdH I c q d) 118) k := hG.1.bg k a b
        rw [e]
        exact hG.2.bz k a b
      have h6 : ttS (prH (cdH I c q d) (rkA (prH (cdH I c q d) 4 7))) ≤ 6 := by
        rw [ttS_c hG.rk]
        exact (hG.2.rn hG.2.tu).2
      have hcl := cG_makePlay (prH (cdH I c q d)) c q d hpl hr hG.bd8 hG.wr ht hG.az hb14 h6
      have hok := @rf_ok (prH (cdH I c q d) 118) (inM (prH (cdH I c q d))) (rkZ (prH (cdH I c q d) 118) (prH (cdH I c q d) 118 106)) c q d
      have hmr := fun (J : Nat → Int → Int) (e8 : J 118 = prH (cdH I c q d) 118) => cM_reasonOf J c q d hr (by rw [e8]; exact hG.2.bd) (by unfold wdM; rw [e8]; exact hG.wm) (by rw [e8]; exact hG.2.tu) (by rw [e8]; exact hG.2.az hG.2.tu)
      have hA2 : rkA (prH (cdH I c q d) 4 7) = 10 ∨ rkA (prH (cdH I c q d) 4 7) = 12 := by unfold rkA; split <;> simp
      have p30 : prH (cdH I c q d) 30 = cdH I c q d 30 := prH_ne hC.2.2.1 (by omega)
      have p7 : prH (cdH I c q d) 117 2 = cdH I c q d 117 2 := by rw [prH_ne hC.2.2.1 (by omega)]
      rw [hrf, hwo] at hcl
      -- the class's way
      have cls : ∀ (v : Int) (X Y : Nat → Int → Int), XR mG_makePlay [.inr 4, .inr 112] (hN (prH (cdH I c q d))) (some (.inl v)) (hN X) → X 30 = cdH I c q d 30 → InR v → Y = (if 0 ≤ v then kpH X else X) → XR mB_play [.inr 3, .inl c, .inl q, .inl d] (hN I) (some (.inl v)) (hN Y) := by
        intro v X Y hX e30 hv hY
        refine XRa.of (by decide) (Nat.le_of_ble_eq_true rfl) ?_
        repeat refine x_step rfl ?_
        refine x_call rfl (cB_errorOf _ c q hc hq) ?_
        rw [if_neg h1, if_pos h2]
        repeat refine x_step rfl ?_
        refine x_eq rfl (by omega) (by omega) (fun w => ?_) (fun w => absurd rfl w)
        repeat refine x_step rfl ?_
        refine x_callv rfl (cP_setWord I 112 113 (Or.inl ⟨rfl, rfl⟩) c hc (by omega)) ?_
        repeat refine x_step rfl ?_
        refine x_callv rfl (cP_setPlace _ 112 113 (Or.inl ⟨rfl, rfl⟩) q d hd) ?_
        show XEa mB_play 0 0 0 0 _ _ _ _ _ (hN (cdH I c q d))
        repeat refine x_step rfl ?_
        refine x_callv rfl (cH_prepare (cdH I c q d) x0 x1 s0 s1) ?_
        repeat refine x_step rfl ?_
        refine x_call rfl hX ?_
        refine x_call rfl (cB_kept X (by rw [e30]; exact x0) (by rw [e30]; exact x1) (by rw [e30]; exact s0) (by rw [e30]; exact s1) v hv) ?_
        exact x_iret rfl rfl rfl (by rw [hY])
      by_cases hz : rfS (prH (cdH I c q d) 118) (inM (prH (cdH I c q d))) (rkZ (prH (cdH I c q d) 118) (prH (cdH I c q d) 118 106)) c q d = 0
      · rw [if_pos hz, if_pos hz] at hcl
        have hok := hok hz
        have hwoR := woS_R (prH (cdH I c q d) 118) c q d
        have hgm := hG.mp (c := c) (q := q) (d := d) (by omega) hok.2
        have hwz := hG.2.dp (c := c) (q := q) (d := d) (by omega) hok.2
        have hne : ∀ a : Nat, a < 4 ∨ 12 < a → a ≠ 14 → mpH (prH (cdH I c q d)) (rkA (prH (cdH I c q d) 4 7)) c q d a = prH (cdH I c q d) a := fun a w w2 => mpH_ne hA2 w w2
        generalize mpH (prH (cdH I c q d)) (rkA (prH (cdH I c q d) 4 7)) c q d = X at *
        have e30 : X 30 = cdH I c q d 30 := by rw [hne _ (by omega) (by omega), p30]
        have e8 : kpH X 118 = prH (cdH I c q d) 118 := by rw [kpH_ne (by omega), hne _ (by omega) (by omega)]
        have e7k : kpH X 117 2 = cdH I c q d 117 2 := by rw [kpH_ne (by omega), hne _ (by omega) (by omega), p7]
        have hmr := hmr (kpH X) e8
        rw [e8, inM_c e8, hz] at hmr
        have ero : ∀ a : Nat, a ≠ 122 → a ≠ 123 → roH (kpH X) c q d a = kpH X a := fun a w w2 => roH_ne w w2
        generalize roH (kpH X) c q d = Y at *
        have hrc := cM_record Y (by rw [ero 117 (by omega) (by omega)]; omega) (by rw [ero 117 (by omega) (by omega)]; omega)
        have ero2 : ∀ a : Nat, a ≠ 122 → a ≠ 123 → rcH Y a = rcH (kpH X) a := fun a w w2 => rcH_o ero w w2
        have e8r : rcH Y 118 = prH (cdH I c q d) 118 := by rw [rcH_ne (by omega) (by omega), ero _ (by omega) (by omega), e8]
        generalize rcH Y = Z at *
        have hdo := cM_doPlay Z c q d hr (by rw [e8r]; exact hG.2) hok.1 (by rw [e8r]; exact hok.2)
        rw [e8r] at hdo
        refine ⟨woS (prH (cdH I c q d) 118) c q d, kpH X, xset (xset Z 122 (wrS (wrS (Z 122) c 0) c 0)) 118 (dpZ (prH (cdH I c q d) 118) c q d), cls _ X _ hcl e30 (by omega) (by rw [if_pos hwoR.1]), ?_, ?_⟩
        · refine XRa.of (by decide) (Nat.le_of_ble_eq_true rfl) ?_
          repeat refine x_step rfl ?_
          refine x_call rfl (cM_isCode _ c hc) ?_
          rw [if_pos (by omega)]
          refine x_eq rfl (by omega) (by omega) (fun w => by omega) (fun w => ?_)
          repeat refine x_step rfl ?_
          refine x_call rfl (cM_isSquare _ q hq) ?_
          rw [if_pos h2]
          refine x_eq rfl (by omega) (by omega) (fun w => by omega) (fun w => ?_)
          repeat refine x_step rfl ?_
          refine x_call rfl hmr ?_
          repeat refine x_step rfl ?_
          refine x_le rfl (by omega) (by omega) (fun w2 => ?_) (fun w2 => by omega)
          repeat refine x_step rfl ?_
          refine x_callv rfl hrc ?_
          repeat refine x_step rfl ?_
          refine x_call rfl hdo ?_
          exact x_iret rfl rfl rfl rfl
        · refine hC.done (X := X) (fun a w => hne a (by omega) (by omega)) (fun a w4 w5 w6 => ?_) xset_at hgm hwz (fun k a b => by rw [hne 16 (by omega) (by omega)]; exact hK.2.1 k a b)
          rw [xset_ne w4, xset_ne w5]
          exact ero2 a w5 w6
      · rw [if_neg hz, if_neg hz] at hcl
        have hmr := hmr (prH (cdH I c q d)) rfl
        refine ⟨_, prH (cdH I c q d), roH (prH (cdH I c q d)) c q d, cls _ _ _ hcl p30 (by omega) (by rw [if_neg (by omega)]), ?_, hK.ro c q d⟩
        refine XRa.of (by decide) (Nat.le_of_ble_eq_true rfl) ?_
        repeat refine x_step rfl ?_
        refine x_call rfl (cM_isCode _ c hc) ?_
        rw [if_pos (by omega)]
        refine x_eq rfl (by omega) (by omega) (fun w => by omega) (fun w => ?_)
        repeat refine x_step rfl ?_
        refine x_call rfl (cM_isSquare _ q hq) ?_
        rw [if_pos h2]
        refine x_eq rfl (by omega) (by omega) (fun w => by omega) (fun w => ?_)
        repeat refine x_step rfl ?_
        refine x_call rfl hmr ?_
        repeat refine x_step rfl ?_
        refine x_le rfl (by omega) (by omega) (fun w2 => by omega) (fun w2 => ?_)
        repeat refine x_step rfl ?_
        exact x_iret rfl rfl rfl rfl
    · refine S_err _ _ h (-1) ?_ ?_
      · refine XRa.of (by decide) (Nat.le_of_ble_eq_true rfl) ?_
        repeat refine x_step rfl ?_
        refine x_call rfl (cB_errorOf _ c q hc hq) ?_
        rw [if_neg h1, if_neg h2]
        repeat refine x_step rfl ?_
        refine x_eq rfl (by omega) (by omega) (fun w => by omega) (fun w => ?_)
        repeat refine x_step rfl ?_
        exact x_iret rfl rfl rfl rfl
      · refine XRa.of (by decide) (Nat.le_of_ble_eq_true rfl) ?_
        repeat refine x_step rfl ?_
        refine x_call rfl (cM_isCode _ c hc) ?_
        rw [if_pos (by omega)]
        refine x_eq rfl (by omega) (by omega) (fun w => by omega) (fun w => ?_)
        repeat refine x_step rfl ?_
        refine x_call rfl (cM_isSquare _ q hq) ?_
        rw [if_neg h2]
        refine x_eq rfl (by omega) (by omega) (fun w => ?_) (fun w => absurd rfl w)
        repeat refine x_step rfl ?_
        exact x_iret rfl rfl rfl rfl
