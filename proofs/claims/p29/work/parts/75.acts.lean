/-! a play is made, tiles are swapped -/
theorem mpH_ne {I : Nat → Int → Int} {R a : Nat} {c q d : Int} (hR : R = 10 ∨ R = 12) (h : a < 4 ∨ 12 < a) (h2 : a ≠ 14) : mpH I R c q d a = I a := by
  unfold mpH
  rw [xup_ne (by omega), xup_ne (by omega)]
  unfold mpF fiH
  rw [xset_ne (by omega), xset_ne (by omega), xup_ne (by omega)]
  unfold mpK
  rw [xup_ne (by omega), plH_ne (by omega) (by omega)]
theorem swI_ne {I : Nat → Int → Int} {A a : Nat} (hA : A = 10 ∨ A = 12) (h : a < 4 ∨ 16 < a) : swI I A a = I a := by
  unfold swI fiH
  rw [xup_ne (by omega), xup_ne (by omega), mvH_ne (by omega) (by omega), xset_ne (by omega), xset_ne (by omega), xup_ne (by omega), mvH_ne (by omega) (by omega)]
theorem SIM.b14 {I : Nat → Int → Int} (h : SIM I) : 0 ≤ I 4 6 ∧ I 4 6 ≤ 65536 ∧ amR (I 14) := by
  have hG := h.1
  have e : I 4 6 = I 118 105 := hG.1.x 6 (by omega) (by omega)
  refine ⟨by rw [e]; exact hG.2.dr.1, by rw [e]; exact hG.2.dr.2, fun k a b => ?_⟩
  have e : I 14 k = bgZ (I 118) k := hG.1.bg k a b
  rw [e]
  exact hG.2.bz k a b
theorem A_play {I : Nat → Int → Int} (h : SIM I) (c q d : Int) (hc : InR c) (hl : 0 < lnS c) (h0 : 0 ≤ q) (h1 : q ≤ 80) (hd : d = 0 ∨ d = 1) : ∃ J, XR mB_play [.inr 3, .inl c, .inl q, .inl d] (hN I) (some (.inl (if RF I c q d = 0 then woS (I 118) c q d else -10 - RF I c q d))) (hN J) ∧ SIM J ∧ (RF I c q d = 0 → J 118 = dpZ (I 118) c q d) ∧ (RF I c q d ≠ 0 → J 118 = I 118) := by
  have hC := FQ.sim h (cdH_FQ I c q d)
  have hK := hC.pr
  have e8 : prH (cdH I c q d) 118 = I 118 := by rw [hC.p8]; exact (cdH_FQ I c q d).e8
  have hplC : PL (cdH I c q d) 112 113 c q d := PL_set I 112 113 (Or.inl ⟨rfl, rfl⟩) c q d
  have hpl : PL (prH (cdH I c q d)) 112 113 c q d := by
    unfold PL
    rw [prH_ne hC.2.2.1 (by omega), prH_ne hC.2.2.1 (by omega)]
    exact hplC
  have hr : plR c q d := ⟨hc, by omega, h0, h1, hd⟩
  obtain ⟨x0, x1, s0, s1⟩ := hC.x0
  have hG := hK.1
  have ht := hG.t01
  have hrf := hG.rf (c := c) h0 h1 hd
  have hwo := hG.wo c q d
  have hR := RF_R I c q d
  have hrF : rfS (prH (cdH I c q d) 118) (inM (prH (cdH I c q d))) (rkZ (prH (cdH I c q d) 118) (prH (cdH I c q d) 118 106)) c q d = RF I c q d := RF_c (J := prH (cdH I c q d)) e8 c q d
  have h6 : ttS (prH (cdH I c q d) (rkA (prH (cdH I c q d) 4 7))) ≤ 6 := by
    rw [ttS_c hG.rk]
    exact (hG.2.rn hG.2.tu).2
  have hcl := cG_makePlay (prH (cdH I c q d)) c q d hpl hr hG.bd8 hG.wr ht hG.az hK.b14 h6
  have hok := @rf_ok (prH (cdH I c q d) 118) (inM (prH (cdH I c q d))) (rkZ (prH (cdH I c q d) 118) (prH (cdH I c q d) 118 106)) c q d
  have hA2 : rkA (prH (cdH I c q d) 4 7) = 10 ∨ rkA (prH (cdH I c q d) 4 7) = 12 := by unfold rkA; split <;> simp
  have p30 : prH (cdH I c q d) 30 = cdH I c q d 30 := prH_ne hC.2.2.1 (by omega)
  rw [hrf, hrF, hwo] at hcl
  rw [hrF] at hok
  -- the class's way
  have cls : ∀ (v : Int) (X Y : Nat → Int → Int), XR mG_makePlay [.inr 4, .inr 112] (hN (prH (cdH I c q d))) (some (.inl v)) (hN X) → X 30 = cdH I c q d 30 → InR v → Y = (if 0 ≤ v then kpH X else X) → XR mB_play [.inr 3, .inl c, .inl q, .inl d] (hN I) (some (.inl v)) (hN Y) := by
    intro v X Y hX e30 hv hY
    refine XRa.of (by decide) (Nat.le_of_ble_eq_true rfl) ?_
    repeat refine x_step rfl ?_
    refine x_call rfl (cB_errorOf _ c q hc (by omega)) ?_
    rw [if_neg (show ¬ lnS c = 0 by omega), if_pos (show 0 ≤ q ∧ q ≤ 80 from ⟨h0, h1⟩)]
    repeat refine x_step rfl ?_
    refine x_eq rfl (by omega) (by omega) (fun w => ?_) (fun w => absurd rfl w)
    repeat refine x_step rfl ?_
    refine x_callv rfl (cP_setWord I 112 113 (Or.inl ⟨rfl, rfl⟩) c hc (by omega)) ?_
    repeat refine x_step rfl ?_
    refine x_callv rfl (cP_setPlace _ 112 113 (Or.inl ⟨rfl, rfl⟩) q d hd) ?_
    show XEa mB_play 0 0 0 0 _ _ _ _ _ (hN (cdH I c q d))
    repeat refine x_step rfl ?_
    refine x_callv rfl (cH_prepare (cdH I c q d) x0 x1 s0 s1) ?_
    repeat refine x_step rfl ?_
    refine x_call rfl hX ?_
    refine x_call rfl (cB_kept X (by rw [e30]; exact x0) (by rw [e30]; exact x1) (by rw [e30]; exact s0) (by rw [e30]; exact s1) v hv) ?_
    exact x_iret rfl rfl rfl (by rw [hY])
  by_cases hz : RF I c q d = 0
  · rw [if_pos hz, if_pos hz] at hcl
    rw [if_pos hz]
    have hok := hok hz
    have hwoR := woS_R (prH (cdH I c q d) 118) c q d
    have hgm := hG.mp (c := c) (q := q) (d := d) (by omega) hok.2
    have hwz := hG.2.dp (c := c) (q := q) (d := d) (by omega) hok.2
    have hkz := hK.2.2.2.dp hG.2 (by omega) h0 h1 hd hok.1 hok.2
    have hne : ∀ a : Nat, a < 4 ∨ 12 < a → a ≠ 14 → mpH (prH (cdH I c q d)) (rkA (prH (cdH I c q d) 4 7)) c q d a = prH (cdH I c q d) a := fun a w w2 => mpH_ne hA2 w w2
    generalize mpH (prH (cdH I c q d)) (rkA (prH (cdH I c q d) 4 7)) c q d = X at *
    have e30 : X 30 = cdH I c q d 30 := by rw [hne _ (by omega) (by omega), p30]
    rw [e8] at hgm hwz hkz hcl hwoR
    refine ⟨_, XR_ghost (dpZ (I 118) c q d) (cls _ X (kpH X) hcl e30 (by omega) (by rw [if_pos (by omega)])), hC.done (fun a w => hne a (by omega) (by omega)) hgm hwz hkz (fun k a b => by rw [hne 16 (by omega) (by omega)]; exact hK.2.1 k a b), fun _ => xset_at, fun w => absurd hz w⟩
  · rw [if_neg hz, if_neg hz] at hcl
    rw [if_neg hz]
    exact ⟨_, cls _ (prH (cdH I c q d)) (prH (cdH I c q d)) hcl p30 (by omega) (by rw [if_neg (by omega)]), hK, fun w => absurd w hz, fun _ => e8⟩
theorem A_swap {I : Nat → Int → Int} (h : SIM I) : ∃ J, XR mB_swap [.inr 3] (hN I) (some (.inl (if ttS (bgZ (I 118)) < ttS (rkZ (I 118) (I 118 106)) then -4 else ttS (rkZ (I 118) (I 118 106))))) (hN J) ∧ SIM J ∧ (ttS (bgZ (I 118)) < ttS (rkZ (I 118) (I 118 106)) → J 118 = I 118) ∧ (¬ ttS (bgZ (I 118)) < ttS (rkZ (I 118) (I 118 106)) → J 118 = swZ (I 118)) := by
  have hK := h.pr
  have hG := hK.1
  have e8 := h.p8
  obtain ⟨hgm, hAS⟩ := hG.sw hK.2.1
  have hwz := hG.2.sw
  have ht := hG.t01
  have htz := hG.2.tu
  have hrn := hG.2.rn htz
  have hA2 : rkA (prH I 4 7) = 10 ∨ rkA (prH I 4 7) = 12 := by unfold rkA; split <;> simp
  have hne : ∀ a : Nat, a < 4 ∨ 16 < a → swI (prH I) (rkA (prH I 4 7)) a = prH I a := fun a w => swI_ne hA2 w
  obtain ⟨x0, x1, s0, s1⟩ := h.x0
  have eb : ttS (prH I 14) = ttS (bgZ (prH I 118)) := ttS_c hG.1.bg
  have er : ttS (prH I (rkA (prH I 4 7))) = ttS (rkZ (prH I 118) (prH I 118 106)) := ttS_c hG.rk
  have hb14 := hK.b14
  have hcl := cG_makeSwap (prH I) ht hG.az hb14.2.2 ⟨hb14.1, hb14.2.1⟩
  have hkz := hK.2.2.2.sw hG.2
  rw [eb, er] at hcl
  generalize swI (prH I) (rkA (prH I 4 7)) = X at *
  rw [e8] at hcl hgm hwz hkz hrn
  have p30 : prH I 30 = I 30 := prH_ne h.2.2.1 (by omega)
  by_cases hc : ttS (bgZ (I 118)) < ttS (rkZ (I 118) (I 118 106))
  · rw [if_pos hc, if_pos hc] at hcl
    rw [if_pos hc]
    refine ⟨prH I, ?_, hK, fun _ => e8, fun w => absurd hc w⟩
    refine XRa.of (by decide) (Nat.le_of_ble_eq_true rfl) ?_
    repeat refine x_step rfl ?_
    refine x_callv rfl (cH_prepare I x0 x1 s0 s1) ?_
    repeat refine x_step rfl ?_
    refine x_call rfl hcl ?_
    refine x_call rfl (cB_kept (prH I) (by rw [p30]; exact x0) (by rw [p30]; exact x1) (by rw [p30]; exact s0) (by rw [p30]; exact s1) _ (by omega)) ?_
    rw [if_neg (by omega)]
    exact x_iret rfl rfl rfl rfl
  · rw [if_neg hc, if_neg hc] at hcl
    rw [if_neg hc]
    have e30 : X 30 = I 30 := by rw [hne _ (by omega), p30]
    refine ⟨_, XR_ghost (swZ (I 118)) (J := kpH X) ?_, h.done (fun a w => hne a w) hgm hwz (hkz (by omega)) hAS, fun w => absurd w hc, fun _ => xset_at⟩
    refine XRa.of (by decide) (Nat.le_of_ble_eq_true rfl) ?_
    repeat refine x_step rfl ?_
    refine x_callv rfl (cH_prepare I x0 x1 s0 s1) ?_
    repeat refine x_step rfl ?_
    refine x_call rfl hcl ?_
    refine x_call rfl (cB_kept X (by rw [e30]; exact x0) (by rw [e30]; exact x1) (by rw [e30]; exact s0) (by rw [e30]; exact s1) _ (by omega)) ?_
    rw [if_pos (by omega)]
    exact x_iret rfl rfl rfl rfl
/-! all holds at the beginning -/
theorem dl2_ne {a : Nat} (h : a ≠ 4) (h2 : a ≠ 10) (h3 : a ≠ 12) (h4 : a ≠ 14) : dl2 iC a = iC a := by
  have f : ∀ (X : Nat → Int → Int) (A : Nat) (st : TS3), A = 10 ∨ A = 12 → fiH X A st a = X a := fun X A st w => by
    unfold fiH
    rw [xset_ne (by omega), xset_ne (by omega), xup_ne (by omega)]
  unfold dl2
  rw [f _ 12 _ (Or.inr rfl)]
  unfold dl1
  rw [f _ 10 _ (Or.inl rfl)]
  exact xset_ne h4
def iS : Nat → Int → Int := xset (dl2 iC) 118 zF
theorem SIM_start : SIM iS ∧ ttS (bgZ (iS 118)) = 26 ∧ iS 0 0 = 0 ∧ ∀ j : Int, 106 ≤ j → iS 118 j = 0 := by
  have hd := cG_deal (I := iC) (iC_row 14 (by omega)) GM_start WZ_start (zB_tt (Or.inl rfl)) (zB_tt (Or.inr rfl))
  have fr : ∀ a : Nat, a ≠ 118 → iS a = dl2 iC a := fun a w => by unfold iS; rw [xset_ne w]
  have e118 : iS 118 = zF := xset_at
  have z : ∀ a : Nat, a = 16 ∨ a = 30 → iS a = fun _ => 0 := fun a w => by
    rw [fr a (by omega), dl2_ne (by omega) (by omega) (by omega) (by omega), iC_row _ (by omega)]
  have hw0 : WZ (fzS 0 6 zB) := WZ_start.fz (p := 0) (Or.inl rfl) 6 (by rw [zB_tt (Or.inl rfl)]; omega)
  have hk := KZ_start WZ_start hw0 hd.2.2 (zB_tt (Or.inl rfl)) (zB_tt (Or.inr rfl)) (fun k a b => zB_b a b) (fun j a => zB_0 (Or.inl a))
  refine ⟨⟨⟨?_, ?_⟩, fun k a b => by rw [z 16 (by omega)], ?_, ?_⟩, ?_, ?_, fun j a => ?_⟩
  · rw [e118]
    exact hd.2.1.congr (fun a a0 a1 => fr a (by omega)) (fun _ _ _ => rfl)
  · rw [e118]
    exact hd.2.2
  · unfold HS
    rw [z 30 (by omega)]
    exact ⟨by decide, by decide, by decide, by decide⟩
  · rw [e118]
    exact hk.1
  · rw [e118]
    exact hk.2
  · rw [fr 0 (by omega), dl2_ne (by omega) (by omega) (by omega) (by omega)]
    unfold iC
    rw [xup_ne (by omega), iHs_ne 6 0 (by omega), xup_ne (by omega), xup_ne (by omega)]
    rfl
  · rw [e118]
    unfold zF
    rw [fz_ne (Or.inr rfl) (by omega) 6 _ hw0.tz, fz_ne (Or.inl rfl) (by omega) 6 _ WZ_start.tz]
    exact zB_0 (Or.inr a)
