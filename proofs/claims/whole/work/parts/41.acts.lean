/-! the actions of one step -/
theorem SIM.free {I J : Nat → Int → Int} (h : SIM I) (hs : ∀ a : Nat, a ≤ 109 ∨ a = 111 ∨ (118 ≤ a ∧ a ≤ 121) → J a = I a) (h110 : J 110 1 = I 110 1) (h117 : ∀ f : Int, f = 2 ∨ f = 4 ∨ f = 6 ∨ f = 7 → J 117 f = I 117 f) : SIM J := by
  obtain ⟨hG, hA, hH, hS, hT, h7⟩ := h
  refine ⟨⟨hG.1.congr (fun a a0 a1 => hs a (by omega)) (fun j _ _ => by rw [hs 118 (by omega)]), by rw [hs 118 (by omega)]; exact hG.2⟩, fun k a b => by rw [hs 16 (by omega)]; exact hA k a b, ?_, hS.of (by rw [hs 3 (by omega)]) (h117 4 (by omega)) (fun a a0 a1 => hs a (by omega)) (hs 120 (by omega)), hT.of h110 (h117 6 (by omega)) (hs 111 (by omega)) (hs 121 (by omega)), by rw [hs 3 (by omega), h117 7 (by omega)]; exact h7⟩
  unfold HS at hH ⊢
  rw [hs 30 (by omega), h117 2 (by omega), hs 119 (by omega)]
  refine ⟨hH.1, hH.2.1, hH.2.2.1, hH.2.2.2.1, hH.2.2.2.2.1, fun a a0 a1 => ?_⟩
  have hc := rwS_cases (I 30 1) a (by have := hH.1; omega)
  obtain ⟨g, w⟩ := hH.2.2.2.2.2 a a0 a1
  exact ⟨g.congr (fun b b0 b1 => hs b (by omega)) (fun _ _ _ => rfl), w⟩
theorem kpH_ne {I : Nat → Int → Int} {a : Nat} (h : a ≠ 30) : kpH I a = I a := by
  unfold kpH
  split
  · exact xup_ne h
  · exact xup_ne h
theorem kpH_30 {X Y : Nat → Int → Int} (h : X 30 = Y 30) : kpH X 30 = kpH Y 30 := by
  funext f
  unfold kpH
  rw [h]
  by_cases w : Y 30 2 < 5
  · rw [if_pos w, if_pos w, xup_at, xup_at, h]
  · rw [if_neg w, if_neg w, xup_at, xup_at, h]
theorem rcH_c {X Y : Nat → Int → Int} (h7 : X 117 = Y 117) (h8 : X 118 = Y 118) (h9 : X 119 = Y 119) : rcH X 117 = rcH Y 117 ∧ rcH X 119 = rcH Y 119 := by
  unfold rcH
  rw [h7, h8, h9]
  constructor
  · funext f
    rw [xup_at, xup_at, xset_ne (by omega), xset_ne (by omega), h7]
  · rw [xup_ne (by omega), xup_ne (by omega), xset_at, xset_at]
theorem SIM.pr {I : Nat → Int → Int} (h : SIM I) : SIM (prH I) := h.prep (fun _ _ _ => rfl) (fun a w => prH_ne h.2.2.1 (by omega))
/-- the end of an action that puts a state down -/
theorem SIM.done {I X J : Nat → Int → Int} {z' : Int → Int} (h : SIM I) (hX : ∀ a : Nat, a < 4 ∨ 16 < a → X a = prH I a) (hJ : ∀ a : Nat, a ≠ 118 → a ≠ 122 → a ≠ 123 → J a = rcH (kpH X) a) (h118 : J 118 = z') (hg : GM X 4 z') (hw : WZ z') (ha : AS X) : SIM J := by
  have hH := h.2.2.1
  have e30 : X 30 = I 30 := by rw [hX 30 (by omega), prH_ne hH (by omega)]
  have hc := rcH_c (X := kpH X) (Y := I) (by rw [kpH_ne (by omega), hX _ (by omega), prH_ne hH (by omega)]) (by rw [kpH_ne (by omega), hX _ (by omega), prH_ne hH (by omega)]) (by rw [kpH_ne (by omega), hX _ (by omega), prH_ne hH (by omega)])
  have hJX : ∀ a : Nat, a ≠ 30 → a ≠ 117 → a ≠ 119 → a ≠ 118 → a ≠ 122 → a ≠ 123 → J a = X a := fun a w1 w2 w3 w4 w5 w6 => by rw [hJ a w4 w5 w6, rcH_ne w2 w3, kpH_ne w1]
  refine h.keep (by rw [h118]; exact hg.congr (fun a a0 a1 => hJX a (by omega) (by omega) (by omega) (by omega) (by omega) (by omega)) (fun _ _ _ => rfl)) (by rw [h118]; exact hw) (fun k a b => by rw [hJX 16 (by omega) (by omega) (by omega) (by omega) (by omega) (by omega)]; exact ha k a b) (fun a a0 a1 => by rw [hJX a (by omega) (by omega) (by omega) (by omega) (by omega) (by omega)]; exact hX a (by omega)) ?_ ?_ ?_ (fun a w => by rw [hJX a (by omega) (by omega) (by omega) (by omega) (by omega) (by omega), hX a (by omega), prH_ne hH (by omega)])
  · rw [hJ 30 (by omega) (by omega) (by omega), rcH_ne (by omega) (by omega)]
    exact kpH_30 e30
  · rw [hJ 119 (by omega) (by omega) (by omega), hc.2]
  · intro f
    rw [hJ 117 (by omega) (by omega) (by omega), hc.1]
section ACT
variable {I : Nat → Int → Int}
theorem SIM.x0 (h : SIM I) : 0 ≤ I 30 1 ∧ I 30 1 ≤ 5 ∧ 0 ≤ I 30 2 ∧ I 30 2 ≤ 5 ∧ I 117 2 = I 30 2 := ⟨h.2.2.1.1, h.2.2.1.2.1, h.2.2.1.2.2.1, h.2.2.1.2.2.2.1, h.2.2.1.2.2.2.2.1⟩
theorem lwI_ne {c : Int} {a : Nat} (h5 : a ≠ 5) (h6 : a ≠ 6) : lwI I c a = I a := by
  unfold lwI
  split
  · rfl
  · split
    · rfl
    · split
      · rfl
      · rw [xup_ne h5, xup_ne h6]
theorem ulI_ne {c : Int} {a : Nat} (h5 : a ≠ 5) (h6 : a ≠ 6) : ulI I c a = I a := by
  unfold ulI
  split
  · rfl
  · split
    · rw [xup_ne h5, xset_ne h6]
    · rfl
theorem cB_addWord (h : SIM I) (c : Int) (hc : InR c) : XR mB_addWord [.inr 3, .inl c] (hN I) (some (.inl (lwR (prH I) c))) (hN (if 0 ≤ lwR (prH I) c then kpH (lwI (prH I) c) else lwI (prH I) c)) := by
  refine XRa.of (by decide) (Nat.le_of_ble_eq_true rfl) ?_
  obtain ⟨x0, x1, s0, s1, -⟩ := h.x0
  have hK := h.pr
  have e30 : lwI (prH I) c 30 = I 30 := by rw [lwI_ne (by omega) (by omega), prH_ne h.2.2.1 (by omega)]
  have hR : InR (lwR (prH I) c) := by
    have := hK.1.wr
    unfold lwR
    split
    · omega
    · split
      · omega
      · split <;> omega
  repeat refine x_step rfl ?_
  refine x_callv rfl (cH_prepare I x0 x1 s0 s1) ?_
  repeat refine x_step rfl ?_
  refine x_call rfl (cG_listWord (prH I) hK.1.wr c hc) ?_
  refine x_call rfl (cB_kept _ (by rw [e30]; exact x0) (by rw [e30]; exact x1) (by rw [e30]; exact s0) (by rw [e30]; exact s1) _ hR) ?_
  exact x_iret rfl rfl rfl rfl
theorem cB_dropWord (h : SIM I) (c : Int) (hc : InR c) : XR mB_dropWord [.inr 3, .inl c] (hN I) (some (.inl (ulR (prH I) c))) (hN (if 0 ≤ ulR (prH I) c then kpH (ulI (prH I) c) else ulI (prH I) c)) := by
  refine XRa.of (by decide) (Nat.le_of_ble_eq_true rfl) ?_
  obtain ⟨x0, x1, s0, s1, -⟩ := h.x0
  have hK := h.pr
  have e30 : ulI (prH I) c 30 = I 30 := by rw [ulI_ne (by omega) (by omega), prH_ne h.2.2.1 (by omega)]
  have hR : InR (ulR (prH I) c) := by
    have h1 := hK.1.wr
    have := noS_R (prH I) h1.1 h1.2.1 c
    have := h1.2.1
    unfold ulR
    split <;> omega
  repeat refine x_step rfl ?_
  refine x_callv rfl (cH_prepare I x0 x1 s0 s1) ?_
  repeat refine x_step rfl ?_
  refine x_call rfl (cG_unlistWord (prH I) hK.1.wr c hc) ?_
  refine x_call rfl (cB_kept _ (by rw [e30]; exact x0) (by rw [e30]; exact x1) (by rw [e30]; exact s0) (by rw [e30]; exact s1) _ hR) ?_
  exact x_iret rfl rfl rfl rfl
theorem S_addWord (h : SIM I) (c : Int) (hc : InR c) : SAM mB_addWord mM_addWord [.inl c] I := by
  have hB := cB_addWord h c hc
  have hK := h.pr
  have hG := hK.1
  have hno := hG.no c
  have hm := hG.m
  have hmn := hG.2.mn
  have hwm := hG.wm
  by_cases h1 : lnS c = 0
  · have e : lwR (prH I) c = -2 := by unfold lwR; rw [if_pos h1]
    have e2 : lwI (prH I) c = prH I := by unfold lwI; rw [if_pos h1]
    rw [e, e2, if_neg (by omega)] at hB
    refine ⟨-2, _, _, hB, ?_, hK⟩
    refine XRa.of (by decide) (Nat.le_of_ble_eq_true rfl) ?_
    repeat refine x_step rfl ?_
    refine x_call rfl (cM_isCode _ c hc) ?_
    rw [if_neg (by omega)]
    refine x_eq rfl (by omega) (by omega) (fun w => ?_) (fun w => absurd rfl w)
    repeat refine x_step rfl ?_
    exact x_iret rfl rfl rfl rfl
  · have hl := lnS_le c
    by_cases h2 : wnM (prH I) c < 0
    · have e : lwR (prH I) c = wnM (prH I) c := by
        unfold lwR wnM
        rw [if_neg h1]
        by_cases w : 0 ≤ noM (prH I) c
        · rw [if_pos (hno.1.mpr w), if_pos w]
        · rw [if_neg (fun v => w (hno.1.mp v)), if_neg w, hm]
          unfold wnM at h2
          rw [if_neg w] at h2
          by_cases w2 : prH I 118 112 = 20
          · rw [if_pos w2, if_pos w2]
          · rw [if_neg w2] at h2; omega
      have e2 : lwI (prH I) c = prH I := by
        unfold lwI
        rw [if_neg h1]
        by_cases w : 0 ≤ noM (prH I) c
        · rw [if_pos (hno.1.mpr w)]
        · rw [if_neg (fun v => w (hno.1.mp v)), hm]
          unfold wnM at h2
          rw [if_neg w] at h2
          by_cases w2 : prH I 118 112 = 20
          · rw [if_pos w2]
          · rw [if_neg w2] at h2; omega
      have hwR : InR (wnM (prH I) c) := by
        unfold wnM
        split
        · omega
        · split <;> omega
      rw [e, e2, if_neg (by omega)] at hB
      refine ⟨_, _, _, hB, ?_, hK⟩
      refine XRa.of (by decide) (Nat.le_of_ble_eq_true rfl) ?_
      repeat refine x_step rfl ?_
      refine x_call rfl (cM_isCode _ c hc) ?_
      rw [if_pos (by omega)]
      refine x_eq rfl (by omega) (by omega) (fun w => by omega) (fun w => ?_)
      repeat refine x_step rfl ?_
      refine x_call rfl (cM_whyNoNewWord _ hwm c hc) ?_
      refine x_le rfl (by omega) (by omega) (fun w => by omega) (fun w => ?_)
      repeat refine x_step rfl ?_
      refine x_call rfl (cM_whyNoNewWord _ hwm c hc) ?_
      exact x_iret rfl rfl rfl rfl
    · have w1 : ¬ 0 ≤ noM (prH I) c := fun w => h2 (by unfold wnM; rw [if_pos w]; omega)
      have w2 : prH I 118 112 ≠ 20 := fun w => h2 (by unfold wnM; rw [if_neg w1, if_pos w]; omega)
      have w3 : ¬ 0 ≤ noS (prH I) c := fun v => w1 (hno.1.mp v)
      have e : lwR (prH I) c = prH I 118 112 := by unfold lwR; rw [if_neg h1, if_neg w3, if_neg (by omega), hm]
      have e2 : lwI (prH I) c = xup (xup (prH I) 6 (prH I 5 1) c) 5 1 (prH I 5 1 + 1) := by unfold lwI; rw [if_neg h1, if_neg w3, if_neg (by omega)]
      have hgm := hG.1.pw (by omega) c
      have hwz := hG.2.pw (c := c) (by omega) hc (fun k a b g => by
        refine absurd ((noM_in hwm.1 c).mpr ?_) w1
        exact ⟨k, a, b, g⟩) (by omega)
      rw [e, if_pos hmn.1] at hB
      have hne := fun (a : Nat) (w5 : a ≠ 5) (w6 : a ≠ 6) => lwI_ne (I := prH I) (c := c) w5 w6
      rw [← e2] at hgm
      generalize lwI (prH I) c = X at *
      have e7 : kpH X 117 2 = I 117 2 := by rw [kpH_ne (by omega), hne _ (by omega) (by omega), prH_ne h.2.2.1 (by omega)]
      have e8 : kpH X 118 = prH I 118 := by rw [kpH_ne (by omega), hne _ (by omega) (by omega)]
      have e8r : rcH (kpH X) 118 = prH I 118 := by rw [rcH_ne (by omega) (by omega), e8]
      have hx := h.x0
      refine ⟨_, _, xset (rcH (kpH X)) 118 (pwS (rcH (kpH X) 118) c), hB, ?_, ?_⟩
      · refine XRa.of (by decide) (Nat.le_of_ble_eq_true rfl) ?_
        repeat refine x_step rfl ?_
        refine x_call rfl (cM_isCode _ c hc) ?_
        rw [if_pos (by omega)]
        refine x_eq rfl (by omega) (by omega) (fun w => by omega) (fun w => ?_)
        repeat refine x_step rfl ?_
        have ewn : wnM (kpH X) c = 0 := by
          have : noM (kpH X) c = noM (prH I) c := by unfold noM; rw [e8]
          unfold wnM
          rw [this, if_neg w1, e8, if_neg w2]
        refine x_call rfl (cM_whyNoNewWord _ (by unfold wdM; rw [e8]; exact hwm) c hc) ?_
        rw [ewn]
        refine x_le rfl (by omega) (by omega) (fun w => ?_) (fun w => by omega)
        repeat refine x_step rfl ?_
        refine x_callv rfl (cM_record (kpH X) (by omega) (by omega)) ?_
        repeat refine x_step rfl ?_
        refine x_callv rfl (cM_putWord (rcH (kpH X)) (by rw [e8r]; exact hmn.1) (by rw [e8r]; omega) c) ?_
        repeat refine x_step rfl ?_
        refine x_ald (len := 132) rfl (by omega) (by omega) ?_
        repeat refine x_step rfl ?_
        refine x_iret rfl rfl ?_ rfl
        rw [xset_at]
        unfold pwS
        rw [if_pos rfl, e8r]
        omega
      · refine h.done (X := X) (fun a w => hne a (by omega) (by omega)) (fun a w4 _ _ => xset_ne w4) (xset_at.trans (by rw [e8r])) hgm hwz (fun k a b => by rw [hne 16 (by omega) (by omega)]; exact hK.2.1 k a b)
theorem S_dropWord (h : SIM I) (c : Int) (hc : InR c) : SAM mB_dropWord mM_dropWord [.inl c] I := by
  have hB := cB_dropWord h c hc
  have hK := h.pr
  have hG := hK.1
  have hno := hG.no c
  have hm := hG.m
  have hmn := hG.2.mn
  have hwm := hG.wm
  have hnR := noM_R (prH I) hwm.1 hwm.2.1 c
  have hsR := noS_R (prH I) hG.wr.1 hG.wr.2.1 c
  by_cases h1 : lnS c = 0
  · have e : ulR (prH I) c = -2 := by unfold ulR; rw [if_pos h1]
    have e2 : ulI (prH I) c = prH I := by unfold ulI; rw [if_pos h1]
    rw [e, e2, if_neg (by omega)] at hB
    refine ⟨-2, _, _, hB, ?_, hK⟩
    refine XRa.of (by decide) (Nat.le_of_ble_eq_true rfl) ?_
    repeat refine x_step rfl ?_
    refine x_call rfl (cM_isCode _ c hc) ?_
    rw [if_neg (by omega)]
    refine x_eq rfl (by omega) (by omega) (fun w => ?_) (fun w => absurd rfl w)
    repeat refine x_step rfl ?_
    exact x_iret rfl rfl rfl rfl
  · have hl := lnS_le c
    have e : ulR (prH I) c = noS (prH I) c := by unfold ulR; rw [if_neg h1]
    by_cases w1 : 0 ≤ noM (prH I) c
    · have en := hno.2 w1
      have e2 : ulI (prH I) c = xup (xset (prH I) 6 (rmS (prH I 6) (noM (prH I) c) (prH I 5 1 - 1))) 5 1 (prH I 5 1 - 1) := by unfold ulI; rw [if_neg h1, if_pos (hno.1.mpr w1), en]
      have hgm := hG.1.tw hmn w1 (by omega)
      have hwz := hG.2.tw w1 (by omega)
      rw [e, en, if_pos w1] at hB
      have hne := fun (a : Nat) (w5 : a ≠ 5) (w6 : a ≠ 6) => ulI_ne (I := prH I) (c := c) w5 w6
      rw [← e2] at hgm
      generalize ulI (prH I) c = X at *
      have e8 : kpH X 118 = prH I 118 := by rw [kpH_ne (by omega), hne _ (by omega) (by omega)]
      have e7 : kpH X 117 2 = I 117 2 := by rw [kpH_ne (by omega), hne _ (by omega) (by omega), prH_ne h.2.2.1 (by omega)]
      have e8r : rcH (kpH X) 118 = prH I 118 := by rw [rcH_ne (by omega) (by omega), e8]
      have hx := h.x0
      have enM : noM (kpH X) c = noM (prH I) c := by unfold noM; rw [e8]
      refine ⟨_, _, xset (rcH (kpH X)) 118 (twS (rcH (kpH X) 118) (noM (prH I) c)), hB, ?_, ?_⟩
      · refine XRa.of (by decide) (Nat.le_of_ble_eq_true rfl) ?_
        repeat refine x_step rfl ?_
        refine x_call rfl (cM_isCode _ c hc) ?_
        rw [if_pos (by omega)]
        refine x_eq rfl (by omega) (by omega) (fun w => by omega) (fun w => ?_)
        repeat refine x_step rfl ?_
        refine x_call rfl (cM_find _ (by unfold wdM; rw [e8]; exact hwm) c hc) ?_
        rw [enM]
        repeat refine x_step rfl ?_
        refine x_le rfl (by omega) (by omega) (fun w => ?_) (fun w => by omega)
        repeat refine x_step rfl ?_
        refine x_callv rfl (cM_record (kpH X) (by omega) (by omega)) ?_
        repeat refine x_step rfl ?_
        refine x_callv rfl (cM_takeWord (rcH (kpH X)) (by rw [e8r]; exact hmn.1) (by rw [e8r]; omega) _ w1 (by rw [e8r]; omega)) ?_
        repeat refine x_step rfl ?_
        exact x_iret rfl rfl rfl rfl
      · refine h.done (X := X) (fun a w => hne a (by omega) (by omega)) (fun a w4 _ _ => xset_ne w4) (xset_at.trans (by rw [e8r])) hgm hwz (fun k a b => by rw [hne 16 (by omega) (by omega)]; exact hK.2.1 k a b)
    · have w3 : ¬ 0 ≤ noS (prH I) c := fun v => w1 (hno.1.mp v)
      have e3 : noS (prH I) c = -1 := by omega
      have e2 : ulI (prH I) c = prH I := by unfold ulI; rw [if_neg h1, if_neg w3]
      rw [e, e2, e3, if_neg (by omega)] at hB
      refine ⟨-1, _, _, hB, ?_, hK⟩
      refine XRa.of (by decide) (Nat.le_of_ble_eq_true rfl) ?_
      repeat refine x_step rfl ?_
      refine x_call rfl (cM_isCode _ c hc) ?_
      rw [if_pos (by omega)]
      refine x_eq rfl (by omega) (by omega) (fun w => by omega) (fun w => ?_)
      repeat refine x_step rfl ?_
      refine x_call rfl (cM_find _ hwm c hc) ?_
      repeat refine x_step rfl ?_
      refine x_le rfl (by omega) (by omega) (fun w => by omega) (fun w => ?_)
      repeat refine x_step rfl ?_
      exact x_iret rfl rfl rfl rfl
theorem S_pass (h : SIM I) : SAM mB_pass mM_pass [] I := by
  have hK := h.pr
  have hG := hK.1
  have h01 := hG.2.tu
  have e7 : prH I 4 7 = prH I 118 106 := hG.t
  have e11 : prH I 4 11 = prH I 118 110 := hG.1.x 11 (by omega) (by omega)
  have hgm := (hG.1.f (f := 11) (by omega) (by omega) (prH I 4 11 + 1)).f (f := 7) (by omega) (by omega) (1 - prH I 4 7)
  have hwz := (hG.2.f (j := 110) (v := prH I 118 110 + 1) (by omega) (by omega) (fun w => by omega)).f (j := 106) (v := 1 - prH I 118 106) (by omega) (by omega) (fun w => by omega)
  rw [show (99 : Int) + 7 = 106 by omega, show (99 : Int) + 11 = 110 by omega] at hgm
  obtain ⟨x0, x1, s0, s1, sm⟩ := h.x0
  have hpass := cG_makePass (prH I)
  have hne : ∀ a : Nat, a ≠ 4 → xup (xup (prH I) 4 11 (prH I 4 11 + 1)) 4 7 (1 - prH I 4 7) a = prH I a := fun a w => by rw [xup_ne w, xup_ne w]
  have key : SAM mB_pass mM_pass [] I := by
    generalize xup (xup (prH I) 4 11 (prH I 4 11 + 1)) 4 7 (1 - prH I 4 7) = X at *
    rw [e7, e11] at hgm
    have e30 : X 30 = I 30 := by rw [hne _ (by omega), prH_ne h.2.2.1 (by omega)]
    have e8 : kpH X 118 = prH I 118 := by rw [kpH_ne (by omega), hne _ (by omega)]
    have e7k : kpH X 117 2 = I 117 2 := by rw [kpH_ne (by omega), hne _ (by omega), prH_ne h.2.2.1 (by omega)]
    have e8r : rcH (kpH X) 118 = prH I 118 := by rw [rcH_ne (by omega) (by omega), e8]
    refine ⟨1 - prH I 4 7, kpH X, xset (rcH (kpH X)) 118 (upF (upF (prH I 118) 110 (prH I 118 110 + 1)) 106 (1 - prH I 118 106)), ?_, ?_, ?_⟩
    · refine XRa.of (by decide) (Nat.le_of_ble_eq_true rfl) ?_
      repeat refine x_step rfl ?_
      refine x_callv rfl (cH_prepare I x0 x1 s0 s1) ?_
      repeat refine x_step rfl ?_
      refine x_call rfl hpass ?_
      refine x_call rfl (cB_kept X (by rw [e30]; exact x0) (by rw [e30]; exact x1) (by rw [e30]; exact s0) (by rw [e30]; exact s1) _ (by omega)) ?_
      rw [if_pos (by omega)]
      exact x_iret rfl rfl rfl rfl
    · refine XRa.of (by decide) (Nat.le_of_ble_eq_true rfl) ?_
      repeat refine x_step rfl ?_
      refine x_callv rfl (cM_record (kpH X) (by omega) (by omega)) ?_
      repeat refine x_step rfl ?_
      refine x_ald (len := 132) rfl (by omega) (by omega) ?_
      rw [e8r]
      repeat refine x_step rfl ?_
      refine x_ast (len := 132) rfl (by omega) (by omega) ?_
      rw [xup_set, e8r]
      repeat refine x_step rfl ?_
      refine x_ald (len := 132) rfl (by omega) (by omega) ?_
      rw [xset_at, show upF (prH I 118) 110 (prH I 118 110 + 1) 106 = prH I 118 106 from if_neg (by omega)]
      repeat refine x_step rfl ?_
      refine x_ast (len := 132) rfl (by omega) (by omega) ?_
      rw [xup_set, xset_xset, xset_at]
      repeat refine x_step rfl ?_
      refine x_ald (len := 132) rfl (by omega) (by omega) ?_
      refine x_iret rfl rfl ?_ rfl
      rw [xset_at, e7]
      exact if_pos rfl
    · exact h.done (X := X) (fun a w => hne a (by omega)) (fun a w4 _ _ => xset_ne w4) xset_at hgm hwz (fun k a b => by rw [hne 16 (by omega)]; exact hK.2.1 k a b)
  exact key
end ACT
