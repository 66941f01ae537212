/-! what holds of the class between two calls; row 118 is no cell: it tells the game in numbers -/
theorem xRel_rows {G : XG} {n : Nat} {r : Nat → Nat → Option Nat} {I I' : Nat → Int → Int} {H : Heap} (hI : ∀ a : Nat, a ≠ 118 → I' a = I a) (hR : xRel G (n, r, I) H) : xRel G (n, r, I') H := by
  have e0 : exN (n, r, I') = exN (n, r, I) := by unfold exN; dsimp only; rw [hI 0 (by omega)]
  have h117 : n ≤ 117 := hR.2.2.1
  refine ⟨⟨by rw [e0]; exact hR.1.1, fun t ht => ?_⟩, hR.2.1, hR.2.2.1, fun k k3 kn => ?_⟩
  · rw [e0] at ht
    have h3 := hR.1.2 t ht
    unfold xEx at h3 ⊢
    dsimp only at h3 ⊢
    rw [hI (200 + t) (by omega)]
    exact h3
  · have kn : k < n := kn
    have h3 := hR.2.2.2 k k3 kn
    unfold xAt at h3 ⊢
    unfold xvl at h3 ⊢
    dsimp only at h3 ⊢
    rw [hI k (by omega)]
    exact h3
theorem XR_ghost {y : Nat} {as : List XV} {h : XH} {v : Option XV} {J : Nat → Int → Int} (z : Int → Int) (hB : XR y as h v (hN J)) : XR y as h v (hN (xset J 118 z)) := by
  intro l G p e ha hc hk s m args below hf happ hP ht
  obtain ⟨k, o, h1, h2, h3, hQ, L, hF, hL⟩ := hB l G p e ha hc hk s m args below hf happ hP ht
  exact ⟨k, o, h1, h2, h3, ⟨hQ.1, xRel_rows (fun a w => xset_ne w) hQ.2.1, hQ.2.2⟩, L, hF, hL⟩
def HS (I : Nat → Int → Int) : Prop := 0 ≤ I 30 1 ∧ I 30 1 ≤ 5 ∧ 0 ≤ I 30 2 ∧ I 30 2 ≤ 5
/-- tiles are never lost; a bag with tiles leaves no rack short -/
def cntZ (z : Int → Int) (l : Int) (n : Nat) : Int := xsm (fun j => if z j = l then 1 else 0) n
abbrev KZ (z : Int → Int) : Prop := (∀ l : Int, 1 ≤ l → l ≤ 8 → cntZ z l 81 + z (80 + l) + z (88 + l) + z (96 + l) = xSUPP l.toNat) ∧ (ttS (bgZ z) = 0 ∨ (ttS (rkZ z 0) = 6 ∧ ttS (rkZ z 1) = 6))
def SIM (I : Nat → Int → Int) : Prop := GS I ∧ AS I ∧ HS I ∧ KZ (I 118)
/-- the heap behind a preparation -/
def prH (I : Nat → Int → Int) : Nat → Int → Int := cpH I (rwS (I 30 1) (I 30 2)) 4
theorem prH_ne {I : Nat → Int → Int} (h : HS I) {a : Nat} (ha : a < 32 ∨ 109 < a) : prH I a = I a := by
  have hc := rwS_cases (I 30 1) (I 30 2) (by have := h.1; have := h.2.2.1; omega)
  unfold prH
  exact cpH_ne (by omega)
/-- where nothing of the game and of the history's numbers has changed -/
theorem SIM.free {I J : Nat → Int → Int} (h : SIM I) (hs : ∀ a : Nat, a ≤ 31 ∨ a = 118 → J a = I a) : SIM J := by
  obtain ⟨hG, hA, hH, hK⟩ := h
  refine ⟨⟨hG.1.congr (fun a a0 a1 => hs a (by omega)) (fun j _ _ => by rw [hs 118 (by omega)]), by rw [hs 118 (by omega)]; exact hG.2⟩, fun k a b => by rw [hs 16 (by omega)]; exact hA k a b, ?_, by rw [hs 118 (by omega)]; exact hK⟩
  unfold HS at hH ⊢
  rw [hs 30 (by omega)]
  exact hH
theorem kpH_ne {I : Nat → Int → Int} {a : Nat} (h : a ≠ 30) : kpH I a = I a := by
  unfold kpH
  split
  · exact xup_ne h
  · exact xup_ne h
theorem SIM.pr {I : Nat → Int → Int} (h : SIM I) : SIM (prH I) := h.free (fun a w => prH_ne h.2.2.1 (by omega))
theorem HS.kp {I X : Nat → Int → Int} (h : HS I) (e : X 30 = I 30) : HS (kpH X) := by
  obtain ⟨x0, x1, s0, s1⟩ := h
  unfold HS kpH
  rw [← e] at *
  by_cases w : X 30 2 < 5
  · rw [if_pos w, xup_at, if_neg (by omega), xup_at, if_pos rfl]
    omega
  · rw [if_neg w, xup_at, if_pos rfl, xup_at, if_neg (by omega)]
    omega
/-- the end of an action that puts a state down -/
theorem SIM.done {I X : Nat → Int → Int} {z' : Int → Int} (h : SIM I) (hX : ∀ a : Nat, a < 4 ∨ 16 < a → X a = prH I a) (hg : GM X 4 z') (hw : WZ z') (hk : KZ z') (ha : AS X) : SIM (xset (kpH X) 118 z') := by
  have hH := h.2.2.1
  have e30 : X 30 = I 30 := by rw [hX 30 (by omega), prH_ne hH (by omega)]
  have hJ : ∀ a : Nat, a ≠ 30 → a ≠ 118 → xset (kpH X) 118 z' a = X a := fun a w w2 => by rw [xset_ne w2, kpH_ne w]
  have h118 : xset (kpH X) 118 z' 118 = z' := xset_at
  refine ⟨⟨by rw [h118]; exact hg.congr (fun a a0 a1 => hJ a (by omega) (by omega)) (fun _ _ _ => rfl), by rw [h118]; exact hw⟩, fun k a b => by rw [hJ 16 (by omega) (by omega)]; exact ha k a b, ?_, by rw [h118]; exact hk⟩
  have := HS.kp hH e30
  unfold HS at this ⊢
  rw [xset_ne (by omega)]
  exact this
theorem rf_ok {b : Int → Int} {W : Int → Prop} {rk : Int → Int} {c q d : Int} (hz : rfS b W rk c q d = 0) : c0S q d + lnS c ≤ 9 ∧ ¬ r8P b rk c q d := by
  unfold rfS at hz
  by_cases hW : W c
  · rw [sel_neg (fun w => w hW)] at hz
    rcases rf7_c b W c q d with ⟨g1, g2, g3⟩ | ⟨g1, g2, g3⟩
    · rw [g3] at hz; omega
    · refine ⟨g1, fun w => ?_⟩
      rw [g3, sel_pos w] at hz
      omega
  · rw [sel_pos hW] at hz; omega
theorem rf_9 {b : Int → Int} {W : Int → Prop} {rk : Int → Int} {c q d : Int} (hz : rfS b W rk c q d = 0 ∨ rfS b W rk c q d = 8) : c0S q d + lnS c ≤ 9 := by
  unfold rfS at hz
  by_cases hW : W c
  · rw [sel_neg (fun w => w hW)] at hz
    rcases rf7_c b W c q d with ⟨g1, g2, g3⟩ | ⟨g1, g2, g3⟩
    · rw [g3] at hz; omega
    · exact g1
  · rw [sel_pos hW] at hz; omega
theorem inM_c {I J : Nat → Int → Int} (h : I 118 = J 118) : inM I = inM J := by
  funext c
  unfold inM
  rw [h]
theorem noM_c {I J : Nat → Int → Int} (h : I 118 = J 118) (c : Int) : noM I c = noM J c := by
  unfold noM
  rw [h]
section ACT
variable {I : Nat → Int → Int}
theorem SIM.x0 (h : SIM I) : 0 ≤ I 30 1 ∧ I 30 1 ≤ 5 ∧ 0 ≤ I 30 2 ∧ I 30 2 ≤ 5 := h.2.2.1
theorem SIM.p8 (h : SIM I) : prH I 118 = I 118 := prH_ne h.2.2.1 (by omega)
theorem lwI_ne {c : Int} {a : Nat} (h5 : a ≠ 5) (h6 : a ≠ 6) : lwI I c a = I a := by
  unfold lwI
  split
  · rfl
  · split
    · rfl
    · split
      · rfl
      · rw [xup_ne h5, xup_ne h6]
theorem ulI_ne {c : Int} {a : Nat} (h5 : a ≠ 5) (h6 : a ≠ 6) : ulI I c a = I a := by
  unfold ulI
  split
  · rfl
  · split
    · rw [xup_ne h5, xset_ne h6]
    · rfl
theorem cB_addWord (h : SIM I) (c : Int) (hc : InR c) : XR mB_addWord [.inr 3, .inl c] (hN I) (some (.inl (lwR (prH I) c))) (hN (if 0 ≤ lwR (prH I) c then kpH (lwI (prH I) c) else lwI (prH I) c)) := by
  refine XRa.of (by decide) (Nat.le_of_ble_eq_true rfl) ?_
  obtain ⟨x0, x1, s0, s1⟩ := h.x0
  have hK := h.pr
  have e30 : lwI (prH I) c 30 = I 30 := by rw [lwI_ne (by omega) (by omega), prH_ne h.2.2.1 (by omega)]
  have hR : InR (lwR (prH I) c) := by
    have := hK.1.wr
    unfold lwR
    split
    · omega
    · split
      · omega
      · split <;> omega
  repeat refine x_step rfl ?_
  refine x_callv rfl (cH_prepare I x0 x1 s0 s1) ?_
  repeat refine x_step rfl ?_
  refine x_call rfl (cG_listWord (prH I) hK.1.wr c hc) ?_
  refine x_call rfl (cB_kept _ (by rw [e30]; exact x0) (by rw [e30]; exact x1) (by rw [e30]; exact s0) (by rw [e30]; exact s1) _ hR) ?_
  exact x_iret rfl rfl rfl rfl
theorem cB_dropWord (h : SIM I) (c : Int) (hc : InR c) : XR mB_dropWord [.inr 3, .inl c] (hN I) (some (.inl (ulR (prH I) c))) (hN (if 0 ≤ ulR (prH I) c then kpH (ulI (prH I) c) else ulI (prH I) c)) := by
  refine XRa.of (by decide) (Nat.le_of_ble_eq_true rfl) ?_
  obtain ⟨x0, x1, s0, s1⟩ := h.x0
  have hK := h.pr
  have e30 : ulI (prH I) c 30 = I 30 := by rw [ulI_ne (by omega) (by omega), prH_ne h.2.2.1 (by omega)]
  have hR : InR (ulR (prH I) c) := by
    have h1 := hK.1.wr
    have := noS_R (prH I) h1.1 h1.2.1 c
    have := h1.2.1
    unfold ulR
    split <;> omega
  repeat refine x_step rfl ?_
  refine x_callv rfl (cH_prepare I x0 x1 s0 s1) ?_
  repeat refine x_step rfl ?_
  refine x_call rfl (cG_unlistWord (prH I) hK.1.wr c hc) ?_
  refine x_call rfl (cB_kept _ (by rw [e30]; exact x0) (by rw [e30]; exact x1) (by rw [e30]; exact s0) (by rw [e30]; exact s1) _ hR) ?_
  exact x_iret rfl rfl rfl rfl
theorem cntZ_c {z z' : Int → Int} (h : ∀ j : Int, 0 ≤ j → j ≤ 80 → z' j = z j) (l : Int) : cntZ z' l 81 = cntZ z l 81 := xsm_c 81 (fun j a b => by show (if z' j = l then (1 : Int) else 0) = if z j = l then 1 else 0; rw [h j a (by omega)])
theorem KZ.of {z z' : Int → Int} (h : KZ z) (hz : ∀ j : Int, 0 ≤ j → j ≤ 104 → z' j = z j) : KZ z' := by
  have e0 : ttS (bgZ z') = ttS (bgZ z) := ttS_c (fun k a b => hz _ (by omega) (by omega))
  have e1 : ttS (rkZ z' 0) = ttS (rkZ z 0) := ttS_c (fun k a b => hz _ (by omega) (by omega))
  have e2 : ttS (rkZ z' 1) = ttS (rkZ z 1) := ttS_c (fun k a b => hz _ (by omega) (by omega))
  refine ⟨fun l a b => ?_, by rw [e0, e1, e2]; exact h.2⟩
  rw [cntZ_c (fun j a b => hz j a (by omega)), hz _ (by omega) (by omega), hz _ (by omega) (by omega), hz _ (by omega) (by omega)]
  exact h.1 l a b
/-- a word is added, or not -/
theorem A_addWord (h : SIM I) (c : Int) (hc : InR c) (hl : 0 < lnS c) : ∃ J, XR mB_addWord [.inr 3, .inl c] (hN I) (some (.inl (if 0 ≤ noM I c then -4 else if I 118 112 = 20 then -3 else I 118 112))) (hN J) ∧ SIM J ∧ ∀ j : Int, j < 112 → J 118 j = I 118 j := by
  have hB := cB_addWord h c hc
  have hK := h.pr
  have hG := hK.1
  have hno := hG.no c
  have hm := hG.m
  have hmn := hG.2.mn
  have e8 := h.p8
  have en := noM_c (I := prH I) (J := I) e8 c
  rw [e8] at hm hmn
  rw [en] at hno
  by_cases w1 : 0 ≤ noM I c
  · have e : lwR (prH I) c = -4 := by unfold lwR; rw [if_neg (by omega), if_pos (hno.1.mpr w1)]
    have e2 : lwI (prH I) c = prH I := by unfold lwI; rw [if_neg (by omega), if_pos (hno.1.mpr w1)]
    rw [e, e2, if_neg (by omega)] at hB
    rw [if_pos w1]
    exact ⟨_, hB, hK, fun j _ => by rw [e8]⟩
  · have w3 : ¬ 0 ≤ noS (prH I) c := fun v => w1 (hno.1.mp v)
    rw [if_neg w1]
    by_cases w2 : I 118 112 = 20
    · have e : lwR (prH I) c = -3 := by unfold lwR; rw [if_neg (by omega), if_neg w3, if_pos (by omega)]
      have e2 : lwI (prH I) c = prH I := by unfold lwI; rw [if_neg (by omega), if_neg w3, if_pos (by omega)]
      rw [e, e2, if_neg (by omega)] at hB
      rw [if_pos w2]
      exact ⟨_, hB, hK, fun j _ => by rw [e8]⟩
    · have e : lwR (prH I) c = I 118 112 := by unfold lwR; rw [if_neg (by omega), if_neg w3, if_neg (by omega), hm]
      have e2 : lwI (prH I) c = xup (xup (prH I) 6 (prH I 5 1) c) 5 1 (prH I 5 1 + 1) := by unfold lwI; rw [if_neg (by omega), if_neg w3, if_neg (by omega)]
      have hgm := hG.1.pw (by rw [e8]; omega) c
      have hwz := hG.2.pw (c := c) (by omega) hc (fun k a b g => by
        rw [e8] at b g
        refine absurd ((noM_in h.1.wm.1 c).mpr ?_) w1
        exact ⟨k, a, b, g⟩) (by rw [e8]; omega)
      rw [e, if_pos hmn.1] at hB
      have hne := fun (a : Nat) (w5 : a ≠ 5) (w6 : a ≠ 6) => lwI_ne (I := prH I) (c := c) w5 w6
      rw [← e2] at hgm
      rw [e8] at hgm hwz
      generalize lwI (prH I) c = X at *
      rw [if_neg w2]
      have ez : ∀ j : Int, j < 112 → pwS (I 118) c j = I 118 j := fun j w => by unfold pwS; rw [if_neg (by omega), if_neg (by omega)]
      refine ⟨_, XR_ghost (pwS (I 118) c) hB, h.done (fun a w => hne a (by omega) (by omega)) hgm hwz (h.2.2.2.of (fun j a b => ez j (by omega))) (fun k a b => by rw [hne 16 (by omega) (by omega)]; exact hK.2.1 k a b), fun j w => by rw [xset_at]; exact ez j w⟩
/-- a word of the list is dropped -/
theorem A_dropWord (h : SIM I) (c : Int) (hc : InR c) (hl : 0 < lnS c) (w1 : 0 ≤ noM I c) : ∃ J, XR mB_dropWord [.inr 3, .inl c] (hN I) (some (.inl (noM I c))) (hN J) ∧ SIM J ∧ J 118 = twS (I 118) (noM I c) := by
  have hB := cB_dropWord h c hc
  have hK := h.pr
  have hG := hK.1
  have hno := hG.no c
  have hmn := hG.2.mn
  have e8 := h.p8
  have en := noM_c (I := prH I) (J := I) e8 c
  have hnR := noM_R I h.1.wm.1 h.1.wm.2.1 c
  rw [e8] at hmn
  rw [en] at hno
  have e : ulR (prH I) c = noS (prH I) c := by unfold ulR; rw [if_neg (by omega)]
  have en := hno.2 w1
  have e2 : ulI (prH I) c = xup (xset (prH I) 6 (rmS (prH I 6) (noM I c) (prH I 5 1 - 1))) 5 1 (prH I 5 1 - 1) := by unfold ulI; rw [if_neg (by omega), if_pos (hno.1.mpr w1), en]
  have hgm := hG.1.tw (by rw [e8]; exact hmn) w1 (by rw [e8]; omega)
  have hwz := hG.2.tw w1 (by rw [e8]; omega)
  rw [e, en, if_pos w1] at hB
  have hne := fun (a : Nat) (w5 : a ≠ 5) (w6 : a ≠ 6) => ulI_ne (I := prH I) (c := c) w5 w6
  rw [← e2] at hgm
  rw [e8] at hgm hwz
  generalize ulI (prH I) c = X at *
  have ez : ∀ j : Int, j < 112 → twS (I 118) (noM I c) j = I 118 j := fun j w => by unfold twS; rw [if_neg (by omega), if_neg (by omega)]
  exact ⟨_, XR_ghost (twS (I 118) (noM I c)) hB, h.done (fun a w => hne a (by omega) (by omega)) hgm hwz (h.2.2.2.of (fun j a b => ez j (by omega))) (fun k a b => by rw [hne 16 (by omega) (by omega)]; exact hK.2.1 k a b), xset_at⟩
/-- a word that isn't there -/
theorem A_dropNone (h : SIM I) (c : Int) (hc : InR c) (hl : 0 < lnS c) (w1 : ¬ 0 ≤ noM I c) : ∃ J, XR mB_dropWord [.inr 3, .inl c] (hN I) (some (.inl (-1))) (hN J) ∧ SIM J ∧ J 118 = I 118 := by
  have hB := cB_dropWord h c hc
  have hK := h.pr
  have hG := hK.1
  have hno := hG.no c
  have hsR := noS_R (prH I) hG.wr.1 hG.wr.2.1 c
  have e8 := h.p8
  have en := noM_c (I := prH I) (J := I) e8 c
  rw [en] at hno
  have w3 : ¬ 0 ≤ noS (prH I) c := fun v => w1 (hno.1.mp v)
  have e : ulR (prH I) c = -1 := by unfold ulR; rw [if_neg (by omega)]; omega
  have e2 : ulI (prH I) c = prH I := by unfold ulI; rw [if_neg (by omega), if_neg w3]
  rw [e, e2, if_neg (by omega)] at hB
  exact ⟨_, hB, hK, e8⟩
theorem A_pass (h : SIM I) : ∃ J, XR mB_pass [.inr 3] (hN I) (some (.inl (1 - I 118 106))) (hN J) ∧ SIM J ∧ ∀ j : Int, j ≠ 106 → j ≠ 110 → J 118 j = I 118 j := by
  have hK := h.pr
  have hG := hK.1
  have e8 := h.p8
  have h01 := hG.2.tu
  have e7 : prH I 4 7 = prH I 118 106 := hG.t
  have e11 : prH I 4 11 = prH I 118 110 := hG.1.x 11 (by omega) (by omega)
  have hgm := (hG.1.f (f := 11) (by omega) (by omega) (prH I 4 11 + 1)).f (f := 7) (by omega) (by omega) (1 - prH I 4 7)
  have hwz := (hG.2.f (j := 110) (v := prH I 118 110 + 1) (by omega) (by omega) (fun w => by omega)).f (j := 106) (v := 1 - prH I 118 106) (by omega) (by omega) (fun w => by omega)
  rw [show (99 : Int) + 7 = 106 by omega, show (99 : Int) + 11 = 110 by omega] at hgm
  obtain ⟨x0, x1, s0, s1⟩ := h.x0
  have hpass := cG_makePass (prH I)
  have hne : ∀ a : Nat, a ≠ 4 → xup (xup (prH I) 4 11 (prH I 4 11 + 1)) 4 7 (1 - prH I 4 7) a = prH I a := fun a w => by rw [xup_ne w, xup_ne w]
  generalize xup (xup (prH I) 4 11 (prH I 4 11 + 1)) 4 7 (1 - prH I 4 7) = X at *
  rw [e7, e11] at hgm
  rw [e7] at hpass
  rw [e8] at hgm hwz hpass h01
  have e30 : X 30 = I 30 := by rw [hne _ (by omega), prH_ne h.2.2.1 (by omega)]
  have ez : ∀ j : Int, j ≠ 106 → j ≠ 110 → upF (upF (I 118) 110 (I 118 110 + 1)) 106 (1 - I 118 106) j = I 118 j := fun j w w2 => by unfold upF; rw [if_neg w, if_neg w2]
  refine ⟨_, XR_ghost (upF (upF (I 118) 110 (I 118 110 + 1)) 106 (1 - I 118 106)) (J := kpH X) ?_, h.done (fun a w => hne a (by omega)) hgm hwz (h.2.2.2.of (fun j a b => ez j (by omega) (by omega))) (fun k a b => by rw [hne 16 (by omega)]; exact hK.2.1 k a b), fun j w w2 => by rw [xset_at]; exact ez j w w2⟩
  refine XRa.of (by decide) (Nat.le_of_ble_eq_true rfl) ?_
  repeat refine x_step rfl ?_
  refine x_callv rfl (cH_prepare I x0 x1 s0 s1) ?_
  repeat refine x_step rfl ?_
  refine x_call rfl hpass ?_
  refine x_call rfl (cB_kept X (by rw [e30]; exact x0) (by rw [e30]; exact x1) (by rw [e30]; exact s0) (by rw [e30]; exact s1) _ (by omega)) ?_
  rw [if_pos (by omega)]
  exact x_iret rfl rfl rfl rfl
end ACT
