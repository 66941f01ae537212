/-! an order is carried out: the class -/
section CARB
variable {H : Nat → Int → Int} {z : Int → Int} {sg c q d : Int}
theorem inC_c {X Y : Nat → Int → Int} (h5 : X 5 = Y 5) (h6 : X 6 = Y 6) : inC X = inC Y := by
  funext c
  unfold inC
  rw [h5, h6]
theorem GS.virt (hg : GM H 4 z) (hw : WZ z) : GS (xset H 118 z) := ⟨hg.congr (fun a a0 a1 => xset_ne (by omega)) (fun j _ _ => by rw [xset_at]), by rw [xset_at]; exact hw⟩
theorem GM.wr (hg : GM H 4 z) (hw : WZ z) : wdR H := by
  have h := (GS.virt hg hw).wr
  unfold wdR at h ⊢
  rw [xset_ne (by omega), xset_ne (by omega)] at h
  exact h
theorem GM.no (hg : GM H 4 z) (hw : WZ z) (c : Int) : (0 ≤ noS H c ↔ 0 ≤ noM (fun _ => z) c) ∧ (0 ≤ noM (fun _ => z) c → noS H c = noM (fun _ => z) c) := by
  have h := (GS.virt hg hw).no c
  have e1 : noS (xset H 118 z) c = noS H c := by unfold noS; rw [xset_ne (by omega), xset_ne (by omega)]
  have e2 : noM (xset H 118 z) c = noM (fun _ => z) c := by unfold noM; rw [xset_at]
  rw [e1, e2] at h
  exact h
theorem GM.rf (hg : GM H 4 z) (hw : WZ z) (h0 : 0 ≤ q) (h1 : q ≤ 80) (hd : d = 0 ∨ d = 1) : rfS (H 8) (inC H) (H (rkA (H 4 7))) c q d = rfS z (inM (fun _ => z)) (rkZ z (z 106)) c q d := by
  have h := (GS.virt hg hw).rf (c := c) h0 h1 hd
  have hA : rkA (H 4 7) = 10 ∨ rkA (H 4 7) = 12 := by unfold rkA; split <;> simp
  rw [xset_ne (show (8 : Nat) ≠ 118 by omega), xset_ne (show (4 : Nat) ≠ 118 by omega), xset_ne (show rkA (H 4 7) ≠ 118 by omega), inC_c (X := xset H 118 z) (Y := H) (xset_ne (by omega)) (xset_ne (by omega)), xset_at, inM_c (I := xset H 118 z) (J := fun _ => z) xset_at] at h
  exact h
theorem cB_carryOut (hg : GM H 4 z) (hw : WZ z) (ha : AS H) (h3 : H 110 3 = sg) (h4 : H 110 4 = c) (hl : 0 < lnS c) (hc : InR c) (hsg : InR sg) (h5 : ¬ (sg = 43 ∨ sg = 45) → H 110 5 = q ∧ H 110 6 = d ∧ 0 ≤ q ∧ q ≤ 80 ∧ (d = 0 ∨ d = 1)) : ∃ J, XR mB_carryOut [.inr 3] (hN H) (some (.inl (caV z sg c q d).1)) (hN J) ∧ GM J 4 (caV z sg c q d).2 ∧ AS J ∧ ∀ a : Nat, a < 4 ∨ 16 < a → a ≠ 112 → a ≠ 113 → J a = H a := by
  have hwr := hg.wr hw
  have hno := hg.no hw c
  have hm := hg.m
  have hm : H 5 1 = z 112 := hm
  have hmn := hw.mn
  by_cases s1 : sg = 43
  · rw [caV_p s1]
    have hcl : XR mB_carryOut [.inr 3] (hN H) (some (.inl (lwR H c))) (hN (lwI H c)) := by
      refine XRa.of (by decide) (Nat.le_of_ble_eq_true rfl) ?_
      repeat refine x_step rfl ?_
      rw [h3]
      refine x_eq rfl (by omega) (by omega) (fun w => ?_) (fun w => absurd s1 w)
      repeat refine x_step rfl ?_
      rw [h4]
      refine x_call rfl (cG_listWord H hwr c hc) ?_
      exact x_iret rfl rfl rfl rfl
    by_cases g1 : 0 ≤ noM (fun _ => z) c
    · rw [if_pos g1]
      have e1 : lwR H c = -4 := by unfold lwR; rw [if_neg (by omega), if_pos (hno.1.mpr g1)]
      have e2 : lwI H c = H := by unfold lwI; rw [if_neg (by omega), if_pos (hno.1.mpr g1)]
      rw [e1, e2] at hcl
      exact ⟨H, hcl, hg, ha, fun a _ _ _ => rfl⟩
    · rw [if_neg g1]
      have g1' : ¬ 0 ≤ noS H c := fun w => g1 (hno.1.mp w)
      by_cases g2 : z 112 = 20
      · rw [if_pos g2]
        have e1 : lwR H c = -3 := by unfold lwR; rw [if_neg (by omega), if_neg g1', if_pos (by omega)]
        have e2 : lwI H c = H := by unfold lwI; rw [if_neg (by omega), if_neg g1', if_pos (by omega)]
        rw [e1, e2] at hcl
        exact ⟨H, hcl, hg, ha, fun a _ _ _ => rfl⟩
      · rw [if_neg g2]
        have e1 : lwR H c = z 112 := by unfold lwR; rw [if_neg (by omega), if_neg g1', if_neg (by omega), hm]
        have e2 : lwI H c = xup (xup H 6 (H 5 1) c) 5 1 (H 5 1 + 1) := by unfold lwI; rw [if_neg (by omega), if_neg g1', if_neg (by omega)]
        have hne := fun (a : Nat) (w5 : a ≠ 5) (w6 : a ≠ 6) => lwI_ne (I := H) (c := c) w5 w6
        have hp := hg.pw (by omega) c
        rw [← e2] at hp
        rw [e1] at hcl
        exact ⟨lwI H c, hcl, hp, fun k a b => by rw [hne 16 (by omega) (by omega)]; exact ha k a b, fun a w _ _ => hne a (by omega) (by omega)⟩
  · by_cases s2 : sg = 45
    · rw [caV_m s2]
      have hcl : XR mB_carryOut [.inr 3] (hN H) (some (.inl (ulR H c))) (hN (ulI H c)) := by
        refine XRa.of (by decide) (Nat.le_of_ble_eq_true rfl) ?_
        repeat refine x_step rfl ?_
        rw [h3]
        refine x_eq rfl (by omega) (by omega) (fun w => absurd w s1) (fun w => ?_)
        repeat refine x_step rfl ?_
        rw [h3]
        refine x_eq rfl (by omega) (by omega) (fun w => ?_) (fun w => absurd s2 w)
        repeat refine x_step rfl ?_
        rw [h4]
        refine x_call rfl (cG_unlistWord H hwr c hc) ?_
        exact x_iret rfl rfl rfl rfl
      have e1 : ulR H c = noS H c := by unfold ulR; rw [if_neg (by omega)]
      rw [e1] at hcl
      by_cases g1 : 0 ≤ noM (fun _ => z) c
      · rw [if_pos g1]
        have en := hno.2 g1
        have hsR := noS_R H hwr.1 hwr.2.1 c
        have e2 : ulI H c = xup (xset H 6 (rmS (H 6) (noM (fun _ => z) c) (H 5 1 - 1))) 5 1 (H 5 1 - 1) := by unfold ulI; rw [if_neg (by omega), if_pos (hno.1.mpr g1), en]
        have hne := fun (a : Nat) (w5 : a ≠ 5) (w6 : a ≠ 6) => ulI_ne (I := H) (c := c) w5 w6
        have hp := hg.tw hmn g1 (by omega)
        rw [← e2] at hp
        rw [en] at hcl
        exact ⟨ulI H c, hcl, hp, fun k a b => by rw [hne 16 (by omega) (by omega)]; exact ha k a b, fun a w _ _ => hne a (by omega) (by omega)⟩
      · rw [if_neg g1]
        have g1' : ¬ 0 ≤ noS H c := fun w => g1 (hno.1.mp w)
        have hsR := noS_R H hwr.1 hwr.2.1 c
        have e3 : noS H c = -1 := by omega
        have e2 : ulI H c = H := by unfold ulI; rw [if_neg (by omega), if_neg g1']
        rw [e2, e3] at hcl
        exact ⟨H, hcl, hg, ha, fun a _ _ _ => rfl⟩
    · have hs : ¬ (sg = 43 ∨ sg = 45) := by omega
      rw [caV_o hs]
      obtain ⟨h5, h6, q0, q1, hd⟩ := h5 hs
      have hr : plR c q d := ⟨hc, hl, q0, q1, hd⟩
      have hpl : PL (cdH H c q d) 112 113 c q d := PL_set H 112 113 (Or.inl ⟨rfl, rfl⟩) c q d
      have hne : ∀ a : Nat, a ≠ 112 → a ≠ 113 → cdH H c q d a = H a := fun a w w2 => cdH_ne w w2
      have hg1 : GM (cdH H c q d) 4 z := hg.congr (fun a a0 a1 => hne a (by omega) (by omega)) (fun _ _ _ => rfl)
      have hv := GS.virt hg1 hw
      have hA : rkA (cdH H c q d 4 7) = 10 ∨ rkA (cdH H c q d 4 7) = 12 := by unfold rkA; split <;> simp
      have e7 : cdH H c q d 4 7 = z 106 := hg1.x 7 (by omega) (by omega)
      have ht := hw.tu
      have hbd : bdR (cdH H c q d 8) := fun j a b => by
        have e : cdH H c q d 8 j = z j := hg1.b j a b
        rw [e]
        exact hw.bd j a b
      have hrk : ∀ l : Int, 1 ≤ l → l ≤ 8 → cdH H c q d (rkA (cdH H c q d 4 7)) l = rkZ z (z 106) l := fun l a b => by
        rw [e7]
        exact hg1.rz ht l a b
      have hst : 0 ≤ cdH H c q d 4 6 ∧ cdH H c q d 4 6 ≤ 65536 ∧ amR (cdH H c q d 14) := by
        have e : cdH H c q d 4 6 = z 105 := hg1.x 6 (by omega) (by omega)
        refine ⟨by rw [e]; exact hw.dr.1, by rw [e]; exact hw.dr.2, fun k a b => ?_⟩
        have e : cdH H c q d 14 k = bgZ z k := hg1.bg k a b
        rw [e]
        exact hw.bz k a b
      have hmk := cG_makePlay (cdH H c q d) c q d hpl hr hbd (hg1.wr hw) (by omega) (fun l a b => by rw [hrk l a b]; exact hw.az ht l a b) hst (by rw [ttS_c hrk]; exact (hw.rn ht).2)
      rw [hg1.rf hw q0 q1 hd, woS_c (b := cdH H c q d 8) (b' := z) hg1.b] at hmk
      have hcl : ∀ (v : Int) (J : Nat → Int → Int), XR mG_makePlay [.inr 4, .inr 112] (hN (cdH H c q d)) (some (.inl v)) (hN J) → XR mB_carryOut [.inr 3] (hN H) (some (.inl v)) (hN J) := by
        intro v J x
        refine XRa.of (by decide) (Nat.le_of_ble_eq_true rfl) ?_
        repeat refine x_step rfl ?_
        rw [h3]
        refine x_eq rfl (by omega) (by omega) (fun w => absurd w s1) (fun w => ?_)
        repeat refine x_step rfl ?_
        rw [h3]
        refine x_eq rfl (by omega) (by omega) (fun w => absurd w s2) (fun w => ?_)
        repeat refine x_step rfl ?_
        rw [h4]
        refine x_callv rfl (cP_setWord H 112 113 (Or.inl ⟨rfl, rfl⟩) c hc hl) ?_
        have f5 : swH H 112 113 c 110 5 = q := by unfold swH; rw [xset_ne (by omega), xup_ne (by omega), xup_ne (by omega), h5]
        have f6 : swH H 112 113 c 110 6 = d := by unfold swH; rw [xset_ne (by omega), xup_ne (by omega), xup_ne (by omega), h6]
        repeat refine x_step rfl ?_
        rw [f5, f6]
        refine x_callv rfl (cP_setPlace _ 112 113 (Or.inl ⟨rfl, rfl⟩) q d hd) ?_
        show XEa mB_carryOut 0 0 0 0 _ _ _ _ _ (hN (cdH H c q d))
        repeat refine x_step rfl ?_
        refine x_call rfl x ?_
        exact x_iret rfl rfl rfl rfl
      by_cases g1 : rfS z (inM (fun _ => z)) (rkZ z (z 106)) c q d = 0
      · rw [if_pos g1]
        rw [if_pos g1, if_pos g1] at hmk
        have hok := rf_ok g1
        have hp := hg1.mp hw (c := c) (q := q) (d := d) hl hok.2
        have hme := fun (a : Nat) (w : a < 4 ∨ 12 < a) (w2 : a ≠ 14) => mpH_ne (I := cdH H c q d) (c := c) (q := q) (d := d) hA w w2
        exact ⟨_, hcl _ _ hmk, hp, fun k a b => by rw [hme 16 (by omega) (by omega), hne 16 (by omega) (by omega)]; exact ha k a b, fun a w w2 w3 => by rw [hme a (by omega) (by omega), hne a w2 w3]⟩
      · rw [if_neg g1]
        rw [if_neg g1, if_neg g1] at hmk
        exact ⟨_, hcl _ _ hmk, hg1, fun k a b => by rw [hne 16 (by omega) (by omega)]; exact ha k a b, fun a w w2 w3 => hne a w2 w3⟩
end CARB
