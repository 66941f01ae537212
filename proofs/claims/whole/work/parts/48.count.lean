/-! the counts -/
theorem anS_x {b b' : Int → Int} (h : bdE b b') : xsm (anS b) 81 = xsm (anS b') 81 := xsm_c 81 (fun j a e => anS_c h a (by omega))
section COUNT
variable {I : Nat → Int → Int}
theorem S_count0 (h : SIM I) : SAM mB_count mM_count [.inl 0] I := by
  have hG := h.1
  refine S_err _ _ h (I 118 112) ?_ ?_
  · refine XRa.of (by decide) (Nat.le_of_ble_eq_true rfl) ?_
    repeat refine x_step rfl ?_
    refine x_tswI (tgt := 64) rfl (by omega) (by omega) (by omega) rfl (by decide) ?_
    repeat refine x_step rfl ?_
    exact x_iret rfl rfl hG.m rfl
  · refine XRa.of (by decide) (Nat.le_of_ble_eq_true rfl) ?_
    repeat refine x_step rfl ?_
    refine x_tswI (tgt := 64) rfl (by omega) (by omega) (by omega) rfl (by decide) ?_
    repeat refine x_step rfl ?_
    refine x_ald (len := 132) rfl (by omega) (by omega) ?_
    exact x_iret rfl rfl rfl rfl
theorem S_count1 (h : SIM I) : SAM mB_count mM_count [.inl 1] I := by
  have hG := h.1
  refine S_err _ _ h (toS (I 118)) ?_ ?_
  · refine XRa.of (by decide) (Nat.le_of_ble_eq_true rfl) ?_
    repeat refine x_step rfl ?_
    refine x_tswI (tgt := 75) rfl (by omega) (by omega) (by omega) rfl (by decide) ?_
    repeat refine x_step rfl ?_
    refine x_call rfl (cS_tilesOn I hG.bd8) ?_
    exact x_iret rfl rfl (toS_c hG.be) rfl
  · refine XRa.of (by decide) (Nat.le_of_ble_eq_true rfl) ?_
    repeat refine x_step rfl ?_
    refine x_tswI (tgt := 72) rfl (by omega) (by omega) (by omega) rfl (by decide) ?_
    repeat refine x_step rfl ?_
    refine x_call rfl (cM_tilesOnBoard I hG.2.bd) ?_
    exact x_iret rfl rfl rfl rfl
theorem S_count2 (h : SIM I) : SAM mB_count mM_count [.inl 2] I := by
  have hG := h.1
  refine S_err _ _ h (ttS (bgZ (I 118))) ?_ ?_
  · refine XRa.of (by decide) (Nat.le_of_ble_eq_true rfl) ?_
    repeat refine x_step rfl ?_
    refine x_tswI (tgt := 86) rfl (by omega) (by omega) (by omega) rfl (by decide) ?_
    repeat refine x_step rfl ?_
    refine x_call rfl (cT_total _ (by omega) I 13 14 (by unfold tsP; omega)) ?_
    exact x_iret rfl rfl (ttS_c hG.1.bg) rfl
  · refine XRa.of (by decide) (Nat.le_of_ble_eq_true rfl) ?_
    repeat refine x_step rfl ?_
    refine x_tswI (tgt := 77) rfl (by omega) (by omega) (by omega) rfl (by decide) ?_
    repeat refine x_step rfl ?_
    refine x_call rfl (cM_tilesIn I 97 (by omega) (by omega)) ?_
    exact x_iret rfl rfl (ttS_c (fun k a b => by unfold bgZ; rw [show (97 : Int) - 1 + k = 96 + k by omega])) rfl
theorem S_count3 (h : SIM I) : SAM mB_count mM_count [.inl 3] I := by
  have hG := h.1
  refine S_err _ _ h (xsm (anS (I 118)) 81) ?_ ?_
  · refine XRa.of (by decide) (Nat.le_of_ble_eq_true rfl) ?_
    repeat refine x_step rfl ?_
    refine x_tswI (tgt := 97) rfl (by omega) (by omega) (by omega) rfl (by decide) ?_
    repeat refine x_step rfl ?_
    refine x_call rfl (cS_anchors I hG.bd8) ?_
    exact x_iret rfl rfl (anS_x hG.be) rfl
  · refine XRa.of (by decide) (Nat.le_of_ble_eq_true rfl) ?_
    repeat refine x_step rfl ?_
    refine x_tswI (tgt := 84) rfl (by omega) (by omega) (by omega) rfl (by decide) ?_
    repeat refine x_step rfl ?_
    refine x_call rfl (cM_anchors I hG.2.bd) ?_
    exact x_iret rfl rfl rfl rfl
theorem S_count4 (h : SIM I) : SAM mB_count mM_count [.inl 4] I := by
  have hG := h.1
  refine S_err _ _ h (xsm (ruF (I 118) (inM I) 0) 162) ?_ ?_
  · refine XRa.of (by decide) (Nat.le_of_ble_eq_true rfl) ?_
    repeat refine x_step rfl ?_
    refine x_tswI (tgt := 108) rfl (by omega) (by omega) (by omega) rfl (by decide) ?_
    repeat refine x_step rfl ?_
    refine x_call rfl (cG_runsInAll I hG.bd8) ?_
    exact x_iret rfl rfl (ruF_c hG.be hG.ic 0) rfl
  · refine XRa.of (by decide) (Nat.le_of_ble_eq_true rfl) ?_
    repeat refine x_step rfl ?_
    refine x_tswI (tgt := 89) rfl (by omega) (by omega) (by omega) rfl (by decide) ?_
    repeat refine x_step rfl ?_
    refine x_call rfl (cM_runs I hG.2.bd hG.wm 0 (Or.inl rfl)) ?_
    exact x_iret rfl rfl rfl rfl
theorem S_count5 (h : SIM I) : SAM mB_count mM_count [.inl 5] I := by
  have hG := h.1
  refine S_err _ _ h (xsm (ruF (I 118) (inM I) 1) 162) ?_ ?_
  · refine XRa.of (by decide) (Nat.le_of_ble_eq_true rfl) ?_
    repeat refine x_step rfl ?_
    refine x_tswI (tgt := 116) rfl (by omega) (by omega) (by omega) rfl (by decide) ?_
    repeat refine x_step rfl ?_
    refine x_call rfl (cG_runsUnlisted I hG.bd8 hG.wr) ?_
    exact x_iret rfl rfl (ruF_c hG.be hG.ic 1) rfl
  · refine XRa.of (by decide) (Nat.le_of_ble_eq_true rfl) ?_
    repeat refine x_step rfl ?_
    refine x_tswI (tgt := 95) rfl (by omega) (by omega) (by omega) rfl (by decide) ?_
    repeat refine x_step rfl ?_
    refine x_call rfl (cM_runs I hG.2.bd hG.wm 1 (Or.inr rfl)) ?_
    exact x_iret rfl rfl rfl rfl
theorem S_count6 (h : SIM I) : SAM mB_count mM_count [.inl 6] I := by
  have hG := h.1
  refine S_err _ _ h (I 118 106) ?_ ?_
  · refine XRa.of (by decide) (Nat.le_of_ble_eq_true rfl) ?_
    repeat refine x_step rfl ?_
    refine x_tswI (tgt := 124) rfl (by omega) (by omega) (by omega) rfl (by decide) ?_
    repeat refine x_step rfl ?_
    exact x_iret rfl rfl hG.t rfl
  · refine XRa.of (by decide) (Nat.le_of_ble_eq_true rfl) ?_
    repeat refine x_step rfl ?_
    refine x_tswI (tgt := 101) rfl (by omega) (by omega) (by omega) rfl (by decide) ?_
    repeat refine x_step rfl ?_
    refine x_ald (len := 132) rfl (by omega) (by omega) ?_
    exact x_iret rfl rfl rfl rfl
theorem S_count7 (h : SIM I) : SAM mB_count mM_count [.inl 7] I := by
  have hG := h.1
  refine S_err _ _ h (I 118 109) ?_ ?_
  · refine XRa.of (by decide) (Nat.le_of_ble_eq_true rfl) ?_
    repeat refine x_step rfl ?_
    refine x_tswI (tgt := 132) rfl (by omega) (by omega) (by omega) rfl (by decide) ?_
    repeat refine x_step rfl ?_
    exact x_iret rfl rfl (hG.1.x 10 (by omega) (by omega)) rfl
  · refine XRa.of (by decide) (Nat.le_of_ble_eq_true rfl) ?_
    repeat refine x_step rfl ?_
    refine x_tswI (tgt := 109) rfl (by omega) (by omega) (by omega) rfl (by decide) ?_
    repeat refine x_step rfl ?_
    refine x_ald (len := 132) rfl (by omega) (by omega) ?_
    exact x_iret rfl rfl rfl rfl
theorem S_count8 (h : SIM I) : SAM mB_count mM_count [.inl 8] I := by
  have hG := h.1
  refine S_err _ _ h (I 118 110) ?_ ?_
  · refine XRa.of (by decide) (Nat.le_of_ble_eq_true rfl) ?_
    repeat refine x_step rfl ?_
    refine x_tswI (tgt := 140) rfl (by omega) (by omega) (by omega) rfl (by decide) ?_
    repeat refine x_step rfl ?_
    exact x_iret rfl rfl (hG.1.x 11 (by omega) (by omega)) rfl
  · refine XRa.of (by decide) (Nat.le_of_ble_eq_true rfl) ?_
    repeat refine x_step rfl ?_
    refine x_tswI (tgt := 117) rfl (by omega) (by omega) (by omega) rfl (by decide) ?_
    repeat refine x_step rfl ?_
    refine x_ald (len := 132) rfl (by omega) (by omega) ?_
    exact x_iret rfl rfl rfl rfl
theorem S_count9 (h : SIM I) : SAM mB_count mM_count [.inl 9] I := by
  have hG := h.1
  refine S_err _ _ h (I 118 111) ?_ ?_
  · refine XRa.of (by decide) (Nat.le_of_ble_eq_true rfl) ?_
    repeat refine x_step rfl ?_
    refine x_tswI (tgt := 148) rfl (by omega) (by omega) (by omega) rfl (by decide) ?_
    repeat refine x_step rfl ?_
    exact x_iret rfl rfl (hG.1.x 12 (by omega) (by omega)) rfl
  · refine XRa.of (by decide) (Nat.le_of_ble_eq_true rfl) ?_
    repeat refine x_step rfl ?_
    refine x_tswI (tgt := 125) rfl (by omega) (by omega) (by omega) rfl (by decide) ?_
    repeat refine x_step rfl ?_
    refine x_ald (len := 132) rfl (by omega) (by omega) ?_
    exact x_iret rfl rfl rfl rfl
theorem S_count10 (h : SIM I) : SAM mB_count mM_count [.inl 10] I := by
  have hG := h.1
  refine S_err _ _ h (I 117 2) ?_ ?_
  · refine XRa.of (by decide) (Nat.le_of_ble_eq_true rfl) ?_
    repeat refine x_step rfl ?_
    refine x_tswI (tgt := 156) rfl (by omega) (by omega) (by omega) rfl (by decide) ?_
    repeat refine x_step rfl ?_
    exact x_iret rfl rfl h.x0.2.2.2.2.symm rfl
  · refine XRa.of (by decide) (Nat.le_of_ble_eq_true rfl) ?_
    repeat refine x_step rfl ?_
    refine x_tswI (tgt := 133) rfl (by omega) (by omega) (by omega) rfl (by decide) ?_
    repeat refine x_step rfl ?_
    exact x_iret rfl rfl rfl rfl
theorem S_count11 (h : SIM I) : SAM mB_count mM_count [.inl 11] I := by
  have hG := h.1
  refine S_err _ _ h (I 117 6) ?_ ?_
  · refine XRa.of (by decide) (Nat.le_of_ble_eq_true rfl) ?_
    repeat refine x_step rfl ?_
    refine x_tswI (tgt := 164) rfl (by omega) (by omega) (by omega) rfl (by decide) ?_
    repeat refine x_step rfl ?_
    exact x_iret rfl rfl h.2.2.2.2.1.2.2.1.symm rfl
  · refine XRa.of (by decide) (Nat.le_of_ble_eq_true rfl) ?_
    repeat refine x_step rfl ?_
    refine x_tswI (tgt := 138) rfl (by omega) (by omega) (by omega) rfl (by decide) ?_
    repeat refine x_step rfl ?_
    exact x_iret rfl rfl rfl rfl
theorem S_count (h : SIM I) (x : Int) (hx : InR x) : SAM mB_count mM_count [.inl x] I := by
  by_cases w : 0 ≤ x ∧ x ≤ 11
  · have hc : x = 0 ∨ x = 1 ∨ x = 2 ∨ x = 3 ∨ x = 4 ∨ x = 5 ∨ x = 6 ∨ x = 7 ∨ x = 8 ∨ x = 9 ∨ x = 10 ∨ x = 11 := by omega
    rcases hc with rfl | rfl | rfl | rfl | rfl | rfl | rfl | rfl | rfl | rfl | rfl | rfl
    · exact S_count0 h
    · exact S_count1 h
    · exact S_count2 h
    · exact S_count3 h
    · exact S_count4 h
    · exact S_count5 h
    · exact S_count6 h
    · exact S_count7 h
    · exact S_count8 h
    · exact S_count9 h
    · exact S_count10 h
    · exact S_count11 h
  · refine S_err _ _ h (-2) ?_ ?_
    · refine XRa.of (by decide) (Nat.le_of_ble_eq_true rfl) ?_
      repeat refine x_step rfl ?_
      refine x_tswO (tgt := 172) rfl hx (by omega) (by decide) ?_
      repeat refine x_step rfl ?_
      exact x_iret rfl rfl rfl rfl
    · refine XRa.of (by decide) (Nat.le_of_ble_eq_true rfl) ?_
      repeat refine x_step rfl ?_
      refine x_tswO (tgt := 143) rfl hx (by omega) (by decide) ?_
      repeat refine x_step rfl ?_
      exact x_iret rfl rfl rfl rfl
end COUNT
