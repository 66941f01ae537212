/-! what the class answers, told by row 118 -/
section QUERY
variable {I : Nat → Int → Int}
theorem B_word (h : SIM I) (k : Int) (h0 : 0 ≤ k) (h1 : k < I 118 112) : XR mB_word [.inr 3, .inl k] (hN I) (some (.inl (I 118 (113 + k)))) (hN I) := by
  have hG := h.1
  have hm := hG.m
  have hmn := hG.2.mn
  refine XRa.of (by decide) (Nat.le_of_ble_eq_true rfl) ?_
  repeat refine x_step rfl ?_
  refine x_lt rfl (by omega) (by omega) (fun w => by omega) (fun w => ?_)
  repeat refine x_step rfl ?_
  refine x_lt rfl (by omega) (by omega) (fun w => ?_) (fun w => by omega)
  repeat refine x_step rfl ?_
  refine x_call rfl (cW_codeOf I k h0 (by omega)) ?_
  exact x_iret rfl rfl (hG.w k h0 (by omega)) rfl
theorem B_tile (h : SIM I) (q : Int) (h0 : 0 ≤ q) (h1 : q ≤ 80) : XR mB_tile [.inr 3, .inl q] (hN I) (some (.inl (I 118 q))) (hN I) := by
  have hG := h.1
  refine XRa.of (by decide) (Nat.le_of_ble_eq_true rfl) ?_
  repeat refine x_step rfl ?_
  refine x_call rfl (cB_isSquare _ q (by omega)) ?_
  rw [if_pos (show 0 ≤ q ∧ q ≤ 80 from ⟨h0, h1⟩)]
  refine x_eq rfl (by omega) (by omega) (fun w => by omega) (fun w => ?_)
  repeat refine x_step rfl ?_
  refine x_call rfl (cS_letterOn I q h0 h1) ?_
  repeat refine x_step rfl ?_
  exact x_iret rfl rfl (hG.be q h0 h1) rfl
theorem B_run (h : SIM I) (q d : Int) (h0 : 0 ≤ q) (h1 : q ≤ 80) (hd : d = 0 ∨ d = 1) : XR mB_run [.inr 3, .inl q, .inl d] (hN I) (some (.inl (if I 118 q = 0 ∨ rnS (I 118) q d (I 118 q) = 0 then -5 else rnS (I 118) q d (I 118 q)))) (hN I) := by
  have hG := h.1
  have hb := hG.2.bd q h0 h1
  have he := hG.be q h0 h1
  by_cases h2 : I 118 q = 0
  · rw [if_pos (Or.inl h2)]
    refine XRa.of (by decide) (Nat.le_of_ble_eq_true rfl) ?_
    repeat refine x_step rfl ?_
    refine x_call rfl (cB_isSquare _ q (by omega)) ?_
    rw [if_pos (show 0 ≤ q ∧ q ≤ 80 from ⟨h0, h1⟩)]
    refine x_eq rfl (by omega) (by omega) (fun w => by omega) (fun w => ?_)
    repeat refine x_step rfl ?_
    refine x_call rfl (cS_letterOn I q h0 h1) ?_
    repeat refine x_step rfl ?_
    refine x_eq rfl (by omega) (by omega) (fun w => ?_) (fun w => by omega)
    repeat refine x_step rfl ?_
    refine x_eq rfl (by omega) (by omega) (fun w => ?_) (fun w => absurd rfl w)
    repeat refine x_step rfl ?_
    exact x_iret rfl rfl rfl rfl
  · have hR := rnS_R hG.2.bd h0 h1 hd hb
    refine XRa.of (by decide) (Nat.le_of_ble_eq_true rfl) ?_
    repeat refine x_step rfl ?_
    refine x_call rfl (cB_isSquare _ q (by omega)) ?_
    rw [if_pos (show 0 ≤ q ∧ q ≤ 80 from ⟨h0, h1⟩)]
    refine x_eq rfl (by omega) (by omega) (fun w => by omega) (fun w => ?_)
    repeat refine x_step rfl ?_
    refine x_call rfl (cS_letterOn I q h0 h1) ?_
    rw [he]
    repeat refine x_step rfl ?_
    refine x_eq rfl (by omega) (by omega) (fun w => by omega) (fun w => ?_)
    repeat refine x_step rfl ?_
    refine x_call rfl (cS_runThrough I hG.bd8 q d _ h0 h1 hd (by omega)) ?_
    rw [rnS_c hG.be]
    repeat refine x_step rfl ?_
    refine x_eq rfl (by omega) (by omega) (fun w => ?_) (fun w => ?_)
    · repeat refine x_step rfl ?_
      exact x_iret rfl rfl (by rw [if_pos (Or.inr w)]) rfl
    · repeat refine x_step rfl ?_
      exact x_iret rfl rfl (by rw [if_neg (fun g => g.elim h2 w)]) rfl
theorem B_crossCheck (h : SIM I) (q d : Int) (h0 : 0 ≤ q) (h1 : q ≤ 80) (hd : d = 0 ∨ d = 1) : XR mB_crossCheck [.inr 3, .inl q, .inl d] (hN I) (some (.inl (if I 118 q = 0 then csF (alP (I 118) (inM I) q d) 8 else -5))) (hN I) := by
  have hG := h.1
  have hb := hG.2.bd q h0 h1
  have he := hG.be q h0 h1
  by_cases h2 : I 118 q = 0
  · rw [if_pos h2]
    refine XRa.of (by decide) (Nat.le_of_ble_eq_true rfl) ?_
    repeat refine x_step rfl ?_
    refine x_call rfl (cB_isSquare _ q (by omega)) ?_
    rw [if_pos (show 0 ≤ q ∧ q ≤ 80 from ⟨h0, h1⟩)]
    refine x_eq rfl (by omega) (by omega) (fun w => by omega) (fun w => ?_)
    repeat refine x_step rfl ?_
    refine x_call rfl (cS_letterOn I q h0 h1) ?_
    refine x_eq rfl (by omega) (by omega) (fun w => ?_) (fun w => by omega)
    repeat refine x_step rfl ?_
    refine x_call rfl (cG_crossSet I hG.bd8 hG.wr q d h0 h1 hd) ?_
    rw [csF_c hG.be hG.ic]
    exact x_iret rfl rfl rfl rfl
  · rw [if_neg h2]
    refine XRa.of (by decide) (Nat.le_of_ble_eq_true rfl) ?_
    repeat refine x_step rfl ?_
    refine x_call rfl (cB_isSquare _ q (by omega)) ?_
    rw [if_pos (show 0 ≤ q ∧ q ≤ 80 from ⟨h0, h1⟩)]
    refine x_eq rfl (by omega) (by omega) (fun w => by omega) (fun w => ?_)
    repeat refine x_step rfl ?_
    refine x_call rfl (cS_letterOn I q h0 h1) ?_
    refine x_eq rfl (by omega) (by omega) (fun w => by omega) (fun w => ?_)
    repeat refine x_step rfl ?_
    exact x_iret rfl rfl rfl rfl
theorem B_anchor (h : SIM I) (q : Int) (h0 : 0 ≤ q) (h1 : q ≤ 80) : XR mB_anchor [.inr 3, .inl q] (hN I) (some (.inl (anS (I 118) q))) (hN I) := by
  have hG := h.1
  have h01 := anS01 (I 118) q
  refine XRa.of (by decide) (Nat.le_of_ble_eq_true rfl) ?_
  repeat refine x_step rfl ?_
  refine x_call rfl (cB_isSquare _ q (by omega)) ?_
  rw [if_pos (show 0 ≤ q ∧ q ≤ 80 from ⟨h0, h1⟩)]
  refine x_eq rfl (by omega) (by omega) (fun w => by omega) (fun w => ?_)
  repeat refine x_step rfl ?_
  refine x_call rfl (cS_isAnchor I hG.bd8 q h0 h1) ?_
  rw [anS_c hG.be h0 h1]
  refine x_eq rfl (by omega) (by omega) (fun w => ?_) (fun w => ?_)
  · repeat refine x_step rfl ?_
    exact x_iret rfl rfl (by omega) rfl
  · repeat refine x_step rfl ?_
    exact x_iret rfl rfl (by omega) rfl
theorem B_tiles (h : SIM I) (p l : Int) (p0 : 0 ≤ p) (p2 : p ≤ 2) (h1 : 1 ≤ l) (h8 : l ≤ 8) : XR mB_tiles [.inr 3, .inl p, .inl l] (hN I) (some (.inl (I 118 (80 + 8 * p + l)))) (hN I) := by
  have hG := h.1
  refine XRa.of (by decide) (Nat.le_of_ble_eq_true rfl) ?_
  repeat refine x_step rfl ?_
  refine x_lt rfl (by omega) (by omega) (fun w => by omega) (fun w => ?_)
  repeat refine x_step rfl ?_
  refine x_lt rfl (by omega) (by omega) (fun w => by omega) (fun w => ?_)
  repeat refine x_step rfl ?_
  refine x_lt rfl (by omega) (by omega) (fun w => by omega) (fun w => ?_)
  repeat refine x_step rfl ?_
  refine x_le rfl (by omega) (by omega) (fun w => ?_) (fun w => by omega)
  repeat refine x_step rfl ?_
  refine x_eq rfl (by omega) (by omega) (fun w => ?_) (fun w => ?_)
  · repeat refine x_step rfl ?_
    refine x_call rfl (cT_of I 13 14 (by unfold tsP; omega) l (by omega) (by omega)) ?_
    repeat refine x_step rfl ?_
    have e : I 14 l = I 118 (96 + l) := hG.1.bg l (by omega) (by omega)
    exact x_iret rfl rfl (by rw [e, w, show (80 : Int) + 8 * 2 + l = 96 + l by omega]) rfl
  · repeat refine x_step rfl ?_
    refine x_call rfl (cG_rackOf I p (by omega)) ?_
    repeat refine x_step rfl ?_
    have hp01 : p = 0 ∨ p = 1 := by omega
    have e := hG.1.rz hp01 l (by omega) (by omega)
    unfold rkA rkZ at e
    rcases hp01 with rfl | rfl
    · rw [if_pos rfl] at e
      rw [if_pos rfl]
      refine x_call rfl (cT_of I 9 10 (by unfold tsP; omega) l (by omega) (by omega)) ?_
      exact x_iret rfl rfl e rfl
    · rw [if_neg (by omega)] at e
      rw [if_neg (by omega)]
      refine x_call rfl (cT_of I 11 12 (by unfold tsP; omega) l (by omega) (by omega)) ?_
      exact x_iret rfl rfl e rfl
theorem B_score (h : SIM I) (p : Int) (hp : p = 0 ∨ p = 1) : XR mB_score [.inr 3, .inl p] (hN I) (some (.inl (I 118 (107 + p)))) (hN I) := by
  have hG := h.1
  refine XRa.of (by decide) (Nat.le_of_ble_eq_true rfl) ?_
  repeat refine x_step rfl ?_
  refine x_lt rfl (by omega) (by omega) (fun w => by omega) (fun w => ?_)
  repeat refine x_step rfl ?_
  refine x_lt rfl (by omega) (by omega) (fun w => ?_) (fun w => by omega)
  repeat refine x_step rfl ?_
  refine x_eq rfl (by omega) (by omega) (fun w => ?_) (fun w => ?_)
  · repeat refine x_step rfl ?_
    exact x_iret rfl rfl (by rw [hG.1.x 8 (by omega) (by omega), w]; rfl) rfl
  · repeat refine x_step rfl ?_
    exact x_iret rfl rfl (by rw [hG.1.x 9 (by omega) (by omega), show p = 1 by omega]; rfl) rfl
theorem anS_x {b b' : Int → Int} (h : bdE b b') : xsm (anS b) 81 = xsm (anS b') 81 := xsm_c 81 (fun j a e => anS_c h a (by omega))
theorem B_count0 (h : SIM I) : XR mB_count [.inr 3, .inl 0] (hN I) (some (.inl (I 118 112))) (hN I) := by
  have hG := h.1
  refine XRa.of (by decide) (Nat.le_of_ble_eq_true rfl) ?_
  repeat refine x_step rfl ?_
  refine x_tswI (tgt := 64) rfl (by omega) (by omega) (by omega) rfl (by decide) ?_
  repeat refine x_step rfl ?_
  exact x_iret rfl rfl hG.m rfl
theorem B_count1 (h : SIM I) : XR mB_count [.inr 3, .inl 1] (hN I) (some (.inl (toS (I 118)))) (hN I) := by
  have hG := h.1
  refine XRa.of (by decide) (Nat.le_of_ble_eq_true rfl) ?_
  repeat refine x_step rfl ?_
  refine x_tswI (tgt := 75) rfl (by omega) (by omega) (by omega) rfl (by decide) ?_
  repeat refine x_step rfl ?_
  refine x_call rfl (cS_tilesOn I hG.bd8) ?_
  exact x_iret rfl rfl (toS_c hG.be) rfl
theorem B_count2 (h : SIM I) : XR mB_count [.inr 3, .inl 2] (hN I) (some (.inl (ttS (bgZ (I 118))))) (hN I) := by
  have hG := h.1
  refine XRa.of (by decide) (Nat.le_of_ble_eq_true rfl) ?_
  repeat refine x_step rfl ?_
  refine x_tswI (tgt := 86) rfl (by omega) (by omega) (by omega) rfl (by decide) ?_
  repeat refine x_step rfl ?_
  refine x_call rfl (cT_total _ rfl I 13 14 (by unfold tsP; omega)) ?_
  exact x_iret rfl rfl (ttS_c hG.1.bg) rfl
theorem B_count3 (h : SIM I) : XR mB_count [.inr 3, .inl 3] (hN I) (some (.inl (xsm (anS (I 118)) 81))) (hN I) := by
  have hG := h.1
  refine XRa.of (by decide) (Nat.le_of_ble_eq_true rfl) ?_
  repeat refine x_step rfl ?_
  refine x_tswI (tgt := 97) rfl (by omega) (by omega) (by omega) rfl (by decide) ?_
  repeat refine x_step rfl ?_
  refine x_call rfl (cS_anchors I hG.bd8) ?_
  exact x_iret rfl rfl (anS_x hG.be) rfl
theorem B_count4 (h : SIM I) : XR mB_count [.inr 3, .inl 4] (hN I) (some (.inl (xsm (ruF (I 118) (inM I) 0) 162))) (hN I) := by
  have hG := h.1
  refine XRa.of (by decide) (Nat.le_of_ble_eq_true rfl) ?_
  repeat refine x_step rfl ?_
  refine x_tswI (tgt := 108) rfl (by omega) (by omega) (by omega) rfl (by decide) ?_
  repeat refine x_step rfl ?_
  refine x_call rfl (cG_runsInAll I hG.bd8) ?_
  exact x_iret rfl rfl (ruF_c hG.be hG.ic 0) rfl
theorem B_count5 (h : SIM I) : XR mB_count [.inr 3, .inl 5] (hN I) (some (.inl (xsm (ruF (I 118) (inM I) 1) 162))) (hN I) := by
  have hG := h.1
  refine XRa.of (by decide) (Nat.le_of_ble_eq_true rfl) ?_
  repeat refine x_step rfl ?_
  refine x_tswI (tgt := 116) rfl (by omega) (by omega) (by omega) rfl (by decide) ?_
  repeat refine x_step rfl ?_
  refine x_call rfl (cG_runsUnlisted I hG.bd8 hG.wr) ?_
  exact x_iret rfl rfl (ruF_c hG.be hG.ic 1) rfl
theorem B_count6 (h : SIM I) : XR mB_count [.inr 3, .inl 6] (hN I) (some (.inl (I 118 106))) (hN I) := by
  have hG := h.1
  refine XRa.of (by decide) (Nat.le_of_ble_eq_true rfl) ?_
  repeat refine x_step rfl ?_
  refine x_tswI (tgt := 124) rfl (by omega) (by omega) (by omega) rfl (by decide) ?_
  repeat refine x_step rfl ?_
  exact x_iret rfl rfl hG.t rfl
theorem B_count7 (h : SIM I) : XR mB_count [.inr 3, .inl 7] (hN I) (some (.inl (I 118 109))) (hN I) := by
  have hG := h.1
  refine XRa.of (by decide) (Nat.le_of_ble_eq_true rfl) ?_
  repeat refine x_step rfl ?_
  refine x_tswI (tgt := 132) rfl (by omega) (by omega) (by omega) rfl (by decide) ?_
  repeat refine x_step rfl ?_
  exact x_iret rfl rfl (hG.1.x 10 (by omega) (by omega)) rfl
theorem B_average (h : SIM I) : XRf mB_average [.inr 3] (hN I) (avF (zI (I 118 107 + I 118 108)) (zI (I 118 109))) := by
  have hG := h.1.1
  have := cB_average I
  rw [hG.x 8 (by omega) (by omega), hG.x 9 (by omega) (by omega), hG.x 10 (by omega) (by omega)] at this
  exact this
/-! plays: what is asked of them changes only the rows that hold the play -/
def FQ (I J : Nat → Int → Int) : Prop := ∀ a : Nat, a < 112 ∨ 116 < a → J a = I a
theorem FQ.sim {I J : Nat → Int → Int} (h : SIM I) (hF : FQ I J) : SIM J := h.free (fun a w => hF a (by omega))
theorem FQ.rf (I : Nat → Int → Int) : FQ I I := fun _ _ => rfl
theorem FQ.tr {I J K : Nat → Int → Int} (h : FQ I J) (h2 : FQ J K) : FQ I K := fun a w => (h2 a w).trans (h a w)
theorem FQ.e8 {I J : Nat → Int → Int} (h : FQ I J) : J 118 = I 118 := h 118 (by omega)
theorem FQ.iM {I J : Nat → Int → Int} (h : FQ I J) : inM J = inM I := inM_c h.e8
def cdH (I : Nat → Int → Int) (c q d : Int) : Nat → Int → Int := xup (xup (swH I 112 113 c) 112 3 q) 112 4 d
theorem cdH_ne {I : Nat → Int → Int} {c q d : Int} {a : Nat} (h : a ≠ 112) (h2 : a ≠ 113) : cdH I c q d a = I a := by
  unfold cdH swH
  rw [xup_ne h, xup_ne h, xset_ne h2, xup_ne h, xup_ne h]
theorem cdH_FQ (I : Nat → Int → Int) (c q d : Int) : FQ I (cdH I c q d) := fun a w => cdH_ne (by omega) (by omega)
/-- the reason of a play -/
noncomputable def RF (I : Nat → Int → Int) (c q d : Int) : Int := rfS (I 118) (inM I) (rkZ (I 118) (I 118 106)) c q d
theorem RF_c {I J : Nat → Int → Int} (h : J 118 = I 118) (c q d : Int) : RF J c q d = RF I c q d := by
  unfold RF
  rw [h, inM_c h]
theorem RF_R (I : Nat → Int → Int) (c q d : Int) : 0 ≤ RF I c q d ∧ RF I c q d ≤ 8 := rfS_R _ _ _ _ _ _
theorem B_reason (h : SIM I) (c q d : Int) (hc : InR c) (hl : 0 < lnS c) (h0 : 0 ≤ q) (h1 : q ≤ 80) (hd : d = 0 ∨ d = 1) : XR mB_reason [.inr 3, .inl c, .inl q, .inl d] (hN I) (some (.inl (RF I c q d))) (hN (cdH I c q d)) := by
  have hK := FQ.sim h (cdH_FQ I c q d)
  have hpl : PL (cdH I c q d) 112 113 c q d := PL_set I 112 113 (Or.inl ⟨rfl, rfl⟩) c q d
  have hr : plR c q d := ⟨hc, by omega, h0, h1, hd⟩
  have hG := hK.1
  have hrf := hG.rf (c := c) h0 h1 hd
  have e := RF_c (I := I) (J := cdH I c q d) (cdH_FQ I c q d).e8 c q d
  rw [← e]
  unfold RF
  rw [← hrf]
  refine XRa.of (by decide) (Nat.le_of_ble_eq_true rfl) ?_
  repeat refine x_step rfl ?_
  refine x_call rfl (cB_errorOf _ c q hc (by omega)) ?_
  rw [if_neg (show ¬ lnS c = 0 by omega), if_pos (show 0 ≤ q ∧ q ≤ 80 from ⟨h0, h1⟩)]
  repeat refine x_step rfl ?_
  refine x_eq rfl (by omega) (by omega) (fun w => ?_) (fun w => absurd rfl w)
  repeat refine x_step rfl ?_
  refine x_callv rfl (cP_setWord I 112 113 (Or.inl ⟨rfl, rfl⟩) c hc (by omega)) ?_
  repeat refine x_step rfl ?_
  refine x_callv rfl (cP_setPlace _ 112 113 (Or.inl ⟨rfl, rfl⟩) q d hd) ?_
  show XEa mB_reason 0 0 0 0 _ _ _ _ _ (hN (cdH I c q d))
  repeat refine x_step rfl ?_
  refine x_call rfl (cG_refusal (cdH I c q d) 112 113 c q d (Or.inl ⟨rfl, rfl⟩) hpl hr hG.bd8 hG.wr hG.t01 hG.az) ?_
  exact x_iret rfl rfl rfl rfl
theorem B_worth (h : SIM I) (c q d : Int) (hc : InR c) (hl : 0 < lnS c) (h0 : 0 ≤ q) (h1 : q ≤ 80) (hd : d = 0 ∨ d = 1) : XR mB_worth [.inr 3, .inl c, .inl q, .inl d] (hN I) (some (.inl (if RF I c q d = 0 ∨ RF I c q d = 8 then woS (I 118) c q d else -5))) (hN (cdH I c q d)) := by
  have hK := FQ.sim h (cdH_FQ I c q d)
  have hpl : PL (cdH I c q d) 112 113 c q d := PL_set I 112 113 (Or.inl ⟨rfl, rfl⟩) c q d
  have hr : plR c q d := ⟨hc, by omega, h0, h1, hd⟩
  have hG := hK.1
  have hrf := hG.rf (c := c) h0 h1 hd
  have hwo := hG.wo c q d
  have e := RF_c (I := I) (J := cdH I c q d) (cdH_FQ I c q d).e8 c q d
  have hR := RF_R I c q d
  have h9 := @rf_9 (cdH I c q d 118) (inM (cdH I c q d)) (rkZ (cdH I c q d 118) (cdH I c q d 118 106)) c q d
  have hcr := cG_refusal (cdH I c q d) 112 113 c q d (Or.inl ⟨rfl, rfl⟩) hpl hr hG.bd8 hG.wr hG.t01 hG.az
  rw [hrf] at hcr
  unfold RF at e hR ⊢
  rw [e] at h9 hcr
  rw [(cdH_FQ I c q d).e8] at hwo
  generalize rfS (I 118) (inM I) (rkZ (I 118) (I 118 106)) c q d = r at *
  refine XRa.of (by decide) (Nat.le_of_ble_eq_true rfl) ?_
  repeat refine x_step rfl ?_
  refine x_call rfl (cB_errorOf _ c q hc (by omega)) ?_
  rw [if_neg (show ¬ lnS c = 0 by omega), if_pos (show 0 ≤ q ∧ q ≤ 80 from ⟨h0, h1⟩)]
  repeat refine x_step rfl ?_
  refine x_eq rfl (by omega) (by omega) (fun w => ?_) (fun w => absurd rfl w)
  repeat refine x_step rfl ?_
  refine x_callv rfl (cP_setWord I 112 113 (Or.inl ⟨rfl, rfl⟩) c hc (by omega)) ?_
  repeat refine x_step rfl ?_
  refine x_callv rfl (cP_setPlace _ 112 113 (Or.inl ⟨rfl, rfl⟩) q d hd) ?_
  show XEa mB_worth 0 0 0 0 _ _ _ _ _ (hN (cdH I c q d))
  repeat refine x_step rfl ?_
  refine x_call rfl hcr ?_
  have wor : ∀ L : XL, r = 0 ∨ r = 8 → xsub L [(0, .inr 3)] → XE mB_worth (some (.inl (if r = 0 ∨ r = 8 then woS (I 118) c q d else -5))) (hN (cdH I c q d)) 65 L [.inr 112, .inr 4] (hN (cdH I c q d)) := by
    intro L w hL
    refine x_loc hL ?_
    rw [if_pos w]
    refine x_call rfl (cG_worthOf (cdH I c q d) 112 113 c q d (Or.inl ⟨rfl, rfl⟩) hpl hr hG.bd8 (h9 w)) ?_
    repeat refine x_step rfl ?_
    exact x_iret rfl rfl hwo rfl
  repeat refine x_step rfl ?_
  refine x_eq rfl (by omega) (by omega) (fun w => ?_) (fun w => ?_)
  · repeat refine x_step rfl ?_
    exact wor _ (Or.inl w) (by exact ⟨rfl, trivial⟩)
  · repeat refine x_step rfl ?_
    refine x_eq rfl (by omega) (by omega) (fun w2 => ?_) (fun w2 => ?_)
    · repeat refine x_step rfl ?_
      exact wor _ (Or.inr w2) (by exact ⟨rfl, trivial⟩)
    · rw [if_neg (by omega)]
      repeat refine x_step rfl ?_
      exact x_iret rfl rfl rfl rfl
/-! the best play: what it is, told without the search -/
/-- how many plays there are, and the best of them -/
abbrev BST (I : Nat → Int → Int) (f bs bp bw : Int) : Prop := f = cnC (PO I) (I 118 112).toNat 0 ∧ BI (PO I) (SO I) (DC ((I 118 112).toNat : Int) 0) f bs bp bw
theorem PO_c {I J : Nat → Int → Int} (h : J 118 = I 118) : PO J = PO I := by
  funext a b
  unfold PO
  rw [h, inM_c h]
theorem SO_c {I J : Nat → Int → Int} (h : J 118 = I 118) : SO J = SO I := by
  funext a b
  unfold SO
  rw [h]
theorem BST.c {I J : Nat → Int → Int} (h : J 118 = I 118) {f bs bp bw : Int} (hb : BST I f bs bp bw) : BST J f bs bp bw := by
  unfold BST
  rw [PO_c h, SO_c h, h]
  exact hb
theorem BST.get (h : SIM I) : ∃ f bs bp bw, BST I f bs bp bw := by
  obtain ⟨J, -, -, h2, h3⟩ := cF_look I h
  exact ⟨_, _, _, _, h2, h3⟩
theorem BST.R {f bs bp bw : Int} (h : SIM I) (hb : BST I f bs bp bw) : 0 ≤ f ∧ f ≤ 100000 ∧ (f ≠ 0 → 0 ≤ bs ∧ bs ≤ 20000 ∧ 0 ≤ bp ∧ bp < 162 ∧ 0 ≤ bw ∧ bw < I 118 112 ∧ PO I bw bp ∧ bs = SO I bw bp) := by
  have hmn := h.1.2.mn
  have hR := cnC_R (PO I) (I 118 112).toNat 0
  refine ⟨by rw [hb.1]; omega, by rw [hb.1]; omega, fun w => ?_⟩
  obtain ⟨d1, d2, d3⟩ := hb.2.mem w
  have d4 := d3
  unfold SO at d4
  have := woS_R (I 118) (I 118 (113 + bw)) (bp / 2) (bp % 2)
  unfold DC at d1
  exact ⟨by omega, by omega, by omega, by omega, by omega, by omega, d2, d3⟩
theorem look (h : SIM I) {f bs bp bw : Int} (hb : BST I f bs bp bw) : ∃ J, XR mF_look [.inr 114, .inr 4] (hN I) none (hN J) ∧ FQ I J ∧ J 114 1 = f ∧ (f ≠ 0 → J 114 2 = bs ∧ J 114 3 = bp ∧ J 114 4 = bw) := by
  obtain ⟨J, x1, h1, h2, h3⟩ := cF_look I h
  refine ⟨J, x1, fun a w => h1 a (by omega) (by omega) (by omega), by rw [h2, hb.1], fun w => ?_⟩
  obtain ⟨a1, a2, a3⟩ := h3.one hb.2 (by rw [h2, ← hb.1]; exact w) w
  exact ⟨a1, a2, a3⟩
theorem B_plays (h : SIM I) {f bs bp bw : Int} (hb : BST I f bs bp bw) : ∃ J, XR mB_plays [.inr 3] (hN I) (some (.inl f)) (hN J) ∧ FQ I J := by
  obtain ⟨J, x1, hF, e1, -⟩ := look h hb
  refine ⟨J, ?_, hF⟩
  refine XRa.of (by decide) (Nat.le_of_ble_eq_true rfl) ?_
  repeat refine x_step rfl ?_
  refine x_callv rfl x1 ?_
  repeat refine x_step rfl ?_
  exact x_iret rfl rfl e1 rfl
theorem B_best (h : SIM I) {f bs bp bw : Int} (hb : BST I f bs bp bw) (x : Int) (x0 : 0 ≤ x) (x3 : x ≤ 3) : ∃ J, XR mB_best [.inr 3, .inl x] (hN I) (some (.inl (if f = 0 then -5 else if x = 0 then bs else if x = 1 then bp / 2 else if x = 2 then bp % 2 else bw))) (hN J) ∧ FQ I J := by
  obtain ⟨J, x1, hF, e1, e2⟩ := look h hb
  have hR := BST.R h hb
  refine ⟨J, ?_, hF⟩
  by_cases hf : f = 0
  · rw [if_pos hf]
    refine XRa.of (by decide) (Nat.le_of_ble_eq_true rfl) ?_
    repeat refine x_step rfl ?_
    refine x_lt rfl (by omega) (by omega) (fun w => by omega) (fun w => ?_)
    repeat refine x_step rfl ?_
    refine x_le rfl (by omega) (by omega) (fun w => ?_) (fun w => by omega)
    repeat refine x_step rfl ?_
    refine x_callv rfl x1 ?_
    repeat refine x_step rfl ?_
    refine x_eq rfl (by omega) (by omega) (fun w => ?_) (fun w => absurd (e1.trans hf) w)
    repeat refine x_step rfl ?_
    exact x_iret rfl rfl rfl rfl
  · obtain ⟨a1, a2, a3⟩ := e2 hf
    obtain ⟨r1, r2, r3, r4, r5, r6, -⟩ := hR.2.2 hf
    rw [if_neg hf]
    refine XRa.of (by decide) (Nat.le_of_ble_eq_true rfl) ?_
    repeat refine x_step rfl ?_
    refine x_lt rfl (by omega) (by omega) (fun w => by omega) (fun w => ?_)
    repeat refine x_step rfl ?_
    refine x_le rfl (by omega) (by omega) (fun w => ?_) (fun w => by omega)
    repeat refine x_step rfl ?_
    refine x_callv rfl x1 ?_
    repeat refine x_step rfl ?_
    refine x_eq rfl (by omega) (by omega) (fun w => absurd (e1.symm.trans w) hf) (fun w => ?_)
    have hc : x = 0 ∨ x = 1 ∨ x = 2 ∨ x = 3 := by omega
    rcases hc with rfl | rfl | rfl | rfl
    · repeat refine x_step rfl ?_
      refine x_tswI (tgt := 64) rfl (by omega) (by omega) (by omega) rfl (by decide) ?_
      repeat refine x_step rfl ?_
      exact x_iret rfl rfl (by rw [if_pos rfl, a1]) rfl
    · repeat refine x_step rfl ?_
      refine x_tswI (tgt := 72) rfl (by omega) (by omega) (by omega) rfl (by decide) ?_
      repeat refine x_step rfl ?_
      refine x_div rfl (by omega) (by omega) (by omega) (by omega) ?_
      exact x_iret rfl rfl (by rw [if_neg (by omega), if_pos rfl, a2]) rfl
    · repeat refine x_step rfl ?_
      refine x_tswI (tgt := 82) rfl (by omega) (by omega) (by omega) rfl (by decide) ?_
      repeat refine x_step rfl ?_
      refine x_rem rfl (by omega) (by omega) (by omega) (by omega) ?_
      exact x_iret rfl rfl (by rw [if_neg (by omega), if_neg (by omega), if_pos rfl, a2]) rfl
    · repeat refine x_step rfl ?_
      refine x_tswO (tgt := 92) rfl (by omega) (by omega) (by decide) ?_
      repeat refine x_step rfl ?_
      exact x_iret rfl rfl (by rw [if_neg (by omega), if_neg (by omega), if_neg (by omega), a3]) rfl
theorem B_best4 : XR mB_best [.inr 3, .inl 4] (hN I) (some (.inl (-2))) (hN I) := by
  refine XRa.of (by decide) (Nat.le_of_ble_eq_true rfl) ?_
  repeat refine x_step rfl ?_
  refine x_lt rfl (by omega) (by omega) (fun w => by omega) (fun w => ?_)
  repeat refine x_step rfl ?_
  refine x_le rfl (by omega) (by omega) (fun w => by omega) (fun w => ?_)
  repeat refine x_step rfl ?_
  exact x_iret rfl rfl rfl rfl
end QUERY
