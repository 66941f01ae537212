/-! a play, its reason and its worth -/
def cdH (I : Nat → Int → Int) (c q d : Int) : Nat → Int → Int := xup (xup (swH I 112 113 c) 112 3 q) 112 4 d
theorem cdH_ne {I : Nat → Int → Int} {c q d : Int} {a : Nat} (h : a ≠ 112) (h2 : a ≠ 113) : cdH I c q d a = I a := by
  unfold cdH swH
  rw [xup_ne h, xup_ne h, xset_ne h2, xup_ne h, xup_ne h]
theorem SIM.cd {I : Nat → Int → Int} (h : SIM I) (c q d : Int) : SIM (cdH I c q d) := h.free (fun a w => cdH_ne (by omega) (by omega)) (by rw [cdH_ne (by omega) (by omega)]) (fun f _ => by rw [cdH_ne (by omega) (by omega)])
theorem SIM.ro {I : Nat → Int → Int} (h : SIM I) (c q d : Int) : SIM (roH I c q d) := h.free (fun a w => roH_ne (by omega) (by omega)) (by rw [roH_ne (by omega) (by omega)]) (fun f _ => by rw [roH_ne (by omega) (by omega)])
theorem rf_ok {b : Int → Int} {W : Int → Prop} {rk : Int → Int} {c q d : Int} (hz : rfS b W rk c q d = 0) : c0S q d + lnS c ≤ 9 ∧ ¬ r8P b rk c q d := by
  unfold rfS at hz
  by_cases hW : W c
  · rw [sel_neg (fun w => w hW)] at hz
    rcases rf7_c b W c q d with ⟨g1, g2, g3⟩ | ⟨g1, g2, g3⟩
    · rw [g3] at hz; omega
    · refine ⟨g1, fun w => ?_⟩
      rw [g3, sel_pos w] at hz
      omega
  · rw [sel_pos hW] at hz; omega
theorem rf_9 {b : Int → Int} {W : Int → Prop} {rk : Int → Int} {c q d : Int} (hz : rfS b W rk c q d = 0 ∨ rfS b W rk c q d = 8) : c0S q d + lnS c ≤ 9 := by
  unfold rfS at hz
  by_cases hW : W c
  · rw [sel_neg (fun w => w hW)] at hz
    rcases rf7_c b W c q d with ⟨g1, g2, g3⟩ | ⟨g1, g2, g3⟩
    · rw [g3] at hz; omega
    · exact g1
  · rw [sel_pos hW] at hz; omega
theorem inM_c {I J : Nat → Int → Int} (h : I 118 = J 118) : inM I = inM J := by
  funext c
  unfold inM
  rw [h]
section PLAY
variable {I : Nat → Int → Int}
/-- no code of a word, or no square -/
theorem S_err (mB mM : Nat) (h : SIM I) {args : List XV} (v : Int) (hB : XR mB (.inr 3 :: args) (hN I) (some (.inl v)) (hN I)) (hM : XR mM (.inr 117 :: args) (hN I) (some (.inl v)) (hN I)) : SAM mB mM args I := ⟨v, _, _, hB, hM, h⟩
theorem S_reason (h : SIM I) (c q d : Int) (hc : InR c) (hq : InR q) (hd : d = 0 ∨ d = 1) : SAM mB_reason mM_reason [.inl c, .inl q, .inl d] I := by
  by_cases h1 : lnS c = 0
  · refine S_err _ _ h (-2) ?_ ?_
    · refine XRa.of (by decide) (Nat.le_of_ble_eq_true rfl) ?_
      repeat refine x_step rfl ?_
      refine x_call rfl (cB_errorOf _ c q hc hq) ?_
      rw [if_pos h1]
      repeat refine x_step rfl ?_
      refine x_eq rfl (by omega) (by omega) (fun w => by omega) (fun w => ?_)
      repeat refine x_step rfl ?_
      exact x_iret rfl rfl rfl rfl
    · refine XRa.of (by decide) (Nat.le_of_ble_eq_true rfl) ?_
      repeat refine x_step rfl ?_
      refine x_call rfl (cM_isCode _ c hc) ?_
      rw [if_neg (by omega)]
      refine x_eq rfl (by omega) (by omega) (fun w => ?_) (fun w => absurd rfl w)
      repeat refine x_step rfl ?_
      exact x_iret rfl rfl rfl rfl
  · have hl := lnS_le c
    by_cases h2 : 0 ≤ q ∧ q ≤ 80
    · have hK := h.cd c q d
      have hpl : PL (cdH I c q d) 112 113 c q d := PL_set I 112 113 (Or.inl ⟨rfl, rfl⟩) c q d
      have hr : plR c q d := ⟨hc, by omega, h2.1, h2.2, hd⟩
      have hG := hK.1
      have hrf := hG.rf (c := c) h2.1 h2.2 hd
      refine ⟨rfS (cdH I c q d 118) (inM (cdH I c q d)) (rkZ (cdH I c q d 118) (cdH I c q d 118 106)) c q d, cdH I c q d, roH (cdH I c q d) c q d, ?_, ?_, hK.ro c q d⟩
      · rw [← hrf]
        refine XRa.of (by decide) (Nat.le_of_ble_eq_true rfl) ?_
        repeat refine x_step rfl ?_
        refine x_call rfl (cB_errorOf _ c q hc hq) ?_
        rw [if_neg h1, if_pos h2]
        repeat refine x_step rfl ?_
        refine x_eq rfl (by omega) (by omega) (fun w => ?_) (fun w => absurd rfl w)
        repeat refine x_step rfl ?_
        refine x_callv rfl (cP_setWord I 112 113 (Or.inl ⟨rfl, rfl⟩) c hc (by omega)) ?_
        repeat refine x_step rfl ?_
        refine x_callv rfl (cP_setPlace _ 112 113 (Or.inl ⟨rfl, rfl⟩) q d hd) ?_
        show XEa mB_reason 0 0 0 0 _ _ _ _ _ (hN (cdH I c q d))
        repeat refine x_step rfl ?_
        refine x_call rfl (cG_refusal (cdH I c q d) 112 113 c q d (Or.inl ⟨rfl, rfl⟩) hpl hr hG.bd8 hG.wr hG.t01 hG.az) ?_
        exact x_iret rfl rfl rfl rfl
      · refine XRa.of (by decide) (Nat.le_of_ble_eq_true rfl) ?_
        repeat refine x_step rfl ?_
        refine x_call rfl (cM_isCode _ c hc) ?_
        rw [if_pos (by omega)]
        refine x_eq rfl (by omega) (by omega) (fun w => by omega) (fun w => ?_)
        repeat refine x_step rfl ?_
        refine x_call rfl (cM_isSquare _ q hq) ?_
        rw [if_pos h2]
        refine x_eq rfl (by omega) (by omega) (fun w => by omega) (fun w => ?_)
        repeat refine x_step rfl ?_
        refine x_call rfl (cM_reasonOf (cdH I c q d) c q d hr hG.2.bd hG.wm hG.2.tu (hG.2.az hG.2.tu)) ?_
        repeat refine x_step rfl ?_
        exact x_iret rfl rfl rfl rfl
    · refine S_err _ _ h (-1) ?_ ?_
      · refine XRa.of (by decide) (Nat.le_of_ble_eq_true rfl) ?_
        repeat refine x_step rfl ?_
        refine x_call rfl (cB_errorOf _ c q hc hq) ?_
        rw [if_neg h1, if_neg h2]
        repeat refine x_step rfl ?_
        refine x_eq rfl (by omega) (by omega) (fun w => by omega) (fun w => ?_)
        repeat refine x_step rfl ?_
        exact x_iret rfl rfl rfl rfl
      · refine XRa.of (by decide) (Nat.le_of_ble_eq_true rfl) ?_
        repeat refine x_step rfl ?_
        refine x_call rfl (cM_isCode _ c hc) ?_
        rw [if_pos (by omega)]
        refine x_eq rfl (by omega) (by omega) (fun w => by omega) (fun w => ?_)
        repeat refine x_step rfl ?_
        refine x_call rfl (cM_isSquare _ q hq) ?_
        rw [if_neg h2]
        refine x_eq rfl (by omega) (by omega) (fun w => ?_) (fun w => absurd rfl w)
        repeat refine x_step rfl ?_
        exact x_iret rfl rfl rfl rfl
theorem S_worth (h : SIM I) (c q d : Int) (hc : InR c) (hq : InR q) (hd : d = 0 ∨ d = 1) : SAM mB_worth mM_worth [.inl c, .inl q, .inl d] I := by
  by_cases h1 : lnS c = 0
  · refine S_err _ _ h (-2) ?_ ?_
    · refine XRa.of (by decide) (Nat.le_of_ble_eq_true rfl) ?_
      repeat refine x_step rfl ?_
      refine x_call rfl (cB_errorOf _ c q hc hq) ?_
      rw [if_pos h1]
      repeat refine x_step rfl ?_
      refine x_eq rfl (by omega) (by omega) (fun w => by omega) (fun w => ?_)
      repeat refine x_step rfl ?_
      exact x_iret rfl rfl rfl rfl
    · refine XRa.of (by decide) (Nat.le_of_ble_eq_true rfl) ?_
      repeat refine x_step rfl ?_
      refine x_call rfl (cM_isCode _ c hc) ?_
      rw [if_neg (by omega)]
      refine x_eq rfl (by omega) (by omega) (fun w => ?_) (fun w => absurd rfl w)
      repeat refine x_step rfl ?_
      exact x_iret rfl rfl rfl rfl
  · have hl := lnS_le c
    by_cases h2 : 0 ≤ q ∧ q ≤ 80
    · have hK := h.cd c q d
      have hpl : PL (cdH I c q d) 112 113 c q d := PL_set I 112 113 (Or.inl ⟨rfl, rfl⟩) c q d
      have hr : plR c q d := ⟨hc, by omega, h2.1, h2.2, hd⟩
      have hG := hK.1
      have hrf := hG.rf (c := c) h2.1 h2.2 hd
      have hwo := hG.wo c q d
      have hR := rfS_R (cdH I c q d 118) (inM (cdH I c q d)) (rkZ (cdH I c q d 118) (cdH I c q d 118 106)) c q d
      have h9 := @rf_9 (cdH I c q d 118) (inM (cdH I c q d)) (rkZ (cdH I c q d 118) (cdH I c q d 118 106)) c q d
      have hcr := cG_refusal (cdH I c q d) 112 113 c q d (Or.inl ⟨rfl, rfl⟩) hpl hr hG.bd8 hG.wr hG.t01 hG.az
      have hmr := cM_reasonOf (cdH I c q d) c q d hr hG.2.bd hG.wm hG.2.tu (hG.2.az hG.2.tu)
      rw [hrf] at hcr
      generalize rfS (cdH I c q d 118) (inM (cdH I c q d)) (rkZ (cdH I c q d 118) (cdH I c q d 118 106)) c q d = r at *
      have hRo := hK.ro c q d
      have ero : ∀ a : Nat, a ≠ 122 → a ≠ 123 → roH (cdH I c q d) c q d a = cdH I c q d a := fun a w w2 => roH_ne w w2
      have cls : ∀ v : Int, v = (if r = 0 ∨ r = 8 then woS (cdH I c q d 118) c q d else -5) → XR mB_worth [.inr 3, .inl c, .inl q, .inl d] (hN I) (some (.inl v)) (hN (cdH I c q d)) := by
        intro v hv
        refine XRa.of (by decide) (Nat.le_of_ble_eq_true rfl) ?_
        repeat refine x_step rfl ?_
        refine x_call rfl (cB_errorOf _ c q hc hq) ?_
        rw [if_neg h1, if_pos h2]
        repeat refine x_step rfl ?_
        refine x_eq rfl (by omega) (by omega) (fun w => ?_) (fun w => absurd rfl w)
        repeat refine x_step rfl ?_
        refine x_callv rfl (cP_setWord I 112 113 (Or.inl ⟨rfl, rfl⟩) c hc (by omega)) ?_
        repeat refine x_step rfl ?_
        refine x_callv rfl (cP_setPlace _ 112 113 (Or.inl ⟨rfl, rfl⟩) q d hd) ?_
        show XEa mB_worth 0 0 0 0 _ _ _ _ _ (hN (cdH I c q d))
        repeat refine x_step rfl ?_
        refine x_call rfl hcr ?_
        have wor : ∀ L : XL, r = 0 ∨ r = 8 → xsub L [(0, .inr 3)] → XE mB_worth (some (.inl v)) (hN (cdH I c q d)) 65 L [.inr 112, .inr 4] (hN (cdH I c q d)) := by
          intro L w hL
          refine x_loc hL ?_
          rw [if_pos w] at hv
          refine x_call rfl (cG_worthOf (cdH I c q d) 112 113 c q d (Or.inl ⟨rfl, rfl⟩) hpl hr hG.bd8 (h9 w)) ?_
          repeat refine x_step rfl ?_
          exact x_iret rfl rfl (by rw [hv, hwo]) rfl
        repeat refine x_step rfl ?_
        refine x_eq rfl (by omega) (by omega) (fun w => ?_) (fun w => ?_)
        · repeat refine x_step rfl ?_
          exact wor _ (Or.inl w) (by exact ⟨rfl, trivial⟩)
        · repeat refine x_step rfl ?_
          refine x_eq rfl (by omega) (by omega) (fun w2 => ?_) (fun w2 => ?_)
          · repeat refine x_step rfl ?_
            exact wor _ (Or.inr w2) (by exact ⟨rfl, trivial⟩)
          · rw [if_neg (by omega)] at hv
            repeat refine x_step rfl ?_
            exact x_iret rfl rfl hv.symm rfl
      by_cases w : r = 0 ∨ r = 8
      · have h9w := h9 w
        refine ⟨woS (cdH I c q d 118) c q d, cdH I c q d, xset (roH (cdH I c q d) c q d) 122 (wrS (roH (cdH I c q d) c q d 122) c 0), cls _ (by rw [if_pos w]), ?_, hRo.free (fun a w2 => xset_ne (by omega)) (by rw [xset_ne (by omega)]) (fun f _ => by rw [xset_ne (by omega)])⟩
        refine XRa.of (by decide) (Nat.le_of_ble_eq_true rfl) ?_
        repeat refine x_step rfl ?_
        refine x_call rfl (cM_isCode _ c hc) ?_
        rw [if_pos (by omega)]
        refine x_eq rfl (by omega) (by omega) (fun w => by omega) (fun w => ?_)
        repeat refine x_step rfl ?_
        refine x_call rfl (cM_isSquare _ q hq) ?_
        rw [if_pos h2]
        refine x_eq rfl (by omega) (by omega) (fun w => by omega) (fun w => ?_)
        repeat refine x_step rfl ?_
        refine x_call rfl hmr ?_
        have sc := cM_scoreOf (roH (cdH I c q d) c q d) c q d hr (by rw [ero 118 (by omega) (by omega)]; exact hG.2.bd) h9w
        rw [ero 118 (by omega) (by omega)] at sc
        repeat refine x_step rfl ?_
        refine x_le rfl (by omega) (by omega) (fun w2 => ?_) (fun w2 => ?_)
        · repeat refine x_step rfl ?_
          refine x_call rfl sc ?_
          exact x_iret rfl rfl rfl rfl
        · repeat refine x_step rfl ?_
          refine x_le rfl (by omega) (by omega) (fun w3 => ?_) (fun w3 => by omega)
          repeat refine x_step rfl ?_
          refine x_call rfl sc ?_
          exact x_iret rfl rfl rfl rfl
      · refine ⟨-5, cdH I c q d, roH (cdH I c q d) c q d, cls _ (by rw [if_neg w]), ?_, hRo⟩
        refine XRa.of (by decide) (Nat.le_of_ble_eq_true rfl) ?_
        repeat refine x_step rfl ?_
        refine x_call rfl (cM_isCode _ c hc) ?_
        rw [if_pos (by omega)]
        refine x_eq rfl (by omega) (by omega) (fun w => by omega) (fun w => ?_)
        repeat refine x_step rfl ?_
        refine x_call rfl (cM_isSquare _ q hq) ?_
        rw [if_pos h2]
        refine x_eq rfl (by omega) (by omega) (fun w => by omega) (fun w => ?_)
        repeat refine x_step rfl ?_
        refine x_call rfl hmr ?_
        repeat refine x_step rfl ?_
        refine x_le rfl (by omega) (by omega) (fun w2 => by omega) (fun w2 => ?_)
        repeat refine x_step rfl ?_
        refine x_le rfl (by omega) (by omega) (fun w3 => by omega) (fun w3 => ?_)
        repeat refine x_step rfl ?_
        exact x_iret rfl rfl rfl rfl
    · refine S_err _ _ h (-1) ?_ ?_
      · refine XRa.of (by decide) (Nat.le_of_ble_eq_true rfl) ?_
        repeat refine x_step rfl ?_
        refine x_call rfl (cB_errorOf _ c q hc hq) ?_
        rw [if_neg h1, if_neg h2]
        repeat refine x_step rfl ?_
        refine x_eq rfl (by omega) (by omega) (fun w => by omega) (fun w => ?_)
        repeat refine x_step rfl ?_
        exact x_iret rfl rfl rfl rfl
      · refine XRa.of (by decide) (Nat.le_of_ble_eq_true rfl) ?_
        repeat refine x_step rfl ?_
        refine x_call rfl (cM_isCode _ c hc) ?_
        rw [if_pos (by omega)]
        refine x_eq rfl (by omega) (by omega) (fun w => by omega) (fun w => ?_)
        repeat refine x_step rfl ?_
        refine x_call rfl (cM_isSquare _ q hq) ?_
        rw [if_neg h2]
        refine x_eq rfl (by omega) (by omega) (fun w => ?_) (fun w => absurd rfl w)
        repeat refine x_step rfl ?_
        exact x_iret rfl rfl rfl rfl
end PLAY
