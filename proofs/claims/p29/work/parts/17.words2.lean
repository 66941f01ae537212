/-! words: the game's two methods, and the reference's -/
/-- the number of a code in the list -/
def noS (I : Nat → Int → Int) (code : Int) : Int := fiS (I 6) code (I 5 1).toNat 0
theorem cW_no (I : Nat → Int → Int) (hw : wdR I) (code : Int) (hc : InR code) : XR mW_numberOf [.inr 5, .inl code] (hN I) (some (.inl (noS I code))) (hN I) := cW_numberOf I hw code hc
def lwR (I : Nat → Int → Int) (code : Int) : Int := if lnS code = 0 then -2 else if 0 ≤ noS I code then -4 else if I 5 1 = 20 then -3 else I 5 1
def lwI (I : Nat → Int → Int) (code : Int) : Nat → Int → Int := if lnS code = 0 then I else if 0 ≤ noS I code then I else if I 5 1 = 20 then I else xup (xup I 6 (I 5 1) code) 5 1 (I 5 1 + 1)
theorem noS_R (I : Nat → Int → Int) (hm : 0 ≤ I 5 1) (hm2 : I 5 1 ≤ 20) (code : Int) : -1 ≤ noS I code ∧ noS I code < I 5 1 ∨ noS I code = -1 := by
  rcases fiS_spec (I 6) code (I 5 1).toNat 0 with ⟨h1, -⟩ | ⟨h1, h2, -⟩
  · exact Or.inr h1
  · exact Or.inl ⟨by show -1 ≤ fiS _ _ _ _; omega, by show fiS _ _ _ _ < _; omega⟩
theorem cG_listWord (I : Nat → Int → Int) (hw : wdR I) (code : Int) (hc : InR code) : XR mG_listWord [.inr 4, .inl code] (hN I) (some (.inl (lwR I code))) (hN (lwI I code)) := by
  refine XRa.of (by decide) (Nat.le_of_ble_eq_true rfl) ?_
  have hl := lnS_le code
  obtain ⟨hm, hm2, hr⟩ := id hw
  have hn := noS_R I hm hm2 code
  unfold lwR lwI
  repeat refine x_step rfl ?_
  refine x_call rfl (cB_lengthOf _ code hc) ?_
  refine x_eq rfl (by omega) (by omega) (fun e1 => ?_) (fun e1 => ?_)
  · rw [if_pos e1, if_pos e1]
    repeat refine x_step rfl ?_
    exact x_iret rfl rfl rfl rfl
  rw [if_neg e1, if_neg e1]
  repeat refine x_step rfl ?_
  refine x_call rfl (cW_no I hw code hc) ?_
  refine x_lt rfl (by omega) (by omega) (fun e2 => ?_) (fun e2 => ?_)
  · rw [if_neg (show ¬ 0 ≤ noS I code by omega), if_neg (show ¬ 0 ≤ noS I code by omega)]
    repeat refine x_step rfl ?_
    refine x_call rfl (cW_add I hm hm2 code) ?_
    refine x_eq rfl (by omega) (by omega) (fun e3 => ?_) (fun e3 => ?_)
    · by_cases e4 : I 5 1 = 20
      · rw [if_pos e4, if_pos e4]
        repeat refine x_step rfl ?_
        exact x_iret rfl rfl rfl rfl
      · rw [if_neg e4] at e3
        omega
    · by_cases e4 : I 5 1 = 20
      · rw [if_pos e4] at e3
        omega
      · rw [if_neg e4, if_neg e4]
        repeat refine x_step rfl ?_
        exact x_iret rfl rfl (by rw [xup_at, if_pos rfl]; omega) rfl
  · rw [if_pos (show 0 ≤ noS I code by omega), if_pos (show 0 ≤ noS I code by omega)]
    repeat refine x_step rfl ?_
    exact x_iret rfl rfl rfl rfl
def ulR (I : Nat → Int → Int) (code : Int) : Int := if lnS code = 0 then -2 else noS I code
def ulI (I : Nat → Int → Int) (code : Int) : Nat → Int → Int := if lnS code = 0 then I else if 0 ≤ noS I code then xup (xset I 6 (rmS (I 6) (noS I code) (I 5 1 - 1))) 5 1 (I 5 1 - 1) else I
theorem cG_unlistWord (I : Nat → Int → Int) (hw : wdR I) (code : Int) (hc : InR code) : XR mG_unlistWord [.inr 4, .inl code] (hN I) (some (.inl (ulR I code))) (hN (ulI I code)) := by
  refine XRa.of (by decide) (Nat.le_of_ble_eq_true rfl) ?_
  have hl := lnS_le code
  obtain ⟨hm, hm2, hr⟩ := id hw
  have hn := noS_R I hm hm2 code
  unfold ulR ulI
  repeat refine x_step rfl ?_
  refine x_call rfl (cB_lengthOf _ code hc) ?_
  refine x_eq rfl (by omega) (by omega) (fun e1 => ?_) (fun e1 => ?_)
  · rw [if_pos e1, if_pos e1]
    repeat refine x_step rfl ?_
    exact x_iret rfl rfl rfl rfl
  rw [if_neg e1, if_neg e1]
  repeat refine x_step rfl ?_
  refine x_call rfl (cW_no I hw code hc) ?_
  repeat refine x_step rfl ?_
  refine x_lt rfl (by omega) (by omega) (fun e2 => ?_) (fun e2 => ?_)
  · rw [if_neg (show ¬ 0 ≤ noS I code by omega)]
    repeat refine x_step rfl ?_
    exact x_iret rfl rfl rfl rfl
  · rw [if_pos (show 0 ≤ noS I code by omega)]
    repeat refine x_step rfl ?_
    refine x_callv rfl (cW_remove I hm hm2 (noS I code) (by omega) (by omega)) ?_
    repeat refine x_step rfl ?_
    exact x_iret rfl rfl rfl rfl
/-- the reference's words -/
abbrev wdM (I : Nat → Int → Int) : Prop := 0 ≤ I 118 112 ∧ I 118 112 ≤ 20 ∧ ∀ k : Int, 0 ≤ k → k < I 118 112 → InR (I 118 (113 + k))
def noM (I : Nat → Int → Int) (code : Int) : Int := laS (fun j => I 118 (113 + j)) code (I 118 112).toNat
theorem noM_R (I : Nat → Int → Int) (hm : 0 ≤ I 118 112) (hm2 : I 118 112 ≤ 20) (code : Int) : 0 ≤ noM I code ∧ noM I code < I 118 112 ∨ noM I code = -5 := by
  rcases laS_spec (fun j => I 118 (113 + j)) code (I 118 112).toNat with ⟨h1, -⟩ | ⟨h1, h2, -⟩
  · exact Or.inr h1
  · exact Or.inl ⟨h1, by show laS _ _ _ < _; omega⟩
def wnM (I : Nat → Int → Int) (code : Int) : Int := if 0 ≤ noM I code then -4 else if I 118 112 = 20 then -3 else 0
/-- the reference's row with a word more, and with one less -/
def pwS (z : Int → Int) (code : Int) : Int → Int := fun j => if j = 112 then z 112 + 1 else if j = 113 + z 112 then code else z j
def twS (z : Int → Int) (k : Int) : Int → Int := fun j => if j = 112 then z 112 - 1 else if 113 + k ≤ j ∧ j < 113 + (z 112 - 1) then z (j + 1) else z j