/-! words: the game's two methods, and the reference's -/
/-- the number of a code in the list -/
def noS (I : Nat → Int → Int) (code : Int) : Int := fiS (I 6) code (I 5 1).toNat 0
theorem cW_no (I : Nat → Int → Int) (hw : wdR I) (code : Int) (hc : InR code) : XR mW_numberOf [.inr 5, .inl code] (hN I) (some (.inl (noS I code))) (hN I) := cW_numberOf I hw code hc
def lwR (I : Nat → Int → Int) (code : Int) : Int := if lnS code = 0 then -2 else if 0 ≤ noS I code then -4 else if I 5 1 = 20 then -3 else I 5 1
def lwI (I : Nat → Int → Int) (code : Int) : Nat → Int → Int := if lnS code = 0 then I else if 0 ≤ noS I code then I else if I 5 1 = 20 then I else xup (xup I 6 (I 5 1) code) 5 1 (I 5 1 + 1)
theorem noS_R (I : Nat → Int → Int) (hm : 0 ≤ I 5 1) (hm2 : I 5 1 ≤ 20) (code : Int) : -1 ≤ noS I code ∧ noS I code < I 5 1 ∨ noS I code = -1 := by
  rcases fiS_spec (I 6) code (I 5 1).toNat 0 with ⟨h1, -⟩ | ⟨h1, h2, -⟩
  · exact Or.inr h1
  · exact Or.inl ⟨by show -1 ≤ fiS _ _ _ _; omega, by show fiS _ _ _ _ < _; omega⟩
theorem cG_listWord (I : Nat → Int → Int) (hw : wdR I) (code : Int) (hc : InR code) : XR mG_listWord [.inr 4, .inl code] (hN I) (some (.inl (lwR I code))) (hN (lwI I code)) := by
  refine XRa.of (by decide) (Nat.le_of_ble_eq_true rfl) ?_
  have hl := lnS_le code
  obtain ⟨hm, hm2, hr⟩ := id hw
  have hn := noS_R I hm hm2 code
  unfold lwR lwI
  repeat refine x_step rfl ?_
  refine x_call rfl (cB_lengthOf _ code hc) ?_
  refine x_eq rfl (by omega) (by omega) (fun e1 => ?_) (fun e1 => ?_)
  · rw [if_pos e1, if_pos e1]
    repeat refine x_step rfl ?_
    exact x_iret rfl rfl rfl rfl
  rw [if_neg e1, if_neg e1]
  repeat refine x_step rfl ?_
  refine x_call rfl (cW_no I hw code hc) ?_
  refine x_lt rfl (by omega) (by omega) (fun e2 => ?_) (fun e2 => ?_)
  · rw [if_neg (show ¬ 0 ≤ noS I code by omega), if_neg (show ¬ 0 ≤ noS I code by omega)]
    repeat refine x_step rfl ?_
    refine x_call rfl (cW_add I hm hm2 code) ?_
    refine x_eq rfl (by omega) (by omega) (fun e3 => ?_) (fun e3 => ?_)
    · by_cases e4 : I 5 1 = 20
      · rw [if_pos e4, if_pos e4]
        repeat refine x_step rfl ?_
        exact x_iret rfl rfl rfl rfl
      · rw [if_neg e4] at e3
        omega
    · by_cases e4 : I 5 1 = 20
      · rw [if_pos e4] at e3
        omega
      · rw [if_neg e4, if_neg e4]
        repeat refine x_step rfl ?_
        exact x_iret rfl rfl (by rw [xup_at, if_pos rfl]; omega) rfl
  · rw [if_pos (show 0 ≤ noS I code by omega), if_pos (show 0 ≤ noS I code by omega)]
    repeat refine x_step rfl ?_
    exact x_iret rfl rfl rfl rfl
def ulR (I : Nat → Int → Int) (code : Int) : Int := if lnS code = 0 then -2 else noS I code
def ulI (I : Nat → Int → Int) (code : Int) : Nat → Int → Int := if lnS code = 0 then I else if 0 ≤ noS I code then xup (xset I 6 (rmS (I 6) (noS I code) (I 5 1 - 1))) 5 1 (I 5 1 - 1) else I
theorem cG_unlistWord (I : Nat → Int → Int) (hw : wdR I) (code : Int) (hc : InR code) : XR mG_unlistWord [.inr 4, .inl code] (hN I) (some (.inl (ulR I code))) (hN (ulI I code)) := by
  refine XRa.of (by decide) (Nat.le_of_ble_eq_true rfl) ?_
  have hl := lnS_le code
  obtain ⟨hm, hm2, hr⟩ := id hw
  have hn := noS_R I hm hm2 code
  unfold ulR ulI
  repeat refine x_step rfl ?_
  refine x_call rfl (cB_lengthOf _ code hc) ?_
  refine x_eq rfl (by omega) (by omega) (fun e1 => ?_) (fun e1 => ?_)
  · rw [if_pos e1, if_pos e1]
    repeat refine x_step rfl ?_
    exact x_iret rfl rfl rfl rfl
  rw [if_neg e1, if_neg e1]
  repeat refine x_step rfl ?_
  refine x_call rfl (cW_no I hw code hc) ?_
  repeat refine x_step rfl ?_
  refine x_lt rfl (by omega) (by omega) (fun e2 => ?_) (fun e2 => ?_)
  · rw [if_neg (show ¬ 0 ≤ noS I code by omega)]
    repeat refine x_step rfl ?_
    exact x_iret rfl rfl rfl rfl
  · rw [if_pos (show 0 ≤ noS I code by omega)]
    repeat refine x_step rfl ?_
    refine x_callv rfl (cW_remove I hm hm2 (noS I code) (by omega) (by omega)) ?_
    repeat refine x_step rfl ?_
    exact x_iret rfl rfl rfl rfl
/-- the reference's words -/
abbrev wdM (I : Nat → Int → Int) : Prop := 0 ≤ I 118 112 ∧ I 118 112 ≤ 20 ∧ ∀ k : Int, 0 ≤ k → k < I 118 112 → InR (I 118 (113 + k))
def noM (I : Nat → Int → Int) (code : Int) : Int := laS (fun j => I 118 (113 + j)) code (I 118 112).toNat
theorem noM_R (I : Nat → Int → Int) (hm : 0 ≤ I 118 112) (hm2 : I 118 112 ≤ 20) (code : Int) : 0 ≤ noM I code ∧ noM I code < I 118 112 ∨ noM I code = -5 := by
  rcases laS_spec (fun j => I 118 (113 + j)) code (I 118 112).toNat with ⟨h1, -⟩ | ⟨h1, h2, -⟩
  · exact Or.inr h1
  · exact Or.inl ⟨h1, by show laS _ _ _ < _; omega⟩
theorem cM_find (I : Nat → Int → Int) (hw : wdM I) (code : Int) (hc : InR code) : XR mM_find [.inr 117, .inl code] (hN I) (some (.inl (noM I code))) (hN I) := by
  refine XRa.of (by decide) (Nat.le_of_ble_eq_true rfl) ?_
  obtain ⟨hm, hm2, hr⟩ := hw
  repeat refine x_step rfl ?_
  have loop : ∀ (d i : Nat), (i : Int) + d = I 118 112 → XE mM_find (some (.inl (noM I code))) (hN I) 12 [(3, .inl i), (2, .inl (laS (fun j => I 118 (113 + j)) code i)), (0, .inr 117), (1, .inl code)] [.inl 112, .inr 118, .inl i] (hN I) := by
    intro d
    induction d with
    | zero =>
      intro i hi
      refine x_ald (len := 132) rfl (by omega) (by omega) ?_
      repeat refine x_step rfl ?_
      refine x_le rfl (by omega) (by omega) (fun _ => ?_) (fun hc => absurd (by omega) hc)
      repeat refine x_step rfl ?_
      exact x_iret rfl rfl (by rw [show i = (I 118 112).toNat by omega]; rfl) rfl
    | succ d ih =>
      intro i hi
      refine x_ald (len := 132) rfl (by omega) (by omega) ?_
      repeat refine x_step rfl ?_
      refine x_le rfl (by omega) (by omega) (fun hc => absurd hc (by omega)) (fun _ => ?_)
      repeat refine x_step rfl ?_
      refine x_ald (len := 132) rfl (by omega) (by omega) ?_
      repeat refine x_step rfl ?_
      refine x_eq rfl (hr _ (by omega) (by omega)) hc (fun he => ?_) (fun he => ?_)
      · repeat refine x_step rfl ?_
        exact x_loc (by exact ⟨rfl, xsi (by simp only [laS]; rw [if_pos he]), rfl, rfl, trivial⟩) (ih (i + 1) (by omega))
      · repeat refine x_step rfl ?_
        exact x_loc (by exact ⟨rfl, xsi (by simp only [laS]; rw [if_neg he]), rfl, rfl, trivial⟩) (ih (i + 1) (by omega))
  exact x_loc (by exact ⟨rfl, rfl, rfl, rfl, trivial⟩) (loop (I 118 112).toNat 0 (by omega))
def wnM (I : Nat → Int → Int) (code : Int) : Int := if 0 ≤ noM I code then -4 else if I 118 112 = 20 then -3 else 0
theorem cM_whyNoNewWord (I : Nat → Int → Int) (hw : wdM I) (code : Int) (hc : InR code) : XR mM_whyNoNewWord [.inr 117, .inl code] (hN I) (some (.inl (wnM I code))) (hN I) := by
  refine XRa.of (by decide) (Nat.le_of_ble_eq_true rfl) ?_
  obtain ⟨hm, hm2, hr⟩ := id hw
  have hn := noM_R I hm hm2 code
  unfold wnM
  repeat refine x_step rfl ?_
  refine x_call rfl (cM_find I hw code hc) ?_
  refine x_lt rfl (by omega) (by omega) (fun e2 => ?_) (fun e2 => ?_)
  · rw [if_neg (by omega)]
    repeat refine x_step rfl ?_
    refine x_ald (len := 132) rfl (by omega) (by omega) ?_
    repeat refine x_step rfl ?_
    refine x_eq rfl (by omega) (by omega) (fun e3 => ?_) (fun e3 => ?_)
    · repeat refine x_step rfl ?_
      exact x_iret rfl rfl (by rw [if_pos e3]) rfl
    · repeat refine x_step rfl ?_
      exact x_iret rfl rfl (by rw [if_neg e3]) rfl
  · repeat refine x_step rfl ?_
    exact x_iret rfl rfl (by rw [if_pos (by omega)]) rfl
/-- the reference's row with a word more, and with one less -/
def pwS (z : Int → Int) (code : Int) : Int → Int := fun j => if j = 112 then z 112 + 1 else if j = 113 + z 112 then code else z j
def twS (z : Int → Int) (k : Int) : Int → Int := fun j => if j = 112 then z 112 - 1 else if 113 + k ≤ j ∧ j < 113 + (z 112 - 1) then z (j + 1) else z j
theorem cM_putWord (I : Nat → Int → Int) (hm : 0 ≤ I 118 112) (hm2 : I 118 112 < 20) (code : Int) : XR mM_putWord [.inr 117, .inl code] (hN I) none (hN (xset I 118 (pwS (I 118) code))) := by
  refine XRa.of (by decide) (Nat.le_of_ble_eq_true rfl) ?_
  repeat refine x_step rfl ?_
  refine x_ald (len := 132) rfl (by omega) (by omega) ?_
  repeat refine x_step rfl ?_
  refine x_ast (len := 132) rfl (by omega) (by omega) ?_
  repeat refine x_step rfl ?_
  refine x_ald (len := 132) rfl (by omega) (by omega) ?_
  repeat refine x_step rfl ?_
  refine x_ast (len := 132) rfl (by omega) (by omega) ?_
  repeat refine x_step rfl ?_
  refine x_vret rfl rfl ?_
  have e : xup (xup I 118 (113 + I 118 112) code) 118 112 (xup I 118 (113 + I 118 112) code 118 112 + 1) = xset I 118 (pwS (I 118) code) := by
    rw [xup_at, if_neg (by omega)]
    funext a j
    unfold xup xset pwS
    by_cases ha : a = 118
    · simp [ha]
    · simp [ha]
  rw [e]
theorem cM_takeWord (I : Nat → Int → Int) (hm : 0 ≤ I 118 112) (hm2 : I 118 112 ≤ 20) (k : Int) (h0 : 0 ≤ k) (h1 : k < I 118 112) : XR mM_takeWord [.inr 117, .inl k] (hN I) none (hN (xset I 118 (twS (I 118) k))) := by
  refine XRa.of (by decide) (Nat.le_of_ble_eq_true rfl) ?_
  have loop : ∀ (n : Nat) (i : Int), i + n + 1 = I 118 112 → k ≤ i → XE mM_takeWord none (hN (xset I 118 (twS (I 118) k))) 20 [(2, .inl i), (1, .inl k), (0, .inr 117)] [.inl 112, .inr 118, .inl i] (hN (xset I 118 (fun j => if j = 112 then I 118 112 - 1 else if 113 + k ≤ j ∧ j < 113 + i then I 118 (j + 1) else I 118 j))) := by
    intro n
    induction n with
    | zero =>
      intro i hi hk
      refine x_ald (len := 132) rfl (by omega) (by omega) ?_
      rw [xset_at, if_pos rfl]
      refine x_le rfl (by omega) (by omega) (fun h1 => ?_) (fun h1 => absurd (by omega) h1)
      repeat refine x_step rfl ?_
      refine x_vret rfl rfl ?_
      rw [show i = I 118 112 - 1 by omega]
      rfl
    | succ n ih =>
      intro i hi hk
      refine x_ald (len := 132) rfl (by omega) (by omega) ?_
      rw [xset_at, if_pos rfl]
      refine x_le rfl (by omega) (by omega) (fun h1 => absurd h1 (by omega)) (fun h1 => ?_)
      repeat refine x_step rfl ?_
      refine x_ald (len := 132) rfl (by omega) (by omega) ?_
      refine x_ast (len := 132) rfl (by omega) (by omega) ?_
      repeat refine x_step rfl ?_
      refine x_to rfl rfl ?_ (x_loc (by exact ⟨rfl, rfl, rfl, trivial⟩) (ih (i + 1) (by omega) (by omega)))
      rw [xup_xset, xset_at]
      refine congrArg hN (xset_congr (fun j => ?_))
      by_cases hj : j = 113 + i
      · rw [if_pos hj, if_neg (by omega), if_neg (by omega), if_neg (by omega), if_pos (by omega), hj]
      · rw [if_neg hj]
        by_cases hj0 : j = 112
        · rw [if_pos hj0, if_pos hj0]
        · rw [if_neg hj0, if_neg hj0]
          by_cases hj2 : 113 + k ≤ j ∧ j < 113 + i
          · rw [if_pos hj2, if_pos (by omega)]
          · rw [if_neg hj2, if_neg (by omega)]
  repeat refine x_step rfl ?_
  refine x_ald (len := 132) rfl (by omega) (by omega) ?_
  repeat refine x_step rfl ?_
  refine x_ast (len := 132) rfl (by omega) (by omega) ?_
  repeat refine x_step rfl ?_
  refine x_to rfl rfl ?_ (x_loc (by exact ⟨rfl, rfl, rfl, trivial⟩) (loop (I 118 112 - k - 1).toNat k (by omega) (by omega)))
  have e : xup I 118 112 (I 118 112 - 1) = xset I 118 (fun j => if j = 112 then I 118 112 - 1 else if 113 + k ≤ j ∧ j < 113 + k then I 118 (j + 1) else I 118 j) := by
    funext a j
    unfold xup xset
    by_cases ha : a = 118
    · subst ha
      simp only [if_true]
      by_cases hj : j = 112
      · rw [if_pos hj, if_pos hj]
      · rw [if_neg hj, if_neg hj, if_neg (by omega)]
    · simp [ha]
  rw [e]
