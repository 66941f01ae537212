/-! the text: append, clearText, stopped -/
section TEXT
variable {I : Nat → Int → Int}
theorem S_stopped (h : SIM I) : SAM mB_stopped mM_stopped [] I := by
  refine S_err _ _ h (I 3 7) ?_ ?_
  · refine XRa.of (by decide) (Nat.le_of_ble_eq_true rfl) ?_
    repeat refine x_step rfl ?_
    exact x_iret rfl rfl rfl rfl
  · refine XRa.of (by decide) (Nat.le_of_ble_eq_true rfl) ?_
    repeat refine x_step rfl ?_
    exact x_iret rfl rfl h.2.2.2.2.2.symm rfl
theorem SIM.tx {J : Nat → Int → Int} (h : SIM I) (hs : ∀ a : Nat, a ≤ 109 ∨ (118 ≤ a ∧ a ≤ 120) → J a = I a) (h117 : ∀ f : Int, f = 2 ∨ f = 4 ∨ f = 7 → J 117 f = I 117 f) (ht : TX J) : SIM J := by
  obtain ⟨hG, hA, hH, hS, hT, h7⟩ := h
  refine ⟨⟨hG.1.congr (fun a a0 a1 => hs a (by omega)) (fun j _ _ => by rw [hs 118 (by omega)]), by rw [hs 118 (by omega)]; exact hG.2⟩, fun k a b => by rw [hs 16 (by omega)]; exact hA k a b, ?_, hS.of (by rw [hs 3 (by omega)]) (h117 4 (by omega)) (fun a a0 a1 => hs a (by omega)) (hs 120 (by omega)), ht, by rw [hs 3 (by omega), h117 7 (by omega)]; exact h7⟩
  unfold HS at hH ⊢
  rw [hs 30 (by omega), h117 2 (by omega), hs 119 (by omega)]
  refine ⟨hH.1, hH.2.1, hH.2.2.1, hH.2.2.2.1, hH.2.2.2.2.1, fun a a0 a1 => ?_⟩
  have hc := rwS_cases (I 30 1) a (by have := hH.1; omega)
  obtain ⟨g, w⟩ := hH.2.2.2.2.2 a a0 a1
  exact ⟨g.congr (fun b b0 b1 => hs b (by omega)) (fun _ _ _ => rfl), w⟩
theorem S_clearText (h : SIM I) : SAM mB_clearText mM_clearText [] I := by
  have hT := h.2.2.2.2.1
  refine ⟨I 110 1, xup I 110 1 0, xup (xup I 110 1 0) 117 6 0, ?_, ?_, ?_⟩
  · refine XRa.of (by decide) (Nat.le_of_ble_eq_true rfl) ?_
    repeat refine x_step rfl ?_
    exact x_iret rfl rfl rfl rfl
  · refine XRa.of (by decide) (Nat.le_of_ble_eq_true rfl) ?_
    repeat refine x_step rfl ?_
    refine x_iret rfl rfl ?_ rfl
    rw [xup_ne (by omega)]
    exact hT.2.2.1
  · refine h.tx (fun a w => by rw [xup_ne (by omega), xup_ne (by omega)]) (fun f w => by rw [xup_at, if_neg (by omega), xup_ne (by omega)]) ?_
    have e1 : xup (xup I 110 1 0) 117 6 0 110 1 = 0 := by rw [xup_ne (by omega), xup_at, if_pos rfl]
    unfold TX
    rw [e1]
    exact ⟨by omega, by omega, by rw [xup_at, if_pos rfl], fun j a b => by omega⟩
theorem S_append (h : SIM I) (x : Int) (hx : InR x) : SAM mB_append mM_append [.inl x] I := by
  obtain ⟨t0, t1, t2, t3⟩ := h.2.2.2.2.1
  by_cases hw : 32 ≤ x ∧ x ≤ 126
  · by_cases hl : I 110 1 = 80
    · refine S_err _ _ h (-3) ?_ ?_
      · have add : XR mO_addCharacter [.inr 110, .inl x] (hN I) (some (.inl 0)) (hN I) := by
          refine XRa.of (by decide) (Nat.le_of_ble_eq_true rfl) ?_
          repeat refine x_step rfl ?_
          refine x_lt rfl (by omega) (by omega) (fun w => by omega) (fun w => ?_)
          repeat refine x_step rfl ?_
          refine x_lt rfl (by omega) (by omega) (fun w => by omega) (fun w => ?_)
          repeat refine x_step rfl ?_
          exact x_zret rfl rfl rfl (Or.inl rfl) rfl
        refine XRa.of (by decide) (Nat.le_of_ble_eq_true rfl) ?_
        repeat refine x_step rfl ?_
        refine x_lt rfl (by omega) (by omega) (fun w => by omega) (fun w => ?_)
        repeat refine x_step rfl ?_
        refine x_le rfl (by omega) (by omega) (fun w => ?_) (fun w => by omega)
        repeat refine x_step rfl ?_
        refine x_call rfl add ?_
        refine x_eq rfl (by omega) (by omega) (fun w => ?_) (fun w => absurd rfl w)
        repeat refine x_step rfl ?_
        exact x_iret rfl rfl rfl rfl
      · refine XRa.of (by decide) (Nat.le_of_ble_eq_true rfl) ?_
        repeat refine x_step rfl ?_
        refine x_call rfl (c_in _ x 32 126 hx (by omega) (by omega)) ?_
        rw [if_pos hw]
        refine x_eq rfl (by omega) (by omega) (fun w => by omega) (fun w => ?_)
        repeat refine x_step rfl ?_
        refine x_eq rfl (by omega) (by omega) (fun w => ?_) (fun w => by omega)
        repeat refine x_step rfl ?_
        exact x_iret rfl rfl rfl rfl
    · have add : XR mO_addCharacter [.inr 110, .inl x] (hN I) (some (.inl 1)) (hN (xup (xup I 111 (I 110 1) x) 110 1 (I 110 1 + 1))) := by
        refine XRa.of (by decide) (Nat.le_of_ble_eq_true rfl) ?_
        repeat refine x_step rfl ?_
        refine x_lt rfl (by omega) (by omega) (fun w => by omega) (fun w => ?_)
        repeat refine x_step rfl ?_
        refine x_lt rfl (by omega) (by omega) (fun w => ?_) (fun w => by omega)
        repeat refine x_step rfl ?_
        refine x_ast (len := 79) rfl (by omega) (by omega) ?_
        repeat refine x_step rfl ?_
        exact x_zret rfl rfl rfl (Or.inr rfl) (by rw [xup_ne (by omega)])
      have e6 : xup (xup I 111 (I 110 1) x) 110 1 (I 110 1 + 1) 117 6 = I 110 1 := by rw [xup_ne (by omega), xup_ne (by omega)]; exact t2
      refine ⟨I 110 1 + 1, xup (xup I 111 (I 110 1) x) 110 1 (I 110 1 + 1), xup (xup (xup (xup I 111 (I 110 1) x) 110 1 (I 110 1 + 1)) 121 (I 110 1) x) 117 6 (I 110 1 + 1), ?_, ?_, ?_⟩
      · refine XRa.of (by decide) (Nat.le_of_ble_eq_true rfl) ?_
        repeat refine x_step rfl ?_
        refine x_lt rfl (by omega) (by omega) (fun w => by omega) (fun w => ?_)
        repeat refine x_step rfl ?_
        refine x_le rfl (by omega) (by omega) (fun w => ?_) (fun w => by omega)
        repeat refine x_step rfl ?_
        refine x_call rfl add ?_
        refine x_eq rfl (by omega) (by omega) (fun w => by omega) (fun w => ?_)
        repeat refine x_step rfl ?_
        exact x_iret rfl rfl (by rw [xup_at, if_pos rfl]) rfl
      · generalize xup (xup I 111 (I 110 1) x) 110 1 (I 110 1 + 1) = X at *
        refine XRa.of (by decide) (Nat.le_of_ble_eq_true rfl) ?_
        repeat refine x_step rfl ?_
        refine x_call rfl (c_in _ x 32 126 hx (by omega) (by omega)) ?_
        rw [if_pos hw]
        refine x_eq rfl (by omega) (by omega) (fun w => by omega) (fun w => ?_)
        repeat refine x_step rfl ?_
        rw [e6]
        refine x_eq rfl (by omega) (by omega) (fun w => by omega) (fun w => ?_)
        repeat refine x_step rfl ?_
        rw [e6]
        refine x_ast (len := 79) rfl (by omega) (by omega) ?_
        have e7 : xup X 121 (I 110 1) x 117 6 = I 110 1 := by rw [xup_ne (by omega), e6]
        repeat refine x_step rfl ?_
        refine x_iret rfl rfl ?_ ?_
        · rw [xup_at, if_pos rfl, e7]
        · rw [e7]
      · refine h.tx (fun a w => by rw [xup_ne (by omega), xup_ne (by omega), xup_ne (by omega), xup_ne (by omega)]) (fun f w => by rw [xup_at, if_neg (by omega), xup_ne (by omega), xup_ne (by omega), xup_ne (by omega)]) ?_
        have q1 : xup (xup (xup (xup I 111 (I 110 1) x) 110 1 (I 110 1 + 1)) 121 (I 110 1) x) 117 6 (I 110 1 + 1) 110 1 = I 110 1 + 1 := by rw [xup_ne (by omega), xup_ne (by omega), xup_at, if_pos rfl]
        have q2 : ∀ j, xup (xup (xup (xup I 111 (I 110 1) x) 110 1 (I 110 1 + 1)) 121 (I 110 1) x) 117 6 (I 110 1 + 1) 111 j = if j = I 110 1 then x else I 111 j := fun j => by rw [xup_ne (by omega), xup_ne (by omega), xup_ne (by omega), xup_at]
        have q3 : ∀ j, xup (xup (xup (xup I 111 (I 110 1) x) 110 1 (I 110 1 + 1)) 121 (I 110 1) x) 117 6 (I 110 1 + 1) 121 j = if j = I 110 1 then x else I 121 j := fun j => by rw [xup_ne (by omega), xup_at, xup_ne (show (121 : Nat) ≠ 110 by omega), xup_ne (show (121 : Nat) ≠ 111 by omega)]
        unfold TX
        rw [q1]
        refine ⟨by omega, by omega, by rw [xup_at, if_pos rfl], fun j a b => ?_⟩
        rw [q2, q3]
        by_cases ej : j = I 110 1
        · rw [if_pos ej, if_pos ej]
          exact ⟨rfl, hw⟩
        · rw [if_neg ej, if_neg ej]
          exact t3 j a (by omega)
  · refine S_err _ _ h (-2) ?_ ?_
    · refine XRa.of (by decide) (Nat.le_of_ble_eq_true rfl) ?_
      repeat refine x_step rfl ?_
      refine x_lt rfl (by omega) (by omega) (fun w => ?_) (fun w => ?_)
      · repeat refine x_step rfl ?_
        exact x_iret rfl rfl rfl rfl
      · repeat refine x_step rfl ?_
        refine x_le rfl (by omega) (by omega) (fun w => by omega) (fun w => ?_)
        repeat refine x_step rfl ?_
        exact x_iret rfl rfl rfl rfl
    · refine XRa.of (by decide) (Nat.le_of_ble_eq_true rfl) ?_
      repeat refine x_step rfl ?_
      refine x_call rfl (c_in _ x 32 126 hx (by omega) (by omega)) ?_
      rw [if_neg hw]
      refine x_eq rfl (by omega) (by omega) (fun w => ?_) (fun w => absurd rfl w)
      repeat refine x_step rfl ?_
      exact x_iret rfl rfl rfl rfl
end TEXT
