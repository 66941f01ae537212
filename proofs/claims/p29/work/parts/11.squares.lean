/-! the squares and the letters' values -/
def zwsS (q : Int) : Int := if (if 0 ≤ q / 9 - 4 then q / 9 - 4 else 0 - (q / 9 - 4)) = (if 0 ≤ q % 9 - 4 then q % 9 - 4 else 0 - (q % 9 - 4)) ∧ 0 < (if 0 ≤ q / 9 - 4 then q / 9 - 4 else 0 - (q / 9 - 4)) then 1 else 0
def zlsS (q : Int) : Int := if (if 0 ≤ q / 9 - 4 then q / 9 - 4 else 0 - (q / 9 - 4)) + (if 0 ≤ q % 9 - 4 then q % 9 - 4 else 0 - (q % 9 - 4)) = 4 ∧ (if 0 ≤ q / 9 - 4 then q / 9 - 4 else 0 - (q / 9 - 4)) ≠ 2 then 1 else 0
def vlS (x : Int) : Int := if 1 ≤ x ∧ x ≤ 8 then xVALS x.toNat else 0
def tvS (q x : Int) : Int := vlS x * (if zlsS q = 1 then 3 else 1)
def tfS (q : Int) : Int := if zwsS q = 1 then 2 else 1
theorem zwsS01 (q : Int) : zwsS q = 0 ∨ zwsS q = 1 := if01
theorem zlsS01 (q : Int) : zlsS q = 0 ∨ zlsS q = 1 := if01
theorem xVALS_le : ∀ j, j < 9 → 0 ≤ xVALS j ∧ xVALS j ≤ 4 := by decide +kernel
theorem vlS_le (x : Int) : 0 ≤ vlS x ∧ vlS x ≤ 4 := by
  unfold vlS
  split
  · exact xVALS_le _ (by omega)
  · omega
theorem cB_isWordSquare (h : XH) (q : Int) (h0 : 0 ≤ q) (h1 : q ≤ 80) : XR mB_isWordSquare [.inl q] h (some (.inl (zwsS q))) h := by
  refine XRa.of (by decide) (Nat.le_of_ble_eq_true rfl) ?_
  obtain ⟨n, r, I⟩ := h
  repeat refine x_step rfl ?_
  refine x_div rfl (by omega) (by omega) (by omega) (by omega) ?_
  repeat refine x_step rfl ?_
  refine x_abs rfl (by decide) (by decide) (by decide) (by decide) (by omega) ?_
  repeat refine x_step rfl ?_
  refine x_rem rfl (by omega) (by omega) (by omega) (by omega) ?_
  repeat refine x_step rfl ?_
  refine x_abs rfl (by decide) (by decide) (by decide) (by decide) (by omega) ?_
  repeat refine x_step rfl ?_
  refine x_eq rfl (by omega) (by omega) (fun hc => ?_) (fun hc => ?_)
  · repeat refine x_step rfl ?_
    refine x_le rfl (by omega) (by omega) (fun hd => ?_) (fun hd => ?_)
    · repeat refine x_step rfl ?_
      exact x_zret rfl rfl (by unfold zwsS; rw [if_neg]; intro w; exact absurd w.2 (by omega)) (Or.inl rfl) rfl
    · repeat refine x_step rfl ?_
      exact x_zret rfl rfl (by unfold zwsS; rw [if_pos]; exact ⟨hc, by omega⟩) (Or.inr rfl) rfl
  · repeat refine x_step rfl ?_
    exact x_zret rfl rfl (by unfold zwsS; rw [if_neg]; intro w; exact hc w.1) (Or.inl rfl) rfl
theorem cB_isLetterSquare (h : XH) (q : Int) (h0 : 0 ≤ q) (h1 : q ≤ 80) : XR mB_isLetterSquare [.inl q] h (some (.inl (zlsS q))) h := by
  refine XRa.of (by decide) (Nat.le_of_ble_eq_true rfl) ?_
  obtain ⟨n, r, I⟩ := h
  repeat refine x_step rfl ?_
  refine x_div rfl (by omega) (by omega) (by omega) (by omega) ?_
  repeat refine x_step rfl ?_
  refine x_abs rfl (by decide) (by decide) (by decide) (by decide) (by omega) ?_
  repeat refine x_step rfl ?_
  refine x_rem rfl (by omega) (by omega) (by omega) (by omega) ?_
  repeat refine x_step rfl ?_
  refine x_abs rfl (by decide) (by decide) (by decide) (by decide) (by omega) ?_
  repeat refine x_step rfl ?_
  refine x_eq rfl (by omega) (by omega) (fun hc => ?_) (fun hc => ?_)
  · repeat refine x_step rfl ?_
    refine x_eq rfl (by omega) (by omega) (fun hd => ?_) (fun hd => ?_)
    · repeat refine x_step rfl ?_
      exact x_zret rfl rfl (by unfold zlsS; rw [if_neg]; intro w; exact w.2 hd) (Or.inl rfl) rfl
    · repeat refine x_step rfl ?_
      exact x_zret rfl rfl (by unfold zlsS; rw [if_pos]; exact ⟨hc, hd⟩) (Or.inr rfl) rfl
  · repeat refine x_step rfl ?_
    exact x_zret rfl rfl (by unfold zlsS; rw [if_neg]; intro w; exact hc w.1) (Or.inl rfl) rfl
theorem cB_valueOf (h : XH) (x : Int) (hx : InR x) : XR mB_valueOf [.inl x] h (some (.inl (vlS x))) h := by
  refine XRa.of (by decide) (Nat.le_of_ble_eq_true rfl) ?_
  obtain ⟨n, r, I⟩ := h
  repeat refine x_step rfl ?_
  refine x_lt rfl (by omega) (by omega) (fun hc => ?_) (fun hc => ?_)
  · repeat refine x_step rfl ?_
    exact x_iret rfl rfl (by unfold vlS; rw [if_neg (by omega)]) rfl
  · repeat refine x_step rfl ?_
    refine x_lt rfl (by omega) (by omega) (fun hd => ?_) (fun hd => ?_)
    · repeat refine x_step rfl ?_
      exact x_iret rfl rfl (by unfold vlS; rw [if_neg (by omega)]) rfl
    · repeat refine x_step rfl ?_
      refine x_getsV rfl (by decide +kernel) ?_
      repeat refine x_step rfl ?_
      refine x_aldV rfl (by omega) (by omega) ?_
      repeat refine x_step rfl ?_
      exact x_iret rfl rfl (by unfold vlS; rw [if_pos (by omega)]) rfl
theorem cB_newTileValue (h : XH) (q x : Int) (h0 : 0 ≤ q) (h1 : q ≤ 80) (hx : InR x) : XR mB_newTileValue [.inl q, .inl x] h (some (.inl (tvS q x))) h := by
  refine XRa.of (by decide) (Nat.le_of_ble_eq_true rfl) ?_
  obtain ⟨n, r, I⟩ := h
  repeat refine x_step rfl ?_
  refine x_call rfl (cB_valueOf _ x hx) ?_
  repeat refine x_step rfl ?_
  refine x_call rfl (cB_isLetterSquare _ q h0 h1) ?_
  have h2 := zlsS01 q
  refine x_eq rfl (by omega) (by omega) (fun hd => ?_) (fun hd => ?_)
  · repeat refine x_step rfl ?_
    exact x_iret rfl rfl (by unfold tvS; rw [if_neg (by omega)]) rfl
  · repeat refine x_step rfl ?_
    exact x_iret rfl rfl (by unfold tvS; rw [if_pos (by omega)]) rfl
theorem cB_newTileFactor (h : XH) (q : Int) (h0 : 0 ≤ q) (h1 : q ≤ 80) : XR mB_newTileFactor [.inl q] h (some (.inl (tfS q))) h := by
  refine XRa.of (by decide) (Nat.le_of_ble_eq_true rfl) ?_
  obtain ⟨n, r, I⟩ := h
  repeat refine x_step rfl ?_
  refine x_call rfl (cB_isWordSquare _ q h0 h1) ?_
  have h2 := zwsS01 q
  refine x_eq rfl (by omega) (by omega) (fun hd => ?_) (fun hd => ?_)
  · repeat refine x_step rfl ?_
    exact x_iret rfl rfl (by unfold tfS; rw [if_neg (by omega)]) rfl
  · repeat refine x_step rfl ?_
    exact x_iret rfl rfl (by unfold tfS; rw [if_pos (by omega)]) rfl
