/-! words' codes, and squares -/
abbrev hN (I : Nat → Int → Int) : XH := (117, xRf, I)
theorem xsi {a b : Int} (h : a = b) : (some (.inl a) : Option XV) = some (.inl b) := by rw [h]
def p9 : Nat → Int
  | 0 => 1
  | n + 1 => 9 * p9 n
/-- all digits (base 9) are above 0 -/
def dz : Nat → Int → Bool
  | 0, _ => true
  | n + 1, r => if r ≤ 0 then true else (decide (0 < r % 9) && dz n (r / 9))
/-- how many digits -/
def dn : Nat → Int → Int
  | 0, _ => 0
  | n + 1, r => if r ≤ 0 then 0 else dn n (r / 9) + 1
theorem dn_nonneg : ∀ (n : Nat) (r : Int), 0 ≤ dn n r := by
  intro n
  induction n with
  | zero => intro r; exact Int.le_refl 0
  | succ n ih =>
    intro r
    unfold dn
    split
    · omega
    · have := ih (r / 9); omega
theorem dn_le : ∀ (n : Nat) (r : Int), dn n r ≤ n := by
  intro n
  induction n with
  | zero => intro r; exact Int.le_refl 0
  | succ n ih =>
    intro r
    unfold dn
    split
    · omega
    · have := ih (r / 9); omega
theorem dn_zero (n : Nat) {r : Int} (h : r ≤ 0) : dn n r = 0 := by
  cases n with
  | zero => rfl
  | succ n => unfold dn; rw [if_pos h]
theorem dz_zero (n : Nat) {r : Int} (h : r ≤ 0) : dz n r = true := by
  cases n with
  | zero => rfl
  | succ n => unfold dz; rw [if_pos h]
/-- the number of letters of the word with this code; 0 if it is no code -/
def lnS (c : Int) : Int := if 0 ≤ c ∧ dz 11 c = true ∧ 2 ≤ dn 11 c ∧ dn 11 c ≤ 7 then dn 11 c else 0
theorem lnS_le (c : Int) : 0 ≤ lnS c ∧ lnS c ≤ 7 := by
  unfold lnS
  split
  · omega
  · omega
theorem cB_lengthOf (h : XH) (code : Int) (hc : InR code) : XR mB_lengthOf [.inl code] h (some (.inl (lnS code))) h := by
  refine XRa.of (by decide) (Nat.le_of_ble_eq_true rfl) ?_
  obtain ⟨n, r, I⟩ := h
  repeat refine x_step rfl ?_
  have fin : ∀ (rest len w : Int), InR rest → InR len → w = (if rest = 0 ∧ 2 ≤ len then len else 0) → XE mB_lengthOf (some (.inl w)) (n, r, I) 33 [(2, .inl rest), (1, .inl len), (0, .inl code)] [.inl rest] (n, r, I) := by
    intro rest len w h1 h2 hw
    refine x_eq rfl h1 (by omega) (fun hz => ?_) (fun hz => ?_)
    · repeat refine x_step rfl ?_
      refine x_lt rfl h2 (by omega) (fun hl => ?_) (fun hl => ?_)
      · repeat refine x_step rfl ?_
        exact x_iret rfl rfl (by rw [hw, if_neg (by omega)]) rfl
      · repeat refine x_step rfl ?_
        exact x_iret rfl rfl (by rw [hw, if_pos (by omega)]) rfl
    · repeat refine x_step rfl ?_
      exact x_iret rfl rfl (by rw [hw, if_neg (by omega)]) rfl
  have loop : ∀ (F : Nat) (rest len w : Int), rest < p9 F → InR rest → 0 ≤ len → len ≤ 7 → w = (if 0 ≤ rest ∧ dz F rest = true ∧ 2 ≤ len + dn F rest ∧ len + dn F rest ≤ 7 then len + dn F rest else 0) → XE mB_lengthOf (some (.inl w)) (n, r, I) 7 [(2, .inl rest), (1, .inl len), (0, .inl code)] [.inl 7, .inl len] (n, r, I) := by
    intro F
    induction F with
    | zero =>
      intro rest len w hp hr h1 h2 hw
      have hp : rest < 1 := hp
      rw [dn_zero 0 (by omega), dz_zero 0 (by omega)] at hw
      simp only [eq_self, true_and] at hw
      refine x_le rfl (by omega) (by omega) (fun hl => ?_) (fun hl => ?_)
      · repeat refine x_step rfl ?_
        refine fin _ _ _ hr (by omega) ?_
        rw [hw]
        split <;> split <;> omega
      · repeat refine x_step rfl ?_
        refine x_le rfl hr (by omega) (fun hz => ?_) (fun hz => absurd hz (by omega))
        repeat refine x_step rfl ?_
        refine fin _ _ _ hr (by omega) ?_
        rw [hw]
        split <;> split <;> omega
    | succ F ih =>
      intro rest len w hp hr h1 h2 hw
      have hp : rest < 9 * p9 F := hp
      have hn := dn_nonneg F (rest / 9)
      refine x_le rfl (by omega) (by omega) (fun hl => ?_) (fun hl => ?_)
      · repeat refine x_step rfl ?_
        refine fin _ _ _ hr (by omega) ?_
        by_cases hz : rest ≤ 0
        · rw [dn_zero _ hz, dz_zero _ hz] at hw
          simp only [eq_self, true_and] at hw
          rw [hw]
          split <;> split <;> omega
        · unfold dn at hw
          rw [if_neg hz] at hw
          rw [hw, if_neg (by omega), if_neg (by omega)]
      · repeat refine x_step rfl ?_
        refine x_le rfl hr (by omega) (fun hz => ?_) (fun hz => ?_)
        · repeat refine x_step rfl ?_
          refine fin _ _ _ hr (by omega) ?_
          rw [dn_zero _ hz, dz_zero _ hz] at hw
          simp only [eq_self, true_and] at hw
          rw [hw]
          split <;> split <;> omega
        · unfold dn dz at hw
          rw [if_neg hz, if_neg hz] at hw
          repeat refine x_step rfl ?_
          refine x_rem rfl (by omega) (by omega) (by omega) (by omega) ?_
          refine x_eq rfl (by omega) (by omega) (fun hq => ?_) (fun hq => ?_)
          · repeat refine x_step rfl ?_
            refine fin _ _ _ hr (by omega) ?_
            rw [hw, decide_eq_false (by omega), if_neg (by simp), if_neg (by omega)]
          · repeat refine x_step rfl ?_
            refine x_div rfl (by omega) (by omega) (by omega) (by omega) ?_
            repeat refine x_step rfl ?_
            refine x_loc (by exact ⟨rfl, rfl, rfl, trivial⟩) (ih (rest / 9) (len + 1) w (by omega) (by omega) (by omega) (by omega) ?_)
            rw [hw, decide_eq_true (show 0 < rest % 9 by omega), Bool.true_and]
            have e : len + (dn F (rest / 9) + 1) = len + 1 + dn F (rest / 9) := by omega
            rw [e]
            by_cases hb : 0 ≤ rest ∧ dz F (rest / 9) = true ∧ 2 ≤ len + 1 + dn F (rest / 9) ∧ len + 1 + dn F (rest / 9) ≤ 7
            · rw [if_pos hb, if_pos ⟨by omega, hb.2⟩]
            · rw [if_neg hb, if_neg (fun q => hb ⟨by omega, q.2⟩)]
  exact x_loc (by exact ⟨rfl, rfl, rfl, trivial⟩) (loop 11 code 0 _ (by simp only [p9]; omega) hc (by omega) (by omega) (by simp only [lnS, Int.zero_add]))
theorem if01 {c : Prop} [Decidable c] : (if c then (1 : Int) else 0) = 0 ∨ (if c then (1 : Int) else 0) = 1 := by split <;> simp
theorem cB_isSquare (h : XH) (v : Int) (h1 : InR v) : XR mB_isSquare [.inl v] h (some (.inl (if 0 ≤ v ∧ v ≤ 80 then 1 else 0))) h := by
  refine XRa.of (by decide) (Nat.le_of_ble_eq_true rfl) ?_
  obtain ⟨n, r, I⟩ := h
  repeat refine x_step rfl ?_
  refine x_lt rfl h1 (by omega) (fun hc => ?_) (fun hc => ?_)
  · repeat refine x_step rfl ?_
    exact x_zret rfl rfl (by rw [if_neg (by omega)]) (Or.inl rfl) rfl
  · repeat refine x_step rfl ?_
    refine x_le rfl (by omega) h1 (fun hc => ?_) (fun hc => ?_)
    · repeat refine x_step rfl ?_
      exact x_zret rfl rfl (by rw [if_neg (by omega)]) (Or.inl rfl) rfl
    · repeat refine x_step rfl ?_
      exact x_zret rfl rfl (by rw [if_pos (by omega)]) (Or.inr rfl) rfl
theorem cB_errorOf (h : XH) (code sq : Int) (hc : InR code) (hs : InR sq) : XR mB_errorOf [.inl code, .inl sq] h (some (.inl (if lnS code = 0 then -2 else if 0 ≤ sq ∧ sq ≤ 80 then 0 else -1))) h := by
  refine XRa.of (by decide) (Nat.le_of_ble_eq_true rfl) ?_
  obtain ⟨n, r, I⟩ := h
  have hl := lnS_le code
  repeat refine x_step rfl ?_
  refine x_call rfl (cB_lengthOf _ code hc) ?_
  refine x_eq rfl (by omega) (by omega) (fun hq => ?_) (fun hq => ?_)
  · repeat refine x_step rfl ?_
    exact x_iret rfl rfl (by rw [if_pos hq]) rfl
  · repeat refine x_step rfl ?_
    refine x_call rfl (cB_isSquare _ sq hs) ?_
    rw [if_neg hq]
    by_cases hb : 0 ≤ sq ∧ sq ≤ 80
    · rw [if_pos hb, if_pos hb]
      refine x_eq rfl (by omega) (by omega) (fun hq => absurd hq (by omega)) (fun hq => ?_)
      repeat refine x_step rfl ?_
      exact x_iret rfl rfl rfl rfl
    · rw [if_neg hb, if_neg hb]
      refine x_eq rfl (by omega) (by omega) (fun hq => ?_) (fun hq => absurd rfl hq)
      repeat refine x_step rfl ?_
      exact x_iret rfl rfl rfl rfl
