/-! the list of words -/
/-- the first place of a code from k on, among n; -1 if there is none -/
def fiS (f : Int → Int) (code : Int) : Nat → Int → Int
  | 0, _ => -1
  | n + 1, k => if f k = code then k else fiS f code n (k + 1)
/-- the last place of a code among the first n, else -5 -/
def laS (f : Int → Int) (code : Int) : Nat → Int
  | 0 => -5
  | n + 1 => if f n = code then (n : Int) else laS f code n
theorem fiS_spec (f : Int → Int) (code : Int) : ∀ (n : Nat) (k : Int), (fiS f code n k = -1 ∧ ∀ i, k ≤ i → i < k + n → f i ≠ code) ∨ (k ≤ fiS f code n k ∧ fiS f code n k < k + n ∧ f (fiS f code n k) = code) := by
  intro n
  induction n with
  | zero => intro k; exact Or.inl ⟨rfl, fun i h1 h2 => by omega⟩
  | succ n ih =>
    intro k
    unfold fiS
    by_cases h : f k = code
    · rw [if_pos h]
      exact Or.inr ⟨by omega, by omega, h⟩
    · rw [if_neg h]
      rcases ih (k + 1) with ⟨h1, h2⟩ | ⟨h1, h2, h3⟩
      · refine Or.inl ⟨h1, fun i h3 h4 => ?_⟩
        by_cases hi : i = k
        · rw [hi]; exact h
        · exact h2 i (by omega) (by omega)
      · exact Or.inr ⟨by omega, by omega, h3⟩
theorem laS_spec (f : Int → Int) (code : Int) : ∀ (n : Nat), (laS f code n = -5 ∧ ∀ i, 0 ≤ i → i < (n : Int) → f i ≠ code) ∨ (0 ≤ laS f code n ∧ laS f code n < n ∧ f (laS f code n) = code) := by
  intro n
  induction n with
  | zero => exact Or.inl ⟨rfl, fun i h1 h2 => by omega⟩
  | succ n ih =>
    unfold laS
    by_cases h : f n = code
    · rw [if_pos h]
      exact Or.inr ⟨by omega, by omega, h⟩
    · rw [if_neg h]
      rcases ih with ⟨h1, h2⟩ | ⟨h1, h2, h3⟩
      · refine Or.inl ⟨h1, fun i h3 h4 => ?_⟩
        by_cases hi : i = n
        · rw [hi]; exact h
        · exact h2 i (by omega) (by omega)
      · exact Or.inr ⟨by omega, by omega, h3⟩
/-- the words of the class: 5, its codes 6 -/
abbrev wdR (I : Nat → Int → Int) : Prop := 0 ≤ I 5 1 ∧ I 5 1 ≤ 20 ∧ ∀ k : Int, 0 ≤ k → k < I 5 1 → InR (I 6 k)
theorem cW_numberOf (I : Nat → Int → Int) (hw : wdR I) (code : Int) (hc : InR code) : XR mW_numberOf [.inr 5, .inl code] (hN I) (some (.inl (fiS (I 6) code (I 5 1).toNat 0))) (hN I) := by
  refine XRa.of (by decide) (Nat.le_of_ble_eq_true rfl) ?_
  obtain ⟨hm, hm2, hr⟩ := hw
  have loop : ∀ (n : Nat) (k w : Int), k + n = I 5 1 → 0 ≤ k → w = fiS (I 6) code n k → XE mW_numberOf (some (.inl w)) (hN I) 7 [(2, .inl k), (1, .inl code), (0, .inr 5)] [.inl (I 5 1), .inl k] (hN I) := by
    intro n
    induction n with
    | zero =>
      intro k w hk hk2 hw
      refine x_le rfl (by omega) (by omega) (fun h1 => ?_) (fun h1 => absurd (by omega) h1)
      repeat refine x_step rfl ?_
      exact x_iret rfl rfl hw.symm rfl
    | succ n ih =>
      intro k w hk hk2 hw
      unfold fiS at hw
      refine x_le rfl (by omega) (by omega) (fun h1 => absurd h1 (by omega)) (fun h1 => ?_)
      repeat refine x_step rfl ?_
      refine x_le rfl (by omega) (by omega) (fun h2 => absurd h2 (by omega)) (fun h2 => ?_)
      repeat refine x_step rfl ?_
      refine x_ald (len := 19) rfl (by omega) (by omega) ?_
      repeat refine x_step rfl ?_
      refine x_eq rfl (hr k (by omega) (by omega)) hc (fun he => ?_) (fun he => ?_)
      · rw [if_pos he] at hw
        repeat refine x_step rfl ?_
        exact x_iret rfl rfl hw.symm rfl
      · rw [if_neg he] at hw
        repeat refine x_step rfl ?_
        exact x_loc (by exact ⟨rfl, rfl, rfl, trivial⟩) (ih (k + 1) w (by omega) (by omega) hw)
  repeat refine x_step rfl ?_
  exact x_loc (by exact ⟨rfl, rfl, rfl, trivial⟩) (loop (I 5 1).toNat 0 _ (by omega) (by omega) rfl)
theorem cW_codeOf (I : Nat → Int → Int) (k : Int) (h0 : 0 ≤ k) (h1 : k < 20) : XR mW_codeOf [.inr 5, .inl k] (hN I) (some (.inl (I 6 k))) (hN I) := by
  refine XRa.of (by decide) (Nat.le_of_ble_eq_true rfl) ?_
  repeat refine x_step rfl ?_
  refine x_lt rfl (by omega) (by omega) (fun h1 => absurd h1 (by omega)) (fun h1 => ?_)
  repeat refine x_step rfl ?_
  refine x_le rfl (by omega) (by omega) (fun h2 => absurd h2 (by omega)) (fun h2 => ?_)
  repeat refine x_step rfl ?_
  refine x_ald (len := 19) rfl (by omega) (by omega) ?_
  repeat refine x_step rfl ?_
  exact x_iret rfl rfl rfl rfl
theorem cW_add (I : Nat → Int → Int) (hm : 0 ≤ I 5 1) (hm2 : I 5 1 ≤ 20) (code : Int) : XR mW_add [.inr 5, .inl code] (hN I) (some (.inl (if I 5 1 = 20 then 0 else 1))) (hN (if I 5 1 = 20 then I else xup (xup I 6 (I 5 1) code) 5 1 (I 5 1 + 1))) := by
  refine XRa.of (by decide) (Nat.le_of_ble_eq_true rfl) ?_
  repeat refine x_step rfl ?_
  refine x_lt rfl (by omega) (by omega) (fun h1 => absurd h1 (by omega)) (fun h1 => ?_)
  repeat refine x_step rfl ?_
  refine x_lt rfl (by omega) (by omega) (fun h2 => ?_) (fun h2 => ?_)
  · repeat refine x_step rfl ?_
    refine x_ast (len := 19) rfl (by omega) (by omega) ?_
    repeat refine x_step rfl ?_
    exact x_zret rfl rfl (by rw [if_neg (by omega)]) (Or.inr rfl) (by rw [if_neg (by omega)]; rfl)
  · repeat refine x_step rfl ?_
    exact x_zret rfl rfl (by rw [if_pos (by omega)]) (Or.inl rfl) (by rw [if_pos (by omega)])
theorem xup_xset {I : Nat → Int → Int} {o : Nat} {g : Int → Int} {i v : Int} : xup (xset I o g) o i v = xset I o (fun j => if j = i then v else g j) := by
  funext a j
  unfold xup xset
  by_cases h : a = o
  · simp [h]
  · simp [h]
theorem xset_self {I : Nat → Int → Int} {o : Nat} : xset I o (I o) = I := by
  funext a j
  unfold xset
  by_cases h : a = o
  · rw [if_pos h, h]
  · rw [if_neg h]
theorem xset_congr {I : Nat → Int → Int} {o : Nat} {f g : Int → Int} (h : ∀ j, f j = g j) : xset I o f = xset I o g := by rw [show f = g from funext h]
theorem xset_xset {I : Nat → Int → Int} {o : Nat} {f g : Int → Int} : xset (xset I o f) o g = xset I o g := by
  funext a j
  unfold xset
  by_cases h : a = o
  · simp [h]
  · simp [h]
/-- codes moved down -/
def rmS (f : Int → Int) (k i : Int) : Int → Int := fun j => if k ≤ j ∧ j < i then f (j + 1) else f j
theorem cW_remove (I : Nat → Int → Int) (hm : 0 ≤ I 5 1) (hm2 : I 5 1 ≤ 20) (k : Int) (h0 : 0 ≤ k) (h1 : k < I 5 1) : XR mW_remove [.inr 5, .inl k] (hN I) none (hN (xup (xset I 6 (rmS (I 6) k (I 5 1 - 1))) 5 1 (I 5 1 - 1))) := by
  refine XRa.of (by decide) (Nat.le_of_ble_eq_true rfl) ?_
  have loop : ∀ (n : Nat) (i : Int), i + n + 1 = I 5 1 → k ≤ i → XE mW_remove none (hN (xup (xset I 6 (rmS (I 6) k (I 5 1 - 1))) 5 1 (I 5 1 - 1))) 22 [(2, .inl i), (1, .inl k), (0, .inr 5)] [.inl (I 5 1), .inl (i + 1)] (hN (xset I 6 (rmS (I 6) k i))) := by
    intro n
    induction n with
    | zero =>
      intro i hi hk
      refine x_le rfl (by omega) (by omega) (fun h1 => ?_) (fun h1 => absurd (by omega) h1)
      repeat refine x_step rfl ?_
      refine x_vret rfl rfl ?_
      rw [show i = I 5 1 - 1 by omega]
      rfl
    | succ n ih =>
      intro i hi hk
      refine x_le rfl (by omega) (by omega) (fun h1 => absurd h1 (by omega)) (fun h1 => ?_)
      repeat refine x_step rfl ?_
      refine x_le rfl (by omega) (by omega) (fun h2 => absurd h2 (by omega)) (fun h2 => ?_)
      repeat refine x_step rfl ?_
      refine x_ald (len := 19) rfl (by omega) (by omega) ?_
      refine x_ast (len := 19) rfl (by omega) (by omega) ?_
      have e : xup (xset I 6 (rmS (I 6) k i)) 6 i (xset I 6 (rmS (I 6) k i) 6 (i + 1)) = xset I 6 (rmS (I 6) k (i + 1)) := by
        rw [xup_xset, xset_at]
        refine xset_congr (fun j => ?_)
        unfold rmS
        by_cases hj : j = i
        · rw [if_pos hj, if_neg (by omega), if_pos (by omega), hj]
        · rw [if_neg hj]
          by_cases hj2 : k ≤ j ∧ j < i
          · rw [if_pos hj2, if_pos (by omega)]
          · rw [if_neg hj2, if_neg (by omega)]
      rw [e]
      repeat refine x_step rfl ?_
      exact x_loc (by exact ⟨rfl, rfl, rfl, trivial⟩) (ih (i + 1) (by omega) (by omega))
  repeat refine x_step rfl ?_
  refine x_lt rfl (by omega) (by omega) (fun h1 => absurd h1 (by omega)) (fun h1 => ?_)
  repeat refine x_step rfl ?_
  refine x_lt rfl (by omega) (by omega) (fun h2 => ?_) (fun h2 => absurd (by omega) h2)
  repeat refine x_step rfl ?_
  refine x_to rfl rfl ?_ (x_loc (by exact ⟨rfl, rfl, rfl, trivial⟩) (loop (I 5 1 - k - 1).toNat k (by omega) (by omega)))
  have e : xset I 6 (rmS (I 6) k k) = I := by
    rw [xset_congr (g := I 6) (fun j => by unfold rmS; rw [if_neg (by omega)]), xset_self]
  rw [e]
