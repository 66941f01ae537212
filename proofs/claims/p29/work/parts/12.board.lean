/-! the board: 7 the class's, its letters 8 -/
/-- the sum of f 0, f 1 .. f (n - 1) -/
def xsm (f : Int → Int) : Nat → Int
  | 0 => 0
  | n + 1 => xsm f n + f n
abbrev bdR (b : Int → Int) : Prop := ∀ j : Int, 0 ≤ j → j ≤ 80 → 0 ≤ b j ∧ b j ≤ 8
/-- the letter k steps from a square, in a direction -/
def lfS (b : Int → Int) (q d k : Int) : Int := if 0 ≤ q / 9 + (if d = 0 then 0 else k) ∧ q / 9 + (if d = 0 then 0 else k) < 9 ∧ 0 ≤ q % 9 + (if d = 0 then k else 0) ∧ q % 9 + (if d = 0 then k else 0) < 9 then b (9 * (q / 9 + (if d = 0 then 0 else k)) + (q % 9 + (if d = 0 then k else 0))) else 0
theorem lfS_R {b : Int → Int} (hb : bdR b) (q d k : Int) : 0 ≤ lfS b q d k ∧ lfS b q d k ≤ 8 := by
  unfold lfS
  generalize q / 9 + (if d = 0 then 0 else k) = r
  generalize q % 9 + (if d = 0 then k else 0) = c
  by_cases h : 0 ≤ r ∧ r < 9 ∧ 0 ≤ c ∧ c < 9
  · rw [if_pos h]
    exact hb (9 * r + c) (by omega) (by omega)
  · rw [if_neg h]
    omega
def toS (b : Int → Int) : Int := xsm (fun j => if b j = 0 then 0 else 1) 81
theorem xsm_01 (f : Int → Int) (hf : ∀ j : Int, f j = 0 ∨ f j = 1) : ∀ n : Nat, 0 ≤ xsm f n ∧ xsm f n ≤ n := by
  intro n
  induction n with
  | zero => exact ⟨Int.le_refl 0, Int.le_refl 0⟩
  | succ n ih =>
    have := hf n
    unfold xsm
    omega
theorem toS_R (b : Int → Int) : 0 ≤ toS b ∧ toS b ≤ 81 := xsm_01 _ (fun j => by show (if b j = 0 then (0 : Int) else 1) = 0 ∨ (if b j = 0 then (0 : Int) else 1) = 1; split <;> simp) 81
def anS (b : Int → Int) (q : Int) : Int := if b q = 0 ∧ (lfS b q 0 (-1) ≠ 0 ∨ lfS b q 0 1 ≠ 0 ∨ lfS b q 1 (-1) ≠ 0 ∨ lfS b q 1 1 ≠ 0 ∨ (q = 40 ∧ toS b = 0)) then 1 else 0
theorem cS_letterOn (I : Nat → Int → Int) (q : Int) (h0 : 0 ≤ q) (h1 : q ≤ 80) : XR mS_letterOn [.inr 7, .inl q] (hN I) (some (.inl (I 8 q))) (hN I) := by
  refine XRa.of (by decide) (Nat.le_of_ble_eq_true rfl) ?_
  repeat refine x_step rfl ?_
  refine x_call rfl (cB_isSquare _ q (by omega)) ?_
  rw [if_pos (by omega)]
  refine x_eq rfl (by omega) (by omega) (fun hc => absurd hc (by omega)) (fun hc => ?_)
  repeat refine x_step rfl ?_
  refine x_ald (len := 80) rfl (by omega) (by omega) ?_
  repeat refine x_step rfl ?_
  exact x_iret rfl rfl rfl rfl
theorem cS_put (I : Nat → Int → Int) (q x : Int) (h0 : 0 ≤ q) (h1 : q ≤ 80) : XR mS_put [.inr 7, .inl q, .inl x] (hN I) none (hN (xup I 8 q x)) := by
  refine XRa.of (by decide) (Nat.le_of_ble_eq_true rfl) ?_
  repeat refine x_step rfl ?_
  refine x_call rfl (cB_isSquare _ q (by omega)) ?_
  rw [if_pos (by omega)]
  refine x_eq rfl (by omega) (by omega) (fun hc => absurd hc (by omega)) (fun hc => ?_)
  repeat refine x_step rfl ?_
  refine x_ast (len := 80) rfl (by omega) (by omega) ?_
  repeat refine x_step rfl ?_
  exact x_vret rfl rfl rfl
theorem cS_letterFrom (I : Nat → Int → Int) (q d k : Int) (h0 : 0 ≤ q) (h1 : q ≤ 80) (hd : d = 0 ∨ d = 1) (hk : -20 ≤ k ∧ k ≤ 20) : XR mS_letterFrom [.inr 7, .inl q, .inl d, .inl k] (hN I) (some (.inl (lfS (I 8) q d k))) (hN I) := by
  refine XRa.of (by decide) (Nat.le_of_ble_eq_true rfl) ?_
  have J : ∀ (r c w : Int), InR r → InR c → w = (if 0 ≤ r ∧ r < 9 ∧ 0 ≤ c ∧ c < 9 then I 8 (9 * r + c) else 0) → XE mS_letterFrom (some (.inl w)) (hN I) 34 [(4, .inl r), (5, .inl c), (0, .inr 7)] [.inl r] (hN I) := by
    intro r c w hr hc hw
    refine x_lt rfl hr (by omega) (fun a1 => ?_) (fun a1 => ?_)
    · repeat refine x_step rfl ?_
      exact x_iret rfl rfl (by rw [hw, if_neg (by omega)]) rfl
    repeat refine x_step rfl ?_
    refine x_le rfl (by omega) hr (fun a2 => ?_) (fun a2 => ?_)
    · repeat refine x_step rfl ?_
      exact x_iret rfl rfl (by rw [hw, if_neg (by omega)]) rfl
    repeat refine x_step rfl ?_
    refine x_lt rfl hc (by omega) (fun a3 => ?_) (fun a3 => ?_)
    · repeat refine x_step rfl ?_
      exact x_iret rfl rfl (by rw [hw, if_neg (by omega)]) rfl
    repeat refine x_step rfl ?_
    refine x_lt rfl hc (by omega) (fun a4 => ?_) (fun a4 => ?_)
    · repeat refine x_step rfl ?_
      refine x_ald (len := 80) rfl (by omega) (by omega) ?_
      repeat refine x_step rfl ?_
      exact x_iret rfl rfl (by rw [hw, if_pos (by omega)]) rfl
    · repeat refine x_step rfl ?_
      exact x_iret rfl rfl (by rw [hw, if_neg (by omega)]) rfl
  repeat refine x_step rfl ?_
  refine x_div rfl (by omega) (by omega) (by omega) (by omega) ?_
  repeat refine x_step rfl ?_
  rcases hd with rfl | rfl
  · refine x_eq rfl (by omega) (by omega) (fun hc => ?_) (fun hc => absurd rfl hc)
    repeat refine x_step rfl ?_
    refine x_rem rfl (by omega) (by omega) (by omega) (by omega) ?_
    repeat refine x_step rfl ?_
    refine x_eq rfl (by omega) (by omega) (fun hc => ?_) (fun hc => absurd rfl hc)
    repeat refine x_step rfl ?_
    exact x_loc (by exact ⟨rfl, rfl, rfl, trivial⟩) (J _ _ _ (by omega) (by omega) (by unfold lfS; simp))
  · refine x_eq rfl (by omega) (by omega) (fun hc => absurd hc (by omega)) (fun hc => ?_)
    repeat refine x_step rfl ?_
    refine x_rem rfl (by omega) (by omega) (by omega) (by omega) ?_
    repeat refine x_step rfl ?_
    refine x_eq rfl (by omega) (by omega) (fun hc => absurd hc (by omega)) (fun hc => ?_)
    repeat refine x_step rfl ?_
    exact x_loc (by exact ⟨rfl, rfl, rfl, trivial⟩) (J _ _ _ (by omega) (by omega) (by unfold lfS; simp))
theorem cS_tilesOn (I : Nat → Int → Int) (hb : bdR (I 8)) : XR mS_tilesOn [.inr 7] (hN I) (some (.inl (toS (I 8)))) (hN I) := by
  refine XRa.of (by decide) (Nat.le_of_ble_eq_true rfl) ?_
  have loop : ∀ (d i : Nat), i + d = 81 → XE mS_tilesOn (some (.inl (toS (I 8)))) (hN I) 7 [(2, .inl i), (1, .inl (xsm (fun j => if I 8 j = 0 then 0 else 1) i)), (0, .inr 7)] [.inl 81, .inl i] (hN I) := by
    intro d
    induction d with
    | zero =>
      intro i hi
      refine x_le rfl (by omega) (by omega) (fun hc => ?_) (fun hc => absurd (by omega) hc)
      repeat refine x_step rfl ?_
      exact x_iret rfl rfl (by rw [show i = 81 by omega]; rfl) rfl
    | succ d ih =>
      intro i hi
      refine x_le rfl (by omega) (by omega) (fun hc => absurd hc (by omega)) (fun hc => ?_)
      repeat refine x_step rfl ?_
      refine x_ald (len := 80) rfl (by omega) (by omega) ?_
      have := hb i (by omega) (by omega)
      refine x_eq rfl (by omega) (by omega) (fun hc => ?_) (fun hc => ?_)
      · repeat refine x_step rfl ?_
        exact x_loc (by exact ⟨rfl, xsi (by simp [xsm, hc]), rfl, trivial⟩) (ih (i + 1) (by omega))
      · repeat refine x_step rfl ?_
        exact x_loc (by exact ⟨rfl, xsi (by simp [xsm, hc]), rfl, trivial⟩) (ih (i + 1) (by omega))
  repeat refine x_step rfl ?_
  exact x_loc (by exact ⟨rfl, rfl, rfl, trivial⟩) (loop 81 0 rfl)
theorem cS_isAnchor (I : Nat → Int → Int) (hb : bdR (I 8)) (q : Int) (h0 : 0 ≤ q) (h1 : q ≤ 80) : XR mS_isAnchor [.inr 7, .inl q] (hN I) (some (.inl (anS (I 8) q))) (hN I) := by
  refine XRa.of (by decide) (Nat.le_of_ble_eq_true rfl) ?_
  have b1 := hb q h0 h1
  have yes : ∀ (L : XL) (w : Int), w = 1 → XE mS_isAnchor (some (.inl w)) (hN I) 63 L [] (hN I) := by
    intro L w hw
    repeat refine x_step rfl ?_
    exact x_zret rfl rfl hw.symm (Or.inr rfl) rfl
  repeat refine x_step rfl ?_
  refine x_call rfl (cS_letterOn I q h0 h1) ?_
  refine x_eq rfl (by omega) (by omega) (fun e0 => ?_) (fun e0 => by
    repeat refine x_step rfl ?_
    exact x_zret rfl rfl (by unfold anS; rw [if_neg]; intro w; exact e0 w.1) (Or.inl rfl) rfl)
  repeat refine x_step rfl ?_
  refine x_call rfl (cS_letterFrom I q 0 (-1) h0 h1 (by omega) (by omega)) ?_
  have l1 := lfS_R hb q 0 (-1)
  refine x_eq rfl (by omega) (by omega) (fun e1 => ?_) (fun e1 => yes _ _ (by unfold anS; rw [if_pos]; exact ⟨e0, Or.inl e1⟩))
  repeat refine x_step rfl ?_
  refine x_call rfl (cS_letterFrom I q 0 1 h0 h1 (by omega) (by omega)) ?_
  have l2 := lfS_R hb q 0 1
  refine x_eq rfl (by omega) (by omega) (fun e2 => ?_) (fun e2 => yes _ _ (by unfold anS; rw [if_pos]; exact ⟨e0, Or.inr (Or.inl e2)⟩))
  repeat refine x_step rfl ?_
  refine x_call rfl (cS_letterFrom I q 1 (-1) h0 h1 (by omega) (by omega)) ?_
  have l3 := lfS_R hb q 1 (-1)
  refine x_eq rfl (by omega) (by omega) (fun e3 => ?_) (fun e3 => yes _ _ (by unfold anS; rw [if_pos]; exact ⟨e0, Or.inr (Or.inr (Or.inl e3))⟩))
  repeat refine x_step rfl ?_
  refine x_call rfl (cS_letterFrom I q 1 1 h0 h1 (by omega) (by omega)) ?_
  have l4 := lfS_R hb q 1 1
  refine x_eq rfl (by omega) (by omega) (fun e4 => ?_) (fun e4 => yes _ _ (by unfold anS; rw [if_pos]; exact ⟨e0, Or.inr (Or.inr (Or.inr (Or.inl e4)))⟩))
  repeat refine x_step rfl ?_
  refine x_eq rfl (by omega) (by omega) (fun e5 => ?_) (fun e5 => ?_)
  · repeat refine x_step rfl ?_
    refine x_call rfl (cS_tilesOn I hb) ?_
    have l5 := toS_R (I 8)
    refine x_eq rfl (by omega) (by omega) (fun e6 => yes _ _ (by unfold anS; rw [if_pos]; exact ⟨e0, Or.inr (Or.inr (Or.inr (Or.inr ⟨e5, e6⟩)))⟩)) (fun e6 => ?_)
    repeat refine x_step rfl ?_
    exact x_zret rfl rfl (by unfold anS; rw [if_neg]; rintro ⟨-, w | w | w | w | w⟩; exact w e1; exact w e2; exact w e3; exact w e4; exact e6 w.2) (Or.inl rfl) rfl
  · repeat refine x_step rfl ?_
    exact x_zret rfl rfl (by unfold anS; rw [if_neg]; rintro ⟨-, w | w | w | w | w⟩; exact w e1; exact w e2; exact w e3; exact w e4; exact e5 w.1) (Or.inl rfl) rfl
theorem anS01 (b : Int → Int) (q : Int) : anS b q = 0 ∨ anS b q = 1 := if01
theorem cS_anchors (I : Nat → Int → Int) (hb : bdR (I 8)) : XR mS_anchors [.inr 7] (hN I) (some (.inl (xsm (anS (I 8)) 81))) (hN I) := by
  refine XRa.of (by decide) (Nat.le_of_ble_eq_true rfl) ?_
  have loop : ∀ (d i : Nat), i + d = 81 → XE mS_anchors (some (.inl (xsm (anS (I 8)) 81))) (hN I) 7 [(2, .inl i), (1, .inl (xsm (anS (I 8)) i)), (0, .inr 7)] [.inl 81, .inl i] (hN I) := by
    intro d
    induction d with
    | zero =>
      intro i hi
      refine x_le rfl (by omega) (by omega) (fun hc => ?_) (fun hc => absurd (by omega) hc)
      repeat refine x_step rfl ?_
      exact x_iret rfl rfl (by rw [show i = 81 by omega]) rfl
    | succ d ih =>
      intro i hi
      refine x_le rfl (by omega) (by omega) (fun hc => absurd hc (by omega)) (fun hc => ?_)
      repeat refine x_step rfl ?_
      refine x_call rfl (cS_isAnchor I hb i (by omega) (by omega)) ?_
      have := anS01 (I 8) i
      refine x_eq rfl (by omega) (by omega) (fun hc => ?_) (fun hc => ?_)
      · repeat refine x_step rfl ?_
        exact x_loc (by exact ⟨rfl, xsi (by simp [xsm, hc]), rfl, trivial⟩) (ih (i + 1) (by omega))
      · repeat refine x_step rfl ?_
        exact x_loc (by exact ⟨rfl, xsi (by simp only [xsm]; omega), rfl, trivial⟩) (ih (i + 1) (by omega))
  repeat refine x_step rfl ?_
  exact x_loc (by exact ⟨rfl, rfl, rfl, trivial⟩) (loop 81 0 rfl)
def srS (b : Int → Int) (q d : Int) : Int := if b q ≠ 0 ∧ lfS b q d (-1) = 0 ∧ lfS b q d 1 ≠ 0 then 1 else 0
theorem cS_startsRun (I : Nat → Int → Int) (hb : bdR (I 8)) (q d : Int) (h0 : 0 ≤ q) (h1 : q ≤ 80) (hd : d = 0 ∨ d = 1) : XR mS_startsRun [.inr 7, .inl q, .inl d] (hN I) (some (.inl (srS (I 8) q d))) (hN I) := by
  refine XRa.of (by decide) (Nat.le_of_ble_eq_true rfl) ?_
  have b1 := hb q h0 h1
  have no : ∀ (L : XL) (w : Int), w = 0 → XE mS_startsRun (some (.inl w)) (hN I) 32 L [] (hN I) := by
    intro L w hw
    repeat refine x_step rfl ?_
    exact x_zret rfl rfl hw.symm (Or.inl rfl) rfl
  repeat refine x_step rfl ?_
  refine x_call rfl (cS_letterOn I q h0 h1) ?_
  refine x_eq rfl (by omega) (by omega) (fun e0 => no _ _ (by unfold srS; rw [if_neg]; intro w; exact w.1 e0)) (fun e0 => ?_)
  repeat refine x_step rfl ?_
  refine x_call rfl (cS_letterFrom I q d (-1) h0 h1 hd (by omega)) ?_
  have l1 := lfS_R hb q d (-1)
  refine x_eq rfl (by omega) (by omega) (fun e1 => ?_) (fun e1 => no _ _ (by unfold srS; rw [if_neg]; intro w; exact e1 w.2.1))
  repeat refine x_step rfl ?_
  refine x_call rfl (cS_letterFrom I q d 1 h0 h1 hd (by omega)) ?_
  have l2 := lfS_R hb q d 1
  refine x_eq rfl (by omega) (by omega) (fun e2 => no _ _ (by unfold srS; rw [if_neg]; intro w; exact w.2.2 e2)) (fun e2 => ?_)
  repeat refine x_step rfl ?_
  exact x_zret rfl rfl (by unfold srS; rw [if_pos ⟨e0, e1, e2⟩]) (Or.inr rfl) rfl
