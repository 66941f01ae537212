/-! a game is copied -/
def gpP (g g2 : Nat) : Prop := (g2 = 4 ∧ (g = 17 ∨ g = 32 ∨ g = 45 ∨ g = 58 ∨ g = 71 ∨ g = 84 ∨ g = 97)) ∨ (g = 4 ∧ (g2 = 17 ∨ g2 = 32 ∨ g2 = 45 ∨ g2 = 58 ∨ g2 = 71 ∨ g2 = 84 ∨ g2 = 97))
/-- one row of numbers is copied -/
def cpA (I : Nat → Int → Int) (a a2 : Nat) (len : Nat) : Nat → Int → Int := xset I a (fun j => if 0 ≤ j ∧ j < (len : Int) then I a2 j else I a j)
/-- one number is copied -/
def cpN (I : Nat → Int → Int) (a a2 : Nat) (f : Int) : Nat → Int → Int := xup I a f (I a2 f)
theorem cT_copyFrom (g g2 : Nat) (hg : gpP g g2) (i : Nat) (hi : i = 5 ∨ i = 7 ∨ i = 9) (I : Nat → Int → Int) : XR mT_copyFrom [.inr (g + i), .inr (g2 + i)] (hN I) none (hN (cpA I (g + i + 1) (g2 + i + 1) 9)) := by
  refine XRa.of (by decide) (Nat.le_of_ble_eq_true rfl) ?_
  rcases hg with ⟨rfl, rfl | rfl | rfl | rfl | rfl | rfl | rfl⟩ | ⟨rfl, rfl | rfl | rfl | rfl | rfl | rfl | rfl⟩ <;> rcases hi with rfl | rfl | rfl
  all_goals
    repeat refine x_step rfl ?_
    refine x_copy (len := 9) rfl (by decide) (by decide) (by decide) (by decide) (by decide) (by decide) (by decide) (by decide) (by decide) (by decide) (by decide) (by decide) ?_
    exact x_vret rfl rfl rfl
theorem cS_copyFrom (g g2 : Nat) (hg : gpP g g2) (I : Nat → Int → Int) : XR mS_copyFrom [.inr (g + 3), .inr (g2 + 3)] (hN I) none (hN (cpA I (g + 4) (g2 + 4) 81)) := by
  refine XRa.of (by decide) (Nat.le_of_ble_eq_true rfl) ?_
  rcases hg with ⟨rfl, rfl | rfl | rfl | rfl | rfl | rfl | rfl⟩ | ⟨rfl, rfl | rfl | rfl | rfl | rfl | rfl | rfl⟩
  all_goals
    repeat refine x_step rfl ?_
    refine x_copy (len := 81) rfl (by decide) (by decide) (by decide) (by decide) (by decide) (by decide) (by decide) (by decide) (by decide) (by decide) (by decide) (by decide) ?_
    exact x_vret rfl rfl rfl
theorem cW_copyFrom (g g2 : Nat) (hg : gpP g g2) (I : Nat → Int → Int) : XR mW_copyFrom [.inr (g + 1), .inr (g2 + 1)] (hN I) none (hN (cpN (cpA I (g + 2) (g2 + 2) 20) (g + 1) (g2 + 1) 1)) := by
  refine XRa.of (by decide) (Nat.le_of_ble_eq_true rfl) ?_
  rcases hg with ⟨rfl, rfl | rfl | rfl | rfl | rfl | rfl | rfl⟩ | ⟨rfl, rfl | rfl | rfl | rfl | rfl | rfl | rfl⟩
  all_goals
    repeat refine x_step rfl ?_
    refine x_copy (len := 20) rfl (by decide) (by decide) (by decide) (by decide) (by decide) (by decide) (by decide) (by decide) (by decide) (by decide) (by decide) (by decide) ?_
    repeat refine x_step rfl ?_
    exact x_vret rfl rfl rfl
/-- the heap behind a copy of the game g2 to the game g -/
def cpR (I : Nat → Int → Int) (g g2 : Nat) : Nat → Int → Int := cpA (cpA (cpA (cpA (cpN (cpA I (g + 2) (g2 + 2) 20) (g + 1) (g2 + 1) 1) (g + 4) (g2 + 4) 81) (g + 6) (g2 + 6) 9) (g + 8) (g2 + 8) 9) (g + 10) (g2 + 10) 9
def cpH (I : Nat → Int → Int) (g g2 : Nat) : Nat → Int → Int := cpN (cpN (cpN (cpN (cpN (cpN (cpN (cpR I g g2) g g2 6) g g2 7) g g2 8) g g2 9) g g2 10) g g2 11) g g2 12
theorem cG_copyFrom (g g2 : Nat) (hg : gpP g g2) (I : Nat → Int → Int) : XR mG_copyFrom [.inr g, .inr g2] (hN I) none (hN (cpH I g g2)) := by
  refine XRa.of (by decide) (Nat.le_of_ble_eq_true rfl) ?_
  have w := cW_copyFrom g g2 hg
  have s := cS_copyFrom g g2 hg
  have t5 := cT_copyFrom g g2 hg 5 (by omega)
  have t7 := cT_copyFrom g g2 hg 7 (by omega)
  have t9 := cT_copyFrom g g2 hg 9 (by omega)
  rcases hg with ⟨rfl, rfl | rfl | rfl | rfl | rfl | rfl | rfl⟩ | ⟨rfl, rfl | rfl | rfl | rfl | rfl | rfl | rfl⟩
  all_goals
    repeat refine x_step rfl ?_
    refine x_callv rfl (w _) ?_
    repeat refine x_step rfl ?_
    refine x_callv rfl (s _) ?_
    repeat refine x_step rfl ?_
    refine x_callv rfl (t5 _) ?_
    repeat refine x_step rfl ?_
    refine x_callv rfl (t7 _) ?_
    repeat refine x_step rfl ?_
    refine x_callv rfl (t9 _) ?_
    repeat refine x_step rfl ?_
    exact x_vret rfl rfl rfl
