/-! the history of the class -/
theorem gpP.gap {g g2 : Nat} (h : gpP g g2) : g + 13 ≤ g2 ∨ g2 + 13 ≤ g := by unfold gpP at h; omega
theorem cpN_ne {I : Nat → Int → Int} {o o2 a : Nat} {f : Int} (h : a ≠ o) : cpN I o o2 f a = I a := by unfold cpN; rw [xup_ne h]
theorem cpN_at {I : Nat → Int → Int} {o o2 : Nat} {f j : Int} : cpN I o o2 f o j = if j = f then I o2 f else I o j := by unfold cpN; rw [xup_at]
theorem cpA_ne {I : Nat → Int → Int} {o o2 a len : Nat} (h : a ≠ o) : cpA I o o2 len a = I a := by unfold cpA; rw [xset_ne h]
theorem cpA_at {I : Nat → Int → Int} {o o2 len : Nat} {j : Int} (h0 : 0 ≤ j) (h1 : j < len) : cpA I o o2 len o j = I o2 j := by
  unfold cpA
  rw [xset_at]
  exact if_pos ⟨h0, h1⟩
theorem cpH_R {I : Nat → Int → Int} {g g2 a : Nat} (h : a ≠ g) : cpH I g g2 a = cpR I g g2 a := by
  unfold cpH
  rw [cpN_ne h, cpN_ne h, cpN_ne h, cpN_ne h, cpN_ne h, cpN_ne h, cpN_ne h]
theorem cpR_ne {I : Nat → Int → Int} {g g2 a : Nat} (h1 : a ≠ g + 1) (h2 : a ≠ g + 2) (h4 : a ≠ g + 4) (h6 : a ≠ g + 6) (h8 : a ≠ g + 8) (h10 : a ≠ g + 10) : cpR I g g2 a = I a := by
  unfold cpR
  rw [cpA_ne h10, cpA_ne h8, cpA_ne h6, cpA_ne h4, cpN_ne h1, cpA_ne h2]
theorem cpH_ne {I : Nat → Int → Int} {g g2 a : Nat} (h : a < g ∨ g + 10 < a) : cpH I g g2 a = I a := by
  rw [cpH_R (by omega), cpR_ne (by omega) (by omega) (by omega) (by omega) (by omega) (by omega)]
theorem GM.cp {I : Nat → Int → Int} {g g2 : Nat} {z : Int → Int} (hg : gpP g g2) (h : GM I g2 z) : GM (cpH I g g2) g z := by
  have hgap := hg.gap
  have hne : g2 ≠ g := by omega
  refine ⟨fun j a b => ?_, fun k a b => ?_, fun k a b => ?_, fun k a b => ?_, fun i a b => ?_, ?_, fun k a b => ?_⟩
  · rw [cpH_R (by omega)]
    unfold cpR
    rw [cpA_ne (by omega), cpA_ne (by omega), cpA_ne (by omega), cpA_at a (by omega), cpN_ne (by omega), cpA_ne (by omega)]
    exact h.b j a b
  · rw [cpH_R (by omega)]
    unfold cpR
    rw [cpA_ne (by omega), cpA_ne (by omega), cpA_at (by omega) (by omega), cpA_ne (by omega), cpN_ne (by omega), cpA_ne (by omega)]
    exact h.r0 k a b
  · rw [cpH_R (by omega)]
    unfold cpR
    rw [cpA_ne (by omega), cpA_at (by omega) (by omega), cpA_ne (by omega), cpA_ne (by omega), cpN_ne (by omega), cpA_ne (by omega)]
    exact h.r1 k a b
  · rw [cpH_R (by omega)]
    unfold cpR
    rw [cpA_at (by omega) (by omega), cpA_ne (by omega), cpA_ne (by omega), cpA_ne (by omega), cpN_ne (by omega), cpA_ne (by omega)]
    exact h.bg k a b
  · rw [← h.x i a b]
    have e : cpR I g g2 g2 = I g2 := cpR_ne (by omega) (by omega) (by omega) (by omega) (by omega) (by omega)
    have hi : i = 6 ∨ i = 7 ∨ i = 8 ∨ i = 9 ∨ i = 10 ∨ i = 11 ∨ i = 12 := by omega
    unfold cpH
    rcases hi with rfl | rfl | rfl | rfl | rfl | rfl | rfl
    all_goals simp [cpN_at, cpN_ne hne, e]
  · rw [cpH_R (by omega)]
    unfold cpR
    rw [cpA_ne (by omega), cpA_ne (by omega), cpA_ne (by omega), cpA_ne (by omega), cpN_at, if_pos rfl, cpA_ne (by omega)]
    exact h.m
  · rw [cpH_R (by omega)]
    unfold cpR
    rw [cpA_ne (by omega), cpA_ne (by omega), cpA_ne (by omega), cpA_ne (by omega), cpN_ne (by omega), cpA_at a (by omega)]
    exact h.w k a b
/-- the row of the history for an age -/
def rwS (x a : Int) : Nat := 32 + 13 * ((x + a) % 6).toNat
theorem rwS_cases (x a : Int) (h : 0 ≤ x + a) : rwS x a = 32 ∨ rwS x a = 45 ∨ rwS x a = 58 ∨ rwS x a = 71 ∨ rwS x a = 84 ∨ rwS x a = 97 := by unfold rwS; omega
theorem cH_stateAt (I : Nat → Int → Int) (a : Int) (h0 : 0 ≤ I 30 1) (h1 : I 30 1 ≤ 5) (ha : 0 ≤ a) (ha2 : a ≤ 5) : XR mH_stateAt [.inr 30, .inl a] (hN I) (some (.inr (rwS (I 30 1) a))) (hN I) := by
  refine XRa.of (by decide) (Nat.le_of_ble_eq_true rfl) ?_
  have hx : 0 ≤ (I 30 1 + a) % 6 ∧ (I 30 1 + a) % 6 < 6 := by omega
  have hq : ∀ k : Int, 0 ≤ k → k < 6 → xRf 31 k.toNat = some (32 + 13 * k.toNat) := by
    intro k a b
    have hk : k = 0 ∨ k = 1 ∨ k = 2 ∨ k = 3 ∨ k = 4 ∨ k = 5 := by omega
    rcases hk with rfl | rfl | rfl | rfl | rfl | rfl <;> rfl
  repeat refine x_step rfl ?_
  refine x_rem rfl (by omega) (by omega) (by omega) (by omega) ?_
  repeat refine x_step rfl ?_
  refine x_lt rfl (by omega) (by omega) (fun hc => absurd hc (by omega)) (fun hc => ?_)
  repeat refine x_step rfl ?_
  refine x_alen (len := 6) rfl (by decide) (by decide) ?_
  refine x_le rfl (by omega) (by omega) (fun hc => absurd hc (by omega)) (fun hc => ?_)
  repeat refine x_step rfl ?_
  refine x_aald rfl (by decide) hx.1 hx.2 (hq _ hx.1 hx.2) ?_
  repeat refine x_step rfl ?_
  exact x_aret rfl rfl rfl rfl
theorem cH_prepare (I : Nat → Int → Int) (h0 : 0 ≤ I 30 1) (h1 : I 30 1 ≤ 5) (h2 : 0 ≤ I 30 2) (h3 : I 30 2 ≤ 5) : XR mH_prepare [.inr 30, .inr 4] (hN I) none (hN (cpH I (rwS (I 30 1) (I 30 2)) 4)) := by
  refine XRa.of (by decide) (Nat.le_of_ble_eq_true rfl) ?_
  have hc := rwS_cases (I 30 1) (I 30 2) (by omega)
  have hs := cH_stateAt I (I 30 2) h0 h1 h2 h3
  generalize rwS (I 30 1) (I 30 2) = g at *
  have hg : gpP g 4 := by unfold gpP; omega
  have cp := cG_copyFrom g 4 hg I
  repeat refine x_step rfl ?_
  refine x_call rfl hs ?_
  rcases hc with rfl | rfl | rfl | rfl | rfl | rfl
  all_goals
    repeat refine x_step rfl ?_
    refine x_callv rfl cp ?_
    exact x_vret rfl rfl rfl
/-- the latest state is kept -/
def kpH (I : Nat → Int → Int) : Nat → Int → Int := if I 30 2 < 5 then xup I 30 2 (I 30 2 + 1) else xup I 30 1 ((I 30 1 + 1) % 6)
theorem cH_keep (I : Nat → Int → Int) (h0 : 0 ≤ I 30 1) (h1 : I 30 1 ≤ 5) (h2 : 0 ≤ I 30 2) (h3 : I 30 2 ≤ 5) : XR mH_keep [.inr 30] (hN I) none (hN (kpH I)) := by
  refine XRa.of (by decide) (Nat.le_of_ble_eq_true rfl) ?_
  unfold kpH
  repeat refine x_step rfl ?_
  refine x_le rfl (by omega) (by omega) (fun hc => ?_) (fun hc => ?_)
  · rw [if_neg (by omega)]
    repeat refine x_step rfl ?_
    refine x_rem rfl (by omega) (by omega) (by omega) (by omega) ?_
    repeat refine x_step rfl ?_
    exact x_vret rfl rfl rfl
  · rw [if_pos (by omega)]
    repeat refine x_step rfl ?_
    exact x_vret rfl rfl rfl
theorem cB_kept (I : Nat → Int → Int) (h0 : 0 ≤ I 30 1) (h1 : I 30 1 ≤ 5) (h2 : 0 ≤ I 30 2) (h3 : I 30 2 ≤ 5) (x : Int) (hx : InR x) : XR mB_kept [.inr 3, .inl x] (hN I) (some (.inl x)) (hN (if 0 ≤ x then kpH I else I)) := by
  refine XRa.of (by decide) (Nat.le_of_ble_eq_true rfl) ?_
  repeat refine x_step rfl ?_
  refine x_lt rfl (by omega) (by omega) (fun hc => ?_) (fun hc => ?_)
  · rw [if_neg (by omega)]
    repeat refine x_step rfl ?_
    exact x_iret rfl rfl rfl rfl
  · rw [if_pos (by omega)]
    repeat refine x_step rfl ?_
    refine x_callv rfl (cH_keep I h0 h1 h2 h3) ?_
    repeat refine x_step rfl ?_
    exact x_iret rfl rfl rfl rfl
