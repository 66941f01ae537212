/-! tiles: moves of all, passes and swaps of the class; the reference's draws -/
def mvH (I : Nat → Int → Int) (A A2 : Nat) (k : Int) : Nat → Int → Int := xset (xset I A2 (fun j => if 1 ≤ j ∧ j < k then I A2 j + I A j else I A2 j)) A (fun j => if 1 ≤ j ∧ j < k then 0 else I A j)
theorem mvH_1 {I : Nat → Int → Int} {A A2 : Nat} : mvH I A A2 1 = I := by
  unfold mvH
  funext a j
  unfold xset
  by_cases h1 : a = A
  · subst h1; rw [if_pos rfl, if_neg (by omega)]
  · rw [if_neg h1]
    by_cases h2 : a = A2
    · subst h2; rw [if_pos rfl, if_neg (by omega)]
    · rw [if_neg h2]
theorem mvH_ne {I : Nat → Int → Int} {A A2 a : Nat} {k : Int} (h : a ≠ A) (h2 : a ≠ A2) : mvH I A A2 k a = I a := by unfold mvH; rw [xset_ne h, xset_ne h2]
theorem mvH_A {I : Nat → Int → Int} {A A2 : Nat} {k : Int} : mvH I A A2 k A = (fun j => if 1 ≤ j ∧ j < k then 0 else I A j) := by unfold mvH; rw [xset_at]
theorem mvH_A2 {I : Nat → Int → Int} {A A2 : Nat} (hA : A ≠ A2) {k : Int} : mvH I A A2 k A2 = (fun j => if 1 ≤ j ∧ j < k then I A2 j + I A j else I A2 j) := by unfold mvH; rw [xset_ne (Ne.symm hA), xset_at]
theorem mvH_s {I : Nat → Int → Int} {A A2 : Nat} (hA : A ≠ A2) {k : Int} (hk : 1 ≤ k) : xup (xup (mvH I A A2 k) A2 k (mvH I A A2 k A2 k + mvH I A A2 k A k)) A k 0 = mvH I A A2 (k + 1) := by
  rw [mvH_A2 hA, mvH_A]
  simp only [show ¬ (1 ≤ k ∧ k < k) by omega, if_false]
  funext a j
  by_cases h1 : a = A
  · subst h1
    rw [xup_at, xup_ne hA, mvH_A, mvH_A]
    simp only
    by_cases hj : j = k
    · rw [if_pos hj, if_pos (by omega)]
    · rw [if_neg hj]
      by_cases h3 : 1 ≤ j ∧ j < k
      · rw [if_pos h3, if_pos (by omega)]
      · rw [if_neg h3, if_neg (by omega)]
  · rw [xup_ne h1]
    by_cases h2 : a = A2
    · subst h2
      rw [xup_at, mvH_A2 hA, mvH_A2 hA]
      simp only
      by_cases hj : j = k
      · rw [if_pos hj, if_pos (by omega), hj]
      · rw [if_neg hj]
        by_cases h3 : 1 ≤ j ∧ j < k
        · rw [if_pos h3, if_pos (by omega)]
        · rw [if_neg h3, if_neg (by omega)]
    · rw [xup_ne h2, mvH_ne h1 h2, mvH_ne h1 h2]
theorem cT_moveAllTo (I : Nat → Int → Int) (T A T2 A2 : Nat) (hT : (T = 9 ∧ A = 10 ∧ T2 = 15 ∧ A2 = 16) ∨ (T = 11 ∧ A = 12 ∧ T2 = 15 ∧ A2 = 16) ∨ (T = 15 ∧ A = 16 ∧ T2 = 13 ∧ A2 = 14)) : XR mT_moveAllTo [.inr T, .inr T2] (hN I) none (hN (mvH I A A2 9)) := by
  refine XRa.of (by decide) (Nat.le_of_ble_eq_true rfl) ?_
  have hTA2 : tsP T2 A2 := by unfold tsP; omega
  have loop : ∀ (d : Nat) (k : Int), k + d = 9 → 1 ≤ k → XE mT_moveAllTo none (hN (mvH I A A2 9)) 5 [(2, .inl k), (0, .inr T), (1, .inr T2)] [.inl 8, .inl k] (hN (mvH I A A2 k)) := by
    intro d
    induction d with
    | zero =>
      intro k hk hk2
      refine x_lt rfl (by omega) (by omega) (fun hc => ?_) (fun hc => absurd (by omega) hc)
      repeat refine x_step rfl ?_
      exact x_vret rfl rfl (by rw [show k = 9 by omega])
    | succ d ih =>
      intro k hk hk2
      rcases hT with ⟨rfl, rfl, rfl, rfl⟩ | ⟨rfl, rfl, rfl, rfl⟩ | ⟨rfl, rfl, rfl, rfl⟩
      all_goals
        refine x_lt rfl (by omega) (by omega) (fun hc => absurd hc (by omega)) (fun hc => ?_)
        repeat refine x_step rfl ?_
        refine x_ald (len := 8) rfl (by omega) (by omega) ?_
        refine x_callv rfl (cT_change _ (by omega) _ _ _ hTA2 k _ (by omega) (by omega)) ?_
        repeat refine x_step rfl ?_
        refine x_ast (len := 8) rfl (by omega) (by omega) ?_
        rw [mvH_s (by omega) hk2]
        repeat refine x_step rfl ?_
        exact x_loc (by exact ⟨rfl, rfl, rfl, trivial⟩) (ih (k + 1) (by omega) (by omega))
  have fin := loop 8 1 (by omega) (by omega)
  rw [mvH_1] at fin
  repeat refine x_step rfl ?_
  exact x_loc (by exact ⟨rfl, rfl, rfl, trivial⟩) fin
theorem cG_makePass (I : Nat → Int → Int) : XR mG_makePass [.inr 4] (hN I) (some (.inl (1 - I 4 7))) (hN (xup (xup I 4 11 (I 4 11 + 1)) 4 7 (1 - I 4 7))) := by
  refine XRa.of (by decide) (Nat.le_of_ble_eq_true rfl) ?_
  repeat refine x_step rfl ?_
  refine x_iret rfl rfl ?_ ?_
  · simp [xup]
  · simp [xup]
/-- the rack of a player -/
def rkA (p : Int) : Nat := if p = 0 then 10 else 12
/-- the heap behind a swap -/
def swI (I : Nat → Int → Int) (A : Nat) : Nat → Int → Int :=
  let J := mvH I A 16 9
  let K := fiH J A (fiT (6 - ttS (J A)).toNat (J 4 6, J 14, J A))
  let M := mvH K 16 14 9
  xup (xup M 4 12 (M 4 12 + 1)) 4 7 (1 - M 4 7)
theorem cG_makeSwap (I : Nat → Int → Int) (ht : I 4 7 = 0 ∨ I 4 7 = 1) (hr : amR (I (rkA (I 4 7)))) (hb : amR (I 14)) (hx : 0 ≤ I 4 6 ∧ I 4 6 ≤ 65536) : XR mG_makeSwap [.inr 4] (hN I) (some (.inl (if ttS (I 14) < ttS (I (rkA (I 4 7))) then -4 else ttS (I (rkA (I 4 7)))))) (hN (if ttS (I 14) < ttS (I (rkA (I 4 7))) then I else swI I (rkA (I 4 7)))) := by
  refine XRa.of (by decide) (Nat.le_of_ble_eq_true rfl) ?_
  have hb2 := amR_sum hb
  have hr2 := amR_sum hr
  have main : ∀ (T A : Nat), (T = 9 ∧ A = 10) ∨ (T = 11 ∧ A = 12) → A = rkA (I 4 7) → XE mG_makeSwap (some (.inl (if ttS (I 14) < ttS (I A) then -4 else ttS (I A)))) (hN (if ttS (I 14) < ttS (I A) then I else swI I A)) 8 [(0, .inr 4)] [.inr T] (hN I) := by
    intro T A hTA hAe
    rw [← hAe] at hr hr2
    have hTA1 : tsP T A := by unfold tsP; omega
    have hTA2 := hTA
    have hmv : (T = 9 ∧ A = 10 ∧ 15 = 15 ∧ 16 = 16) ∨ (T = 11 ∧ A = 12 ∧ 15 = 15 ∧ 16 = 16) ∨ (T = 15 ∧ A = 16 ∧ 15 = 13 ∧ 16 = 14) := by omega
    have hmA : ttS (mvH I A 16 9 A) = 0 := by rw [mvH_A]; simp [ttS]
    have hst : tsR (mvH I A 16 9 4 6, mvH I A 16 9 14, mvH I A 16 9 A) := by
      rw [mvH_ne (by omega) (by omega), mvH_ne (by omega) (by omega)]
      exact ⟨hx.1, hx.2, hb⟩
    rcases hTA with ⟨rfl, rfl⟩ | ⟨rfl, rfl⟩
    all_goals
      repeat refine x_step rfl ?_
      refine x_call rfl (cT_total _ (by omega) I _ _ hTA1) ?_
      repeat refine x_step rfl ?_
      refine x_call rfl (cT_total _ (by omega) I 13 14 (by unfold tsP; omega)) ?_
      repeat refine x_step rfl ?_
      refine x_le rfl (by omega) (by omega) (fun hc => ?_) (fun hc => ?_)
      · rw [if_neg (by omega), if_neg (by omega)]
        repeat refine x_step rfl ?_
        refine x_callv rfl (cT_moveAllTo I _ _ 15 16 hmv) ?_
        repeat refine x_step rfl ?_
        refine x_callv rfl (cG_fill _ (by omega) _ _ _ hTA2 hst (by omega) (by omega)) ?_
        repeat refine x_step rfl ?_
        refine x_callv rfl (cT_moveAllTo _ 15 16 13 14 (by omega)) ?_
        repeat refine x_step rfl ?_
        refine x_iret rfl rfl rfl ?_
        unfold swI
        simp only
        rw [xup_at, if_neg (by omega)]
      · rw [if_pos (by omega), if_pos (by omega)]
        repeat refine x_step rfl ?_
        exact x_iret rfl rfl rfl rfl
  repeat refine x_step rfl ?_
  refine x_call rfl (cG_rackOf I _ ht) ?_
  rcases ht with ht | ht
  · have := main 9 10 (by omega) (by unfold rkA; rw [if_pos ht])
    rw [if_pos ht, show rkA (I 4 7) = 10 by unfold rkA; rw [if_pos ht]]
    exact this
  · have := main 11 12 (by omega) (by unfold rkA; rw [if_neg (by omega)])
    rw [if_neg (show ¬ I 4 7 = 0 by omega), show rkA (I 4 7) = 12 by unfold rkA; rw [if_neg (by omega)]]
    exact this
