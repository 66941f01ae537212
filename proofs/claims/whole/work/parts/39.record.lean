/-! the history of the reference -/
def shO (o : Int → Int) (i : Int) : Int → Int := fun k => if 0 ≤ k ∧ k < i then o (133 + k) else o k
def puO (o z : Int → Int) (s i : Int) : Int → Int := fun k => if 133 * s ≤ k ∧ k < 133 * s + i then z (k - 133 * s) else o k
def rcS (n : Int) : Int := if n = 5 then 4 else n
def rcO (o z : Int → Int) (n : Int) : Int → Int := puO (if n = 5 then shO o 532 else o) z (rcS n) 133
def rcH (I : Nat → Int → Int) : Nat → Int → Int := xup (xset I 119 (rcO (I 119) (I 118) (I 117 2))) 117 2 (rcS (I 117 2) + 1)
theorem shO_s (o : Int → Int) {i : Int} (h : 0 ≤ i) : upF (shO o i) i (o (133 + i)) = shO o (i + 1) := by
  funext k
  unfold upF shO
  by_cases e : k = i
  · rw [if_pos e, if_pos (by omega), e]
  · rw [if_neg e]
    by_cases g : 0 ≤ k ∧ k < i
    · rw [if_pos g, if_pos (by omega)]
    · rw [if_neg g, if_neg (by omega)]
theorem shO_0 (o : Int → Int) : shO o 0 = o := by
  funext k
  exact if_neg (by omega)
theorem puO_s (o z : Int → Int) (s : Int) {i : Int} (h : 0 ≤ i) : upF (puO o z s i) (133 * s + i) (z i) = puO o z s (i + 1) := by
  funext k
  unfold upF puO
  by_cases e : k = 133 * s + i
  · rw [if_pos e, if_pos (by omega), e, show 133 * s + i - 133 * s = i by omega]
  · rw [if_neg e]
    by_cases g : 133 * s ≤ k ∧ k < 133 * s + i
    · rw [if_pos g, if_pos (by omega)]
    · rw [if_neg g, if_neg (by omega)]
theorem puO_0 (o z : Int → Int) (s : Int) : puO o z s 0 = o := by
  funext k
  exact if_neg (by omega)
theorem cM_record (I : Nat → Int → Int) (h0 : 0 ≤ I 117 2) (h1 : I 117 2 ≤ 5) : XR mM_record [.inr 117] (hN I) none (hN (rcH I)) := by
  refine XRa.of (by decide) (Nat.le_of_ble_eq_true rfl) ?_
  have loop2 : ∀ (J : Nat → Int → Int) (n : Nat) (i : Int), i + n = 133 → 0 ≤ i → 0 ≤ J 117 2 → J 117 2 ≤ 4 → rcH I = xup (xset J 119 (puO (J 119) (J 118) (J 117 2) 133)) 117 2 (J 117 2 + 1) → XE mM_record none (hN (rcH I)) 55 [(1, .inl i), (0, .inr 117)] [.inl 133, .inl i] (hN (xset J 119 (puO (J 119) (J 118) (J 117 2) i))) := by
    intro J n
    induction n with
    | zero =>
      intro i a b g0 g1 hJ
      refine x_le rfl (by omega) (by omega) (fun hc => ?_) (fun hc => absurd (by omega) hc)
      repeat refine x_step rfl ?_
      refine x_vret rfl rfl ?_
      rw [hJ, show i = 133 by omega, xset_ne (by omega)]
    | succ n ih =>
      intro i a b g0 g1 hJ
      refine x_le rfl (by omega) (by omega) (fun hc => absurd hc (by omega)) (fun hc => ?_)
      repeat refine x_step rfl ?_
      rw [xset_ne (show (117 : Nat) ≠ 119 by omega)]
      refine x_ald (len := 132) rfl (by omega) (by omega) ?_
      rw [xset_ne (show (118 : Nat) ≠ 119 by omega)]
      refine x_ast (len := 664) rfl (by omega) (by omega) ?_
      rw [xup_set, xset_xset, xset_at, puO_s _ _ _ b]
      repeat refine x_step rfl ?_
      exact x_loc (by exact ⟨rfl, rfl, trivial⟩) (ih (i + 1) (by omega) (by omega) g0 g1 hJ)
  have loop1 : ∀ (n : Nat) (i : Int), i + n = 532 → 0 ≤ i → I 117 2 = 5 → XE mM_record none (hN (rcH I)) 14 [(1, .inl i), (0, .inr 117)] [.inl 532, .inl i] (hN (xset I 119 (shO (I 119) i))) := by
    intro n
    induction n with
    | zero =>
      intro i a b h5
      refine x_le rfl (by omega) (by omega) (fun hc => ?_) (fun hc => absurd (by omega) hc)
      repeat refine x_step rfl ?_
      rw [xset_ne (show (117 : Nat) ≠ 119 by omega), h5]
      have ei : i = 532 := by omega
      have e117 : xup (xset I 119 (shO (I 119) i)) 117 2 (5 - 1) 117 2 = 4 := by rw [xup_at, if_pos rfl]; rfl
      have e119 : xup (xset I 119 (shO (I 119) i)) 117 2 (5 - 1) 119 = shO (I 119) i := by rw [xup_ne (by omega), xset_at]
      have e118 : xup (xset I 119 (shO (I 119) i)) 117 2 (5 - 1) 118 = I 118 := by rw [xup_ne (by omega), xset_ne (by omega)]
      have hh : rcH I = xup (xset (xup (xset I 119 (shO (I 119) i)) 117 2 (5 - 1)) 119 (puO (shO (I 119) i) (I 118) 4 133)) 117 2 (4 + 1) := by
        unfold rcH rcO rcS
        rw [h5, if_pos rfl, if_pos rfl, ei]
        funext a j
        by_cases h7 : a = 117
        · subst h7
          rw [xup_at, xup_at, xset_ne (show (117 : Nat) ≠ 119 by omega), xset_ne (show (117 : Nat) ≠ 119 by omega), xup_at, xset_ne (show (117 : Nat) ≠ 119 by omega)]
          by_cases hj : j = 2
          · rw [if_pos hj, if_pos hj]
          · rw [if_neg hj, if_neg hj, if_neg hj]
        · rw [xup_ne h7, xup_ne h7]
          by_cases h9 : a = 119
          · subst h9
            rw [xset_at, xset_at]
          · rw [xset_ne h9, xset_ne h9, xup_ne h7, xset_ne h9]
      have go := loop2 (xup (xset I 119 (shO (I 119) i)) 117 2 (5 - 1)) 133 0 (by omega) (by omega) (by rw [e117]; omega) (by rw [e117]; omega) (by rw [e117, e119, e118]; exact hh)
      rw [puO_0, xset_self] at go
      exact x_loc (by exact ⟨rfl, rfl, trivial⟩) go
    | succ n ih =>
      intro i a b h5
      refine x_le rfl (by omega) (by omega) (fun hc => absurd hc (by omega)) (fun hc => ?_)
      repeat refine x_step rfl ?_
      refine x_ald (len := 664) rfl (by omega) (by omega) ?_
      rw [xset_at, show shO (I 119) i (133 + i) = I 119 (133 + i) from if_neg (by omega)]
      refine x_ast (len := 664) rfl (by omega) (by omega) ?_
      rw [xup_set, xset_xset, xset_at, shO_s _ b]
      repeat refine x_step rfl ?_
      exact x_loc (by exact ⟨rfl, rfl, trivial⟩) (ih (i + 1) (by omega) (by omega) h5)
  repeat refine x_step rfl ?_
  refine x_eq rfl (by omega) (by omega) (fun hc => ?_) (fun hc => ?_)
  · have go := loop1 532 0 (by omega) (by omega) hc
    rw [shO_0, xset_self] at go
    repeat refine x_step rfl ?_
    exact x_loc (by exact ⟨rfl, rfl, trivial⟩) go
  · have go := loop2 I 133 0 (by omega) (by omega) (by omega) (by omega) (by unfold rcH rcO rcS; rw [if_neg hc, if_neg hc])
    rw [puO_0, xset_self] at go
    repeat refine x_step rfl ?_
    exact x_loc (by exact ⟨rfl, rfl, trivial⟩) go
/-- a row of 133 numbers is copied to another one -/
def mv1 (o z : Int → Int) (s i : Int) : Int → Int := fun k => if 0 ≤ k ∧ k < i then o (s + k) else z k
theorem mv1_s (o z : Int → Int) (s : Int) {i : Int} (h : 0 ≤ i) : upF (mv1 o z s i) i (o (s + i)) = mv1 o z s (i + 1) := by
  funext k
  unfold upF mv1
  by_cases e : k = i
  · rw [if_pos e, if_pos (by omega), e]
  · rw [if_neg e]
    by_cases g : 0 ≤ k ∧ k < i
    · rw [if_pos g, if_pos (by omega)]
    · rw [if_neg g, if_neg (by omega)]
theorem mv1_0 (o z : Int → Int) (s : Int) : mv1 o z s 0 = z := by
  funext k
  exact if_neg (by omega)
def unH (I : Nat → Int → Int) : Nat → Int → Int := xset (xup I 117 2 (I 117 2 - 1)) 118 (mv1 (I 119) (I 118) (133 * (I 117 2 - 1)) 133)
theorem cM_undo (I : Nat → Int → Int) (h0 : 0 ≤ I 117 2) (h1 : I 117 2 ≤ 5) : XR mM_undo [.inr 117] (hN I) (some (.inl (if I 117 2 = 0 then -5 else I 117 2 - 1))) (hN (if I 117 2 = 0 then I else unH I)) := by
  refine XRa.of (by decide) (Nat.le_of_ble_eq_true rfl) ?_
  repeat refine x_step rfl ?_
  refine x_eq rfl (by omega) (by omega) (fun hc => ?_) (fun hc => ?_)
  · rw [if_pos hc, if_pos hc]
    repeat refine x_step rfl ?_
    exact x_iret rfl rfl rfl rfl
  · rw [if_neg hc, if_neg hc]
    have e117 : xup I 117 2 (I 117 2 - 1) 117 2 = I 117 2 - 1 := by rw [xup_at, if_pos rfl]
    have e118 : xup I 117 2 (I 117 2 - 1) 118 = I 118 := xup_ne (by omega)
    have e119 : xup I 117 2 (I 117 2 - 1) 119 = I 119 := xup_ne (by omega)
    have loop : ∀ (n : Nat) (i : Int), i + n = 133 → 0 ≤ i → XE mM_undo (some (.inl (I 117 2 - 1))) (hN (unH I)) 26 [(1, .inl i), (0, .inr 117)] [.inl 133, .inl i] (hN (xset (xup I 117 2 (I 117 2 - 1)) 118 (mv1 (I 119) (I 118) (133 * (I 117 2 - 1)) i))) := by
      intro n
      induction n with
      | zero =>
        intro i a b
        refine x_le rfl (by omega) (by omega) (fun hc => ?_) (fun hc => absurd (by omega) hc)
        repeat refine x_step rfl ?_
        refine x_iret rfl rfl ?_ ?_
        · rw [xset_ne (by omega), e117]
        · unfold unH
          rw [show i = 133 by omega]
      | succ n ih =>
        intro i a b
        refine x_le rfl (by omega) (by omega) (fun hc => absurd hc (by omega)) (fun hc => ?_)
        repeat refine x_step rfl ?_
        rw [xset_ne (show (117 : Nat) ≠ 118 by omega), e117]
        refine x_ald (len := 664) rfl (by omega) (by omega) ?_
        rw [xset_ne (show (119 : Nat) ≠ 118 by omega), e119]
        refine x_ast (len := 132) rfl (by omega) (by omega) ?_
        rw [xup_set, xset_xset, xset_at, mv1_s _ _ _ b]
        repeat refine x_step rfl ?_
        exact x_loc (by exact ⟨rfl, rfl, trivial⟩) (ih (i + 1) (by omega) (by omega))
    have go := loop 133 0 (by omega) (by omega)
    rw [mv1_0, ← e118, xset_self] at go
    repeat refine x_step rfl ?_
    exact x_loc (by exact ⟨rfl, rfl, trivial⟩) go
def svH (I : Nat → Int → Int) : Nat → Int → Int := xup (xset I 120 (mv1 (I 118) (I 120) 0 133)) 117 4 1
theorem cM_save (I : Nat → Int → Int) (hb : bdR (I 118)) : XR mM_save [.inr 117] (hN I) (some (.inl (toS (I 118)))) (hN (svH I)) := by
  refine XRa.of (by decide) (Nat.le_of_ble_eq_true rfl) ?_
  have loop : ∀ (n : Nat) (i : Int), i + n = 133 → 0 ≤ i → XE mM_save (some (.inl (toS (I 118)))) (hN (svH I)) 6 [(1, .inl i), (0, .inr 117)] [.inl 133, .inl i] (hN (xset I 120 (mv1 (I 118) (I 120) 0 i))) := by
    intro n
    induction n with
    | zero =>
      intro i a b
      have e118 : svH I 118 = I 118 := by unfold svH; rw [xup_ne (by omega), xset_ne (by omega)]
      refine x_le rfl (by omega) (by omega) (fun hc => ?_) (fun hc => absurd (by omega) hc)
      repeat refine x_step rfl ?_
      refine x_putz (bi := 4) rfl rfl (by decide) (Or.inr rfl) ?_
      rw [show i = 133 by omega]
      show XEa mM_save 0 0 0 0 _ _ _ _ _ (hN (svH I))
      repeat refine x_step rfl ?_
      refine x_call rfl (cM_tilesOnBoard (svH I) (by rw [e118]; exact hb)) ?_
      rw [e118]
      exact x_iret rfl rfl rfl rfl
    | succ n ih =>
      intro i a b
      refine x_le rfl (by omega) (by omega) (fun hc => absurd hc (by omega)) (fun hc => ?_)
      repeat refine x_step rfl ?_
      refine x_ald (len := 132) rfl (by omega) (by omega) ?_
      rw [xset_ne (show (118 : Nat) ≠ 120 by omega)]
      refine x_ast (len := 132) rfl (by omega) (by omega) ?_
      have := mv1_s (I 118) (I 120) 0 b
      rw [show (0 : Int) + i = i by omega] at this
      rw [xup_set, xset_xset, xset_at, this]
      repeat refine x_step rfl ?_
      exact x_loc (by exact ⟨rfl, rfl, trivial⟩) (ih (i + 1) (by omega) (by omega))
  have go := loop 133 0 (by omega) (by omega)
  rw [mv1_0, xset_self] at go
  repeat refine x_step rfl ?_
  exact x_loc (by exact ⟨rfl, rfl, trivial⟩) go
def rsH (I : Nat → Int → Int) : Nat → Int → Int := xset (rcH I) 118 (mv1 (I 120) (I 118) 0 133)
theorem rcH_ne {I : Nat → Int → Int} {a : Nat} (h : a ≠ 117) (h2 : a ≠ 119) : rcH I a = I a := by unfold rcH; rw [xup_ne h, xset_ne h2]
theorem cM_restore (I : Nat → Int → Int) (h0 : 0 ≤ I 117 2) (h1 : I 117 2 ≤ 5) (hk : I 117 4 = 0 ∨ I 117 4 = 1) (hb : I 117 4 = 1 → bdR (I 120)) : XR mM_restore [.inr 117] (hN I) (some (.inl (if I 117 4 = 0 then -4 else toS (I 120)))) (hN (if I 117 4 = 0 then I else rsH I)) := by
  refine XRa.of (by decide) (Nat.le_of_ble_eq_true rfl) ?_
  repeat refine x_step rfl ?_
  refine x_eq rfl (by omega) (by omega) (fun hc => ?_) (fun hc => ?_)
  · rw [if_pos hc, if_pos hc]
    repeat refine x_step rfl ?_
    exact x_iret rfl rfl rfl rfl
  · rw [if_neg hc, if_neg hc]
    have hb2 := hb (by omega)
    have e120 : rcH I 120 = I 120 := rcH_ne (by omega) (by omega)
    have e118 : rcH I 118 = I 118 := rcH_ne (by omega) (by omega)
    have hm : ∀ j : Int, 0 ≤ j → j ≤ 80 → mv1 (I 120) (I 118) 0 133 j = I 120 j := fun j a b => by
      unfold mv1
      rw [if_pos (by omega), show (0 : Int) + j = j by omega]
    have hbm : bdR (mv1 (I 120) (I 118) 0 133) := fun j a b => by rw [hm j a b]; exact hb2 j a b
    have hto : toS (mv1 (I 120) (I 118) 0 133) = toS (I 120) := toS_c hm
    have loop : ∀ (n : Nat) (i : Int), i + n = 133 → 0 ≤ i → XE mM_restore (some (.inl (toS (I 120)))) (hN (rsH I)) 20 [(1, .inl i), (0, .inr 117)] [.inl 133, .inl i] (hN (xset (rcH I) 118 (mv1 (I 120) (I 118) 0 i))) := by
      intro n
      induction n with
      | zero =>
        intro i a b
        refine x_le rfl (by omega) (by omega) (fun hc => ?_) (fun hc => absurd (by omega) hc)
        repeat refine x_step rfl ?_
        rw [show i = 133 by omega]
        refine x_call rfl (cM_tilesOnBoard _ (by rw [xset_at]; exact hbm)) ?_
        rw [xset_at, hto]
        exact x_iret rfl rfl rfl rfl
      | succ n ih =>
        intro i a b
        refine x_le rfl (by omega) (by omega) (fun hc => absurd hc (by omega)) (fun hc => ?_)
        repeat refine x_step rfl ?_
        refine x_ald (len := 132) rfl (by omega) (by omega) ?_
        rw [xset_ne (show (120 : Nat) ≠ 118 by omega), e120]
        refine x_ast (len := 132) rfl (by omega) (by omega) ?_
        have := mv1_s (I 120) (I 118) 0 b
        rw [show (0 : Int) + i = i by omega] at this
        rw [xup_set, xset_xset, xset_at, this]
        repeat refine x_step rfl ?_
        exact x_loc (by exact ⟨rfl, rfl, trivial⟩) (ih (i + 1) (by omega) (by omega))
    have go := loop 133 0 (by omega) (by omega)
    rw [mv1_0, ← e118, xset_self] at go
    repeat refine x_step rfl ?_
    refine x_callv rfl (cM_record I h0 h1) ?_
    repeat refine x_step rfl ?_
    exact x_loc (by exact ⟨rfl, rfl, trivial⟩) go
