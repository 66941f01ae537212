/-! what holds of the class and the reference between two calls -/
def HS (I : Nat → Int → Int) : Prop := 0 ≤ I 30 1 ∧ I 30 1 ≤ 5 ∧ 0 ≤ I 30 2 ∧ I 30 2 ≤ 5 ∧ I 117 2 = I 30 2 ∧ ∀ a : Int, 0 ≤ a → a < I 30 2 → GM I (rwS (I 30 1) a) (fun j => I 119 (133 * a + j)) ∧ WZ (fun j => I 119 (133 * a + j))
def SS (I : Nat → Int → Int) : Prop := (I 3 6 = 0 ∨ I 3 6 = 1) ∧ I 117 4 = I 3 6 ∧ (I 3 6 = 1 → GM I 17 (I 120) ∧ WZ (I 120))
def TX (I : Nat → Int → Int) : Prop := 0 ≤ I 110 1 ∧ I 110 1 ≤ 80 ∧ I 117 6 = I 110 1 ∧ ∀ j : Int, 0 ≤ j → j < I 110 1 → I 111 j = I 121 j ∧ 32 ≤ I 111 j ∧ I 111 j ≤ 126
def SIM (I : Nat → Int → Int) : Prop := GS I ∧ AS I ∧ HS I ∧ SS I ∧ TX I ∧ I 3 7 = I 117 7
/-- the heap behind a preparation -/
def prH (I : Nat → Int → Int) : Nat → Int → Int := cpH I (rwS (I 30 1) (I 30 2)) 4
theorem prH_ne {I : Nat → Int → Int} (h : HS I) {a : Nat} (ha : a < 32 ∨ 109 < a) : prH I a = I a := by
  have hc := rwS_cases (I 30 1) (I 30 2) (by have := h.1; have := h.2.2.1; omega)
  unfold prH
  exact cpH_ne (by omega)
theorem HS.prep {I J : Nat → Int → Int} (h : HS I) (hr : ∀ a : Nat, 32 ≤ a → a ≤ 109 → J a = prH I a) (h30 : J 30 = I 30) (h117 : J 117 2 = I 117 2) (h119 : J 119 = I 119) : HS J := by
  obtain ⟨x0, x1, s0, s1, e, hh⟩ := h
  have hc := rwS_cases (I 30 1) (I 30 2) (by omega)
  unfold HS
  rw [h30, h117, h119]
  refine ⟨x0, x1, s0, s1, e, fun a a0 a1 => ?_⟩
  obtain ⟨g, w⟩ := hh a a0 a1
  refine ⟨g.congr (fun b b0 b1 => ?_) (fun _ _ _ => rfl), w⟩
  have hc2 := rwS_cases (I 30 1) a (by omega)
  have hne : rwS (I 30 1) a ≠ rwS (I 30 1) (I 30 2) := by unfold rwS; omega
  rw [hr b (by omega) (by omega)]
  unfold prH
  generalize rwS (I 30 1) a = g1 at *
  generalize rwS (I 30 1) (I 30 2) = g2 at *
  exact cpH_ne (by omega)
theorem HS.keep {I J : Nat → Int → Int} (h : HS I) (hG : GS I) (hr : ∀ a : Nat, 32 ≤ a → a ≤ 109 → J a = prH I a) (h30 : ∀ f, J 30 f = kpH I 30 f) (h117 : J 117 2 = rcS (I 117 2) + 1) (h119 : J 119 = rcO (I 119) (I 118) (I 117 2)) : HS J := by
  obtain ⟨x0, x1, s0, s1, e, hh⟩ := h
  have hc := rwS_cases (I 30 1) (I 30 2) (by omega)
  have hcp : GM (prH I) (rwS (I 30 1) (I 30 2)) (I 118) := by
    unfold prH
    exact GM.cp (by unfold gpP; omega) hG.1
  -- a row that is not the prepared one
  have old : ∀ a : Int, 0 ≤ a → a < I 30 2 → GM J (rwS (I 30 1) a) (fun j => I 119 (133 * a + j)) ∧ WZ (fun j => I 119 (133 * a + j)) := fun a a0 a1 => by
    obtain ⟨g, w⟩ := hh a a0 a1
    refine ⟨g.congr (fun b b0 b1 => ?_) (fun _ _ _ => rfl), w⟩
    have hc2 := rwS_cases (I 30 1) a (by omega)
    have hne : rwS (I 30 1) a ≠ rwS (I 30 1) (I 30 2) := by unfold rwS; omega
    rw [hr b (by omega) (by omega)]
    unfold prH
    generalize rwS (I 30 1) a = g1 at *
    generalize rwS (I 30 1) (I 30 2) = g2 at *
    exact cpH_ne (by omega)
  have new : GM J (rwS (I 30 1) (I 30 2)) (I 118) := hcp.congr (fun b b0 b1 => hr b (by omega) (by omega)) (fun _ _ _ => rfl)
  by_cases h5 : I 30 2 < 5
  · have k1 : J 30 1 = I 30 1 := by rw [h30]; unfold kpH; rw [if_pos h5, xup_at, if_neg (by omega)]
    have k2 : J 30 2 = I 30 2 + 1 := by rw [h30]; unfold kpH; rw [if_pos h5, xup_at, if_pos rfl]
    have ers : rcS (I 117 2) = I 30 2 := by unfold rcS; rw [if_neg (by omega), e]
    have eO : ∀ k, J 119 k = if 133 * I 30 2 ≤ k ∧ k < 133 * I 30 2 + 133 then I 118 (k - 133 * I 30 2) else I 119 k := fun k => by
      rw [h119]
      unfold rcO puO
      rw [ers, if_neg (show ¬ I 117 2 = 5 by omega)]
    unfold HS
    rw [k1, k2, h117, ers]
    refine ⟨x0, x1, by omega, by omega, rfl, fun a a0 a1 => ?_⟩
    by_cases ea : a = I 30 2
    · have ez : ∀ j : Int, 0 ≤ j → j ≤ 132 → J 119 (133 * a + j) = I 118 j := fun j j0 j1 => by
        rw [eO, if_pos (by omega), ea, show 133 * I 30 2 + j - 133 * I 30 2 = j by omega]
      rw [← ea] at new
      exact ⟨new.congr (fun _ _ _ => rfl) ez, hG.2.congr ez⟩
    · have ez : ∀ j : Int, 0 ≤ j → j ≤ 132 → J 119 (133 * a + j) = I 119 (133 * a + j) := fun j j0 j1 => by
        rw [eO, if_neg (by omega)]
      obtain ⟨g, w⟩ := old a a0 (by omega)
      exact ⟨g.congr (fun _ _ _ => rfl) ez, w.congr ez⟩
  · have s5 : I 30 2 = 5 := by omega
    have k1 : J 30 1 = (I 30 1 + 1) % 6 := by rw [h30]; unfold kpH; rw [if_neg h5, xup_at, if_pos rfl]
    have k2 : J 30 2 = 5 := by rw [h30]; unfold kpH; rw [if_neg h5, xup_at, if_neg (by omega), s5]
    have ers : rcS (I 117 2) = 4 := by unfold rcS; rw [if_pos (by omega)]
    have eO : ∀ k, J 119 k = if 532 ≤ k ∧ k < 665 then I 118 (k - 532) else if 0 ≤ k ∧ k < 532 then I 119 (133 + k) else I 119 k := fun k => by
      rw [h119]
      unfold rcO puO shO
      rw [ers, if_pos (show I 117 2 = 5 by omega)]
      rfl
    have er : ∀ a : Int, 0 ≤ a → a ≤ 4 → rwS ((I 30 1 + 1) % 6) a = rwS (I 30 1) (a + 1) := fun a a0 a1 => by unfold rwS; omega
    unfold HS
    rw [k1, k2, h117, ers]
    refine ⟨by omega, by omega, by omega, by omega, rfl, fun a a0 a1 => ?_⟩
    rw [er a a0 (by omega)]
    by_cases ea : a = 4
    · have ez : ∀ j : Int, 0 ≤ j → j ≤ 132 → J 119 (133 * a + j) = I 118 j := fun j j0 j1 => by
        rw [eO, if_pos (by omega), ea, show 133 * 4 + j - 532 = j by omega]
      rw [s5, show (5 : Int) = a + 1 by omega] at new
      exact ⟨new.congr (fun _ _ _ => rfl) ez, hG.2.congr ez⟩
    · have ez : ∀ j : Int, 0 ≤ j → j ≤ 132 → J 119 (133 * a + j) = I 119 (133 * (a + 1) + j) := fun j j0 j1 => by
        rw [eO, if_neg (by omega), if_pos (by omega), show 133 + (133 * a + j) = 133 * (a + 1) + j by omega]
      obtain ⟨g, w⟩ := old (a + 1) (by omega) (by omega)
      exact ⟨g.congr (fun _ _ _ => rfl) ez, w.congr ez⟩
theorem SS.of {I J : Nat → Int → Int} (h : SS I) (h3 : J 3 6 = I 3 6) (h117 : J 117 4 = I 117 4) (hr : ∀ a : Nat, 17 ≤ a → a ≤ 27 → J a = I a) (h120 : J 120 = I 120) : SS J := by
  unfold SS at h ⊢
  rw [h3, h117, h120]
  exact ⟨h.1, h.2.1, fun w => ⟨(h.2.2 w).1.congr (fun a a0 a1 => hr a a0 a1) (fun _ _ _ => rfl), (h.2.2 w).2⟩⟩
theorem TX.of {I J : Nat → Int → Int} (h : TX I) (h110 : J 110 1 = I 110 1) (h117 : J 117 6 = I 117 6) (h111 : J 111 = I 111) (h121 : J 121 = I 121) : TX J := by
  unfold TX at h ⊢
  rw [h110, h117, h111, h121]
  exact h
/-- an action that changes nothing but the row that is no part of the history -/
theorem SIM.prep {I J : Nat → Int → Int} (h : SIM I) (hr : ∀ a : Nat, 32 ≤ a → a ≤ 109 → J a = prH I a) (hs : ∀ a : Nat, a ≤ 31 ∨ a = 110 ∨ a = 111 ∨ (117 ≤ a ∧ a ≤ 121) → J a = I a) : SIM J := by
  obtain ⟨hG, hA, hH, hS, hT, h7⟩ := h
  have e := fun a w => hs a w
  refine ⟨⟨hG.1.congr (fun a a0 a1 => hs a (by omega)) (fun j _ _ => by rw [hs 118 (by omega)]), by rw [hs 118 (by omega)]; exact hG.2⟩, fun k a b => by rw [hs 16 (by omega)]; exact hA k a b, hH.prep hr (hs 30 (by omega)) (by rw [hs 117 (by omega)]) (hs 119 (by omega)), hS.of (by rw [hs 3 (by omega)]) (by rw [hs 117 (by omega)]) (fun a a0 a1 => hs a (by omega)) (hs 120 (by omega)), hT.of (by rw [hs 110 (by omega)]) (by rw [hs 117 (by omega)]) (hs 111 (by omega)) (hs 121 (by omega)), by rw [hs 3 (by omega), hs 117 (by omega)]; exact h7⟩
/-- an action that puts a state down -/
theorem SIM.keep {I J : Nat → Int → Int} (h : SIM I) (hg : GM J 4 (J 118)) (hw : WZ (J 118)) (ha : AS J) (hr : ∀ a : Nat, 32 ≤ a → a ≤ 109 → J a = prH I a) (h30 : J 30 = kpH I 30) (h119 : J 119 = rcH I 119) (h117 : ∀ f, J 117 f = rcH I 117 f) (hs : ∀ a : Nat, a = 3 ∨ (17 ≤ a ∧ a ≤ 27) ∨ a = 110 ∨ a = 111 ∨ a = 120 ∨ a = 121 → J a = I a) : SIM J := by
  obtain ⟨hG, hA, hH, hS, hT, h7⟩ := h
  have e2 : rcH I 117 2 = rcS (I 117 2) + 1 := by unfold rcH; rw [xup_at, if_pos rfl]
  have e4 : ∀ f, f ≠ 2 → rcH I 117 f = I 117 f := fun f w => by unfold rcH; rw [xup_at, if_neg w, xset_ne (by omega)]
  have e9 : rcH I 119 = rcO (I 119) (I 118) (I 117 2) := by unfold rcH; rw [xup_ne (by omega), xset_at]
  refine ⟨⟨hg, hw⟩, ha, hH.keep hG hr (fun f => by rw [h30]) (by rw [h117, e2]) (by rw [h119, e9]), hS.of (by rw [hs 3 (by omega)]) (by rw [h117, e4 _ (by omega)]) (fun a a0 a1 => hs a (by omega)) (hs 120 (by omega)), hT.of (by rw [hs 110 (by omega)]) (by rw [h117, e4 _ (by omega)]) (hs 111 (by omega)) (hs 121 (by omega)), by rw [hs 3 (by omega), h117, e4 _ (by omega)]; exact h7⟩
/-- both answer alike, and what holds between two calls holds again -/
def SAM (mB mM : Nat) (args : List XV) (I : Nat → Int → Int) : Prop := ∃ v J1 J2, XR mB (.inr 3 :: args) (hN I) (some (.inl v)) (hN J1) ∧ XR mM (.inr 117 :: args) (hN J1) (some (.inl v)) (hN J2) ∧ SIM J2
