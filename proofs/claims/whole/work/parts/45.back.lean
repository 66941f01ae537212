/-! undo, save, restore -/
theorem mv1_in {o z : Int → Int} {s : Int} {j : Int} (h0 : 0 ≤ j) (h1 : j ≤ 132) : mv1 o z s 133 j = o (s + j) := if_pos ⟨h0, by omega⟩
theorem S_undo {I : Nat → Int → Int} (h : SIM I) : SAM mB_undo mM_undo [] I := by
  obtain ⟨x0, x1, s0, s1, sm⟩ := h.x0
  have hM := cM_undo I (by omega) (by omega)
  by_cases hz : I 30 2 = 0
  · rw [if_pos (by omega), if_pos (by omega)] at hM
    refine S_err _ _ h (-5) ?_ hM
    refine XRa.of (by decide) (Nat.le_of_ble_eq_true rfl) ?_
    repeat refine x_step rfl ?_
    refine x_eq rfl (by omega) (by omega) (fun w => ?_) (fun w => absurd hz w)
    repeat refine x_step rfl ?_
    exact x_iret rfl rfl rfl rfl
  · clear hM
    obtain ⟨hg, hw⟩ := h.2.2.1.2.2.2.2.2 (I 30 2 - 1) (by omega) (by omega)
    have hc := rwS_cases (I 30 1) (I 30 2 - 1) (by omega)
    have hb := cH_takeBack I x0 x1 (by omega) s1
    have hrows : ∀ a : Int, 0 ≤ a → a < I 30 2 - 1 → rwS (I 30 1) a = 32 ∨ rwS (I 30 1) a = 45 ∨ rwS (I 30 1) a = 58 ∨ rwS (I 30 1) a = 71 ∨ rwS (I 30 1) a = 84 ∨ rwS (I 30 1) a = 97 := fun a a0 _ => rwS_cases (I 30 1) a (by omega)
    have hcp : GM (cpH I 4 (rwS (I 30 1) (I 30 2 - 1))) 4 (fun j => I 119 (133 * (I 30 2 - 1) + j)) := GM.cp (by unfold gpP; omega) hg
    have hne : ∀ a : Nat, a < 4 ∨ 14 < a → a ≠ 30 → xup (cpH I 4 (rwS (I 30 1) (I 30 2 - 1))) 30 2 (I 30 2 - 1) a = I a := fun a w w2 => by rw [xup_ne w2, cpH_ne (by omega)]
    have h4 : ∀ a : Nat, 4 ≤ a → a ≤ 14 → xup (cpH I 4 (rwS (I 30 1) (I 30 2 - 1))) 30 2 (I 30 2 - 1) a = cpH I 4 (rwS (I 30 1) (I 30 2 - 1)) a := fun a w w2 => xup_ne (by omega)
    have h30 : xup (cpH I 4 (rwS (I 30 1) (I 30 2 - 1))) 30 2 (I 30 2 - 1) 30 2 = I 30 2 - 1 := by rw [xup_at, if_pos rfl]
    have h31 : xup (cpH I 4 (rwS (I 30 1) (I 30 2 - 1))) 30 2 (I 30 2 - 1) 30 1 = I 30 1 := by rw [xup_at, if_neg (by omega), cpH_ne (by omega)]
    generalize xup (cpH I 4 (rwS (I 30 1) (I 30 2 - 1))) 30 2 (I 30 2 - 1) = X at *
    have hM := cM_undo X (by rw [hne 117 (by omega) (by omega)]; omega) (by rw [hne 117 (by omega) (by omega)]; omega)
    rw [hne 117 (by omega) (by omega), if_neg (by omega), if_neg (by omega), sm] at hM
    refine ⟨I 30 2 - 1, X, unH X, ?_, hM, ?_⟩
    · refine XRa.of (by decide) (Nat.le_of_ble_eq_true rfl) ?_
      repeat refine x_step rfl ?_
      refine x_eq rfl (by omega) (by omega) (fun w => absurd w hz) (fun w => ?_)
      repeat refine x_step rfl ?_
      refine x_callv rfl hb ?_
      repeat refine x_step rfl ?_
      exact x_iret rfl rfl h30 rfl
    · have u : ∀ a : Nat, a ≠ 117 → a ≠ 118 → unH X a = X a := fun a w w2 => by unfold unH; rw [xset_ne w2, xup_ne w]
      have u7 : ∀ f : Int, f ≠ 2 → unH X 117 f = I 117 f := fun f w => by unfold unH; rw [xset_ne (by omega), xup_at, if_neg w, hne 117 (by omega) (by omega)]
      have u2 : unH X 117 2 = I 30 2 - 1 := by unfold unH; rw [xset_ne (by omega), xup_at, if_pos rfl, hne 117 (by omega) (by omega), sm]
      have u8 : ∀ j : Int, 0 ≤ j → j ≤ 132 → unH X 118 j = I 119 (133 * (I 30 2 - 1) + j) := fun j a b => by
        unfold unH
        rw [xset_at, mv1_in a b, hne 117 (by omega) (by omega), sm, hne 119 (by omega) (by omega)]
      obtain ⟨hG, hA, hH, hS, hT, h7⟩ := h
      refine ⟨⟨?_, ?_⟩, ?_, ?_, ?_, ?_, ?_⟩
      · exact hcp.congr (fun a a0 a1 => by rw [u a (by omega) (by omega), h4 a a0 (by omega)]) u8
      · exact hw.congr u8
      · intro k a b
        rw [u 16 (by omega) (by omega), hne 16 (by omega) (by omega)]
        exact hA k a b
      · unfold HS
        rw [u 30 (by omega) (by omega), h30, h31, u2, u 119 (by omega) (by omega), hne 119 (by omega) (by omega)]
        refine ⟨x0, x1, by omega, by omega, rfl, fun a a0 a1 => ?_⟩
        obtain ⟨g, w⟩ := hH.2.2.2.2.2 a a0 (by omega)
        have hc2 := hrows a a0 a1
        exact ⟨g.congr (fun b b0 b1 => by rw [u b (by omega) (by omega), hne b (by omega) (by omega)]) (fun _ _ _ => rfl), w⟩
      · exact hS.of (by rw [u 3 (by omega) (by omega), hne 3 (by omega) (by omega)]) (u7 4 (by omega)) (fun a a0 a1 => by rw [u a (by omega) (by omega), hne a (by omega) (by omega)]) (by rw [u 120 (by omega) (by omega), hne 120 (by omega) (by omega)])
      · exact hT.of (by rw [u 110 (by omega) (by omega), hne 110 (by omega) (by omega)]) (u7 6 (by omega)) (by rw [u 111 (by omega) (by omega), hne 111 (by omega) (by omega)]) (by rw [u 121 (by omega) (by omega), hne 121 (by omega) (by omega)])
      · rw [u 3 (by omega) (by omega), hne 3 (by omega) (by omega), u7 7 (by omega)]
        exact h7
theorem S_save {I : Nat → Int → Int} (h : SIM I) : SAM mB_save mM_save [] I := by
  have hG := h.1
  have hb := cG_copyFrom 17 4 (by unfold gpP; omega) I
  have hcp : GM (cpH I 17 4) 17 (I 118) := GM.cp (by unfold gpP; omega) hG.1
  have hne : ∀ a : Nat, a < 17 ∨ 27 < a → a ≠ 3 → xup (cpH I 17 4) 3 6 1 a = I a := fun a w w2 => by rw [xup_ne w2, cpH_ne (by omega)]
  have h17 : ∀ a : Nat, 17 ≤ a → a ≤ 27 → xup (cpH I 17 4) 3 6 1 a = cpH I 17 4 a := fun a w w2 => xup_ne (by omega)
  have h36 : xup (cpH I 17 4) 3 6 1 3 6 = 1 := by rw [xup_at, if_pos rfl]
  have h37 : xup (cpH I 17 4) 3 6 1 3 7 = I 3 7 := by rw [xup_at, if_neg (by omega), cpH_ne (by omega)]
  have hcl : XR mB_save [.inr 3] (hN I) (some (.inl (toS (I 118)))) (hN (xup (cpH I 17 4) 3 6 1)) := by
    refine XRa.of (by decide) (Nat.le_of_ble_eq_true rfl) ?_
    repeat refine x_step rfl ?_
    refine x_callv rfl hb ?_
    repeat refine x_step rfl ?_
    refine x_putz (bi := 6) rfl rfl (by decide) (Or.inr rfl) ?_
    repeat refine x_step rfl ?_
    have e8 : xup (cpH I 17 4) 3 6 1 8 = I 8 := hne 8 (by omega) (by omega)
    refine x_call rfl (cS_tilesOn (xup (cpH I 17 4) 3 6 1) (by rw [e8]; exact hG.bd8)) ?_
    rw [e8]
    exact x_iret rfl rfl (toS_c hG.be) rfl
  generalize xup (cpH I 17 4) 3 6 1 = X at *
  have e118 : X 118 = I 118 := hne 118 (by omega) (by omega)
  have hM := cM_save X (by rw [e118]; exact hG.2.bd)
  rw [e118] at hM
  have u : ∀ a : Nat, a ≠ 117 → a ≠ 120 → svH X a = X a := fun a w w2 => by unfold svH; rw [xup_ne w, xset_ne w2]
  have u7 : ∀ f : Int, f ≠ 4 → svH X 117 f = I 117 f := fun f w => by unfold svH; rw [xup_at, if_neg w, xset_ne (by omega), hne 117 (by omega) (by omega)]
  have u4 : svH X 117 4 = 1 := by unfold svH; rw [xup_at, if_pos rfl]
  have u0 : ∀ j : Int, 0 ≤ j → j ≤ 132 → svH X 120 j = I 118 j := fun j a b => by
    unfold svH
    rw [xup_ne (by omega), xset_at, mv1_in a b, e118, show (0 : Int) + j = j by omega]
  refine ⟨_, X, svH X, hcl, hM, ?_⟩
  obtain ⟨_, hA, hH, hS, hT, h7⟩ := h
  refine ⟨⟨hG.1.congr (fun a a0 a1 => by rw [u a (by omega) (by omega), hne a (by omega) (by omega)]) (fun j _ _ => by rw [u 118 (by omega) (by omega), e118]), by rw [u 118 (by omega) (by omega), e118]; exact hG.2⟩, ?_, ?_, ?_, ?_, ?_⟩
  · intro k a b
    rw [u 16 (by omega) (by omega), hne 16 (by omega) (by omega)]
    exact hA k a b
  · unfold HS at hH ⊢
    rw [u 30 (by omega) (by omega), hne 30 (by omega) (by omega), u7 2 (by omega), u 119 (by omega) (by omega), hne 119 (by omega) (by omega)]
    refine ⟨hH.1, hH.2.1, hH.2.2.1, hH.2.2.2.1, hH.2.2.2.2.1, fun a a0 a1 => ?_⟩
    have hc := rwS_cases (I 30 1) a (by have := hH.1; omega)
    obtain ⟨g, w⟩ := hH.2.2.2.2.2 a a0 a1
    exact ⟨g.congr (fun b b0 b1 => by rw [u b (by omega) (by omega), hne b (by omega) (by omega)]) (fun _ _ _ => rfl), w⟩
  · unfold SS
    rw [u 3 (by omega) (by omega), h36, u4]
    exact ⟨Or.inr rfl, rfl, fun _ => ⟨hcp.congr (fun a a0 a1 => by rw [u a (by omega) (by omega), h17 a a0 a1]) u0, hG.2.congr u0⟩⟩
  · exact hT.of (by rw [u 110 (by omega) (by omega), hne 110 (by omega) (by omega)]) (u7 6 (by omega)) (by rw [u 111 (by omega) (by omega), hne 111 (by omega) (by omega)]) (by rw [u 121 (by omega) (by omega), hne 121 (by omega) (by omega)])
  · rw [u 3 (by omega) (by omega), h37, u7 7 (by omega)]
    exact h7
theorem S_restore {I : Nat → Int → Int} (h : SIM I) : SAM mB_restore mM_restore [] I := by
  obtain ⟨x0, x1, s0, s1, sm⟩ := h.x0
  have hS := h.2.2.2.1
  have h36 := hS.1
  by_cases hz : I 3 6 = 0
  · refine S_err _ _ h (-4) ?_ ?_
    · refine XRa.of (by decide) (Nat.le_of_ble_eq_true rfl) ?_
      repeat refine x_step rfl ?_
      refine x_eq rfl (by omega) (by omega) (fun w => ?_) (fun w => absurd hz w)
      repeat refine x_step rfl ?_
      exact x_iret rfl rfl rfl rfl
    · have hM := cM_restore I (by omega) (by omega) (by rw [hS.2.1]; exact hS.1) (fun w => by have := hS.2.1; omega)
      rw [if_pos (by rw [hS.2.1]; exact hz), if_pos (by rw [hS.2.1]; exact hz)] at hM
      exact hM
  · obtain ⟨hg17, hw17⟩ := hS.2.2 (by omega)
    have p : ∀ a : Nat, a < 32 ∨ 109 < a → prH I a = I a := fun a w => prH_ne h.2.2.1 w
    have k : ∀ a : Nat, a ≠ 30 → kpH (prH I) a = prH I a := fun a w => kpH_ne w
    have hg2 : GM (kpH (prH I)) 17 (I 120) := hg17.congr (fun a a0 a1 => by rw [k a (by omega), p a (by omega)]) (fun _ _ _ => rfl)
    have hcp : GM (cpH (kpH (prH I)) 4 17) 4 (I 120) := GM.cp (by unfold gpP; omega) hg2
    have hne : ∀ a : Nat, a < 4 ∨ 14 < a → cpH (kpH (prH I)) 4 17 a = kpH (prH I) a := fun a w => cpH_ne (by omega)
    have hcl : XR mB_restore [.inr 3] (hN I) (some (.inl (toS (I 120)))) (hN (cpH (kpH (prH I)) 4 17)) := by
      refine XRa.of (by decide) (Nat.le_of_ble_eq_true rfl) ?_
      repeat refine x_step rfl ?_
      refine x_eq rfl (by omega) (by omega) (fun w => absurd w hz) (fun w => ?_)
      repeat refine x_step rfl ?_
      refine x_callv rfl (cH_prepare I x0 x1 s0 s1) ?_
      repeat refine x_step rfl ?_
      refine x_callv rfl (cH_keep (prH I) (by rw [p 30 (by omega)]; exact x0) (by rw [p 30 (by omega)]; exact x1) (by rw [p 30 (by omega)]; exact s0) (by rw [p 30 (by omega)]; exact s1)) ?_
      repeat refine x_step rfl ?_
      refine x_callv rfl (cG_copyFrom 4 17 (by unfold gpP; omega) (kpH (prH I))) ?_
      repeat refine x_step rfl ?_
      have e8 : bdE (cpH (kpH (prH I)) 4 17 8) (I 120) := hcp.b
      refine x_call rfl (cS_tilesOn (cpH (kpH (prH I)) 4 17) (fun j a b => by rw [e8 j a b]; exact hw17.bd j a b)) ?_
      exact x_iret rfl rfl (toS_c e8) rfl
    generalize cpH (kpH (prH I)) 4 17 = X at *
    have q : ∀ a : Nat, (a < 4 ∨ 14 < a) → (a < 32 ∨ 109 < a) → a ≠ 30 → X a = I a := fun a w w2 w3 => by rw [hne a w, k a w3, p a w2]
    have hM := cM_restore X (by rw [q 117 (by omega) (by omega) (by omega)]; omega) (by rw [q 117 (by omega) (by omega) (by omega)]; omega) (by rw [q 117 (by omega) (by omega) (by omega), hS.2.1]; exact hS.1) (fun _ => by rw [q 120 (by omega) (by omega) (by omega)]; exact hw17.bd)
    rw [q 117 (by omega) (by omega) (by omega), hS.2.1, if_neg hz, if_neg hz, q 120 (by omega) (by omega) (by omega)] at hM
    refine ⟨_, X, rsH X, hcl, hM, ?_⟩
    have hc := rcH_c (q 117 (by omega) (by omega) (by omega)) (q 118 (by omega) (by omega) (by omega)) (q 119 (by omega) (by omega) (by omega))
    have u : ∀ a : Nat, a ≠ 117 → a ≠ 119 → a ≠ 118 → rsH X a = X a := fun a w w2 w3 => by unfold rsH; rw [xset_ne w3, rcH_ne w w2]
    have u8 : ∀ j : Int, 0 ≤ j → j ≤ 132 → rsH X 118 j = I 120 j := fun j a b => by
      unfold rsH
      rw [xset_at, mv1_in a b, q 120 (by omega) (by omega) (by omega), show (0 : Int) + j = j by omega]
    refine h.keep (hcp.congr (fun a a0 a1 => u a (by omega) (by omega) (by omega)) u8) (hw17.congr u8) (fun j a b => ?_) (fun a a0 a1 => ?_) ?_ ?_ ?_ (fun a w => ?_)
    · rw [u 16 (by omega) (by omega) (by omega), q 16 (by omega) (by omega) (by omega)]
      exact h.2.1 j a b
    · rw [u a (by omega) (by omega) (by omega), hne a (by omega), k a (by omega)]
    · rw [u 30 (by omega) (by omega) (by omega), hne 30 (by omega)]
      exact kpH_30 (p 30 (by omega))
    · unfold rsH
      rw [xset_ne (by omega), hc.2]
    · intro f
      unfold rsH
      rw [xset_ne (by omega), hc.1]
    · rw [u a (by omega) (by omega) (by omega), q a (by omega) (by omega) (by omega)]
