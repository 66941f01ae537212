/-! plays and best -/
section PB
variable {I : Nat → Int → Int}
/-- what both searches leave -/
theorem both (h : SIM I) : ∃ J1 J2, XR mF_look [.inr 114, .inr 4] (hN I) none (hN J1) ∧ XR mM_findPlays [.inr 117] (hN J1) none (hN J2) ∧ SIM J2 ∧ J2 117 14 = J1 114 1 ∧ 0 ≤ J1 114 1 ∧ J1 114 1 ≤ 100000 ∧ (J1 114 1 = 0 → J2 117 10 = -5 ∧ J2 117 11 = -5 ∧ J2 117 12 = -5 ∧ J2 117 13 = -5) ∧ (J1 114 1 ≠ 0 → J2 117 10 = J1 114 2 ∧ J2 117 11 = J1 114 3 / 2 ∧ J2 117 12 = J1 114 3 % 2 ∧ J2 117 13 = J1 114 4 ∧ 0 ≤ J1 114 3 ∧ J1 114 3 < 162) := by
  have hmn := h.1.2.mn
  obtain ⟨J1, x1, f1, c1, b1⟩ := cF_look I h
  have h1 := FS.sim h f1
  have e118 : J1 118 = I 118 := f1 118 (by omega) (by omega) (by omega)
  obtain ⟨J2, x2, f2, c2, b2⟩ := cM_findPlays J1 h1
  have hR := cnC_R (PO I) (I 118 112).toNat 0
  have ePO : PO J1 = PO I := by
    funext a b
    unfold PO
    rw [e118, inM_c e118]
  have eSO : SO J1 = SO I := by
    funext a b
    unfold SO
    rw [e118]
  rw [e118, ePO, eSO] at b2
  rw [e118, ePO, cn_eq] at c2
  obtain ⟨bp, m1, m2, m3⟩ := b2
  have ef : J2 117 14 = J1 114 1 := by rw [c1, c2]
  have m1' := m1.dd (D' := DC (I 118 112).toNat 0) (fun a b => (DM_C (by omega) a b).symm)
  refine ⟨J1, J2, x1, x2, FR.sim h1 f2, ef, by omega, by omega, fun w => m3 (by omega), fun w => ?_⟩
  obtain ⟨e1, e2, e3⟩ := m1'.one b1 (by omega) w
  obtain ⟨d1, -, -⟩ := b1.mem w
  obtain ⟨g1, g2⟩ := m2 (by omega)
  unfold DC at d1
  rw [g1, g2, e1, e2, e3]
  exact ⟨rfl, rfl, rfl, rfl, d1.2.1, d1.2.2.1⟩
theorem S_plays (h : SIM I) : SAM mB_plays mM_plays [] I := by
  obtain ⟨J1, J2, x1, x2, hS, ef, -⟩ := both h
  refine ⟨J1 114 1, J1, J2, ?_, ?_, hS⟩
  · refine XRa.of (by decide) (Nat.le_of_ble_eq_true rfl) ?_
    repeat refine x_step rfl ?_
    refine x_callv rfl x1 ?_
    repeat refine x_step rfl ?_
    exact x_iret rfl rfl rfl rfl
  · refine XRa.of (by decide) (Nat.le_of_ble_eq_true rfl) ?_
    repeat refine x_step rfl ?_
    refine x_callv rfl x2 ?_
    repeat refine x_step rfl ?_
    exact x_iret rfl rfl ef rfl
theorem S_best (h : SIM I) (x : Int) (hx : InR x) : SAM mB_best mM_best [.inl x] I := by
  by_cases hw : 0 ≤ x ∧ x ≤ 3
  · obtain ⟨J1, J2, x1, x2, hS, ef, f0, f9, q0, q1⟩ := both h
    -- the reference's answer
    have ref : ∀ v : Int, v = (if x = 0 then J2 117 10 else if x = 1 then J2 117 11 else if x = 2 then J2 117 12 else J2 117 13) → XR mM_best [.inr 117, .inl x] (hN J1) (some (.inl v)) (hN J2) := by
      intro v hv
      refine XRa.of (by decide) (Nat.le_of_ble_eq_true rfl) ?_
      repeat refine x_step rfl ?_
      refine x_call rfl (c_in _ x 0 3 hx (by omega) (by omega)) ?_
      rw [if_pos hw]
      refine x_eq rfl (by omega) (by omega) (fun w => by omega) (fun w => ?_)
      repeat refine x_step rfl ?_
      refine x_callv rfl x2 ?_
      repeat refine x_step rfl ?_
      refine x_eq rfl (by omega) (by omega) (fun w0 => ?_) (fun w0 => ?_)
      · repeat refine x_step rfl ?_
        exact x_iret rfl rfl (by rw [hv, if_pos w0]) rfl
      · rw [if_neg w0] at hv
        repeat refine x_step rfl ?_
        refine x_eq rfl (by omega) (by omega) (fun w1 => ?_) (fun w1 => ?_)
        · repeat refine x_step rfl ?_
          exact x_iret rfl rfl (by rw [hv, if_pos w1]) rfl
        · rw [if_neg w1] at hv
          repeat refine x_step rfl ?_
          refine x_eq rfl (by omega) (by omega) (fun w2 => ?_) (fun w2 => ?_)
          · repeat refine x_step rfl ?_
            exact x_iret rfl rfl (by rw [hv, if_pos w2]) rfl
          · rw [if_neg w2] at hv
            repeat refine x_step rfl ?_
            exact x_iret rfl rfl hv.symm rfl
    by_cases hf : J1 114 1 = 0
    · obtain ⟨a1, a2, a3, a4⟩ := q0 hf
      refine ⟨-5, J1, J2, ?_, ref _ (by rw [a1, a2, a3, a4]; split <;> first | rfl | (split <;> first | rfl | (split <;> rfl))), hS⟩
      refine XRa.of (by decide) (Nat.le_of_ble_eq_true rfl) ?_
      repeat refine x_step rfl ?_
      refine x_lt rfl (by omega) (by omega) (fun w => by omega) (fun w => ?_)
      repeat refine x_step rfl ?_
      refine x_le rfl (by omega) (by omega) (fun w => ?_) (fun w => by omega)
      repeat refine x_step rfl ?_
      refine x_callv rfl x1 ?_
      repeat refine x_step rfl ?_
      refine x_eq rfl (by omega) (by omega) (fun w => ?_) (fun w => absurd hf w)
      repeat refine x_step rfl ?_
      exact x_iret rfl rfl rfl rfl
    · obtain ⟨a1, a2, a3, a4, a5, a6⟩ := q1 hf
      refine ⟨if x = 0 then J2 117 10 else if x = 1 then J2 117 11 else if x = 2 then J2 117 12 else J2 117 13, J1, J2, ?_, ref _ rfl, hS⟩
      refine XRa.of (by decide) (Nat.le_of_ble_eq_true rfl) ?_
      repeat refine x_step rfl ?_
      refine x_lt rfl (by omega) (by omega) (fun w => by omega) (fun w => ?_)
      repeat refine x_step rfl ?_
      refine x_le rfl (by omega) (by omega) (fun w => ?_) (fun w => by omega)
      repeat refine x_step rfl ?_
      refine x_callv rfl x1 ?_
      repeat refine x_step rfl ?_
      refine x_eq rfl (by omega) (by omega) (fun w => absurd w hf) (fun w => ?_)
      have hc : x = 0 ∨ x = 1 ∨ x = 2 ∨ x = 3 := by omega
      rcases hc with rfl | rfl | rfl | rfl
      · repeat refine x_step rfl ?_
        refine x_tswI (tgt := 64) rfl (by omega) (by omega) (by omega) rfl (by decide) ?_
        repeat refine x_step rfl ?_
        exact x_iret rfl rfl (by rw [if_pos rfl, a1]) rfl
      · repeat refine x_step rfl ?_
        refine x_tswI (tgt := 72) rfl (by omega) (by omega) (by omega) rfl (by decide) ?_
        repeat refine x_step rfl ?_
        refine x_div rfl (by omega) (by omega) (by omega) (by omega) ?_
        exact x_iret rfl rfl (by rw [if_neg (by omega), if_pos rfl, a2]) rfl
      · repeat refine x_step rfl ?_
        refine x_tswI (tgt := 82) rfl (by omega) (by omega) (by omega) rfl (by decide) ?_
        repeat refine x_step rfl ?_
        refine x_rem rfl (by omega) (by omega) (by omega) (by omega) ?_
        exact x_iret rfl rfl (by rw [if_neg (by omega), if_neg (by omega), if_pos rfl, a3]) rfl
      · repeat refine x_step rfl ?_
        refine x_tswO (tgt := 92) rfl (by omega) (by omega) (by decide) ?_
        repeat refine x_step rfl ?_
        exact x_iret rfl rfl (by rw [if_neg (by omega), if_neg (by omega), if_neg (by omega), a4]) rfl
  · refine S_err _ _ h (-2) ?_ ?_
    · refine XRa.of (by decide) (Nat.le_of_ble_eq_true rfl) ?_
      repeat refine x_step rfl ?_
      refine x_lt rfl (by omega) (by omega) (fun w => ?_) (fun w => ?_)
      · repeat refine x_step rfl ?_
        exact x_iret rfl rfl rfl rfl
      · repeat refine x_step rfl ?_
        refine x_le rfl (by omega) (by omega) (fun w => by omega) (fun w => ?_)
        repeat refine x_step rfl ?_
        exact x_iret rfl rfl rfl rfl
    · refine XRa.of (by decide) (Nat.le_of_ble_eq_true rfl) ?_
      repeat refine x_step rfl ?_
      refine x_call rfl (c_in _ x 0 3 hx (by omega) (by omega)) ?_
      rw [if_neg hw]
      refine x_eq rfl (by omega) (by omega) (fun w => ?_) (fun w => absurd rfl w)
      repeat refine x_step rfl ?_
      exact x_iret rfl rfl rfl rfl
end PB
