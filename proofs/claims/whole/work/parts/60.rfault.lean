/-! the fault of a text, in both -/
section RFL
variable {I : Nat → Int → Int}
theorem cM_findFault (h : TX I) {H0 : Nat → Int → Int} (hF0 : FP I H0) : ∃ J, XR mM_findFault [.inr 117] (hN H0) (some (.inl (ffF (cuS (I 111) (I 110 1)) (I 110 1) 80 0))) (hN J) ∧ FP I J := by
  have hcu := fun q => (h.cu q)
  have hul : ∀ q, cuS (I 111) (I 110 1) q ≠ 0 → q < I 110 1 := fun q w => ((h.cu q).2 w).2
  have t0 := h.1
  have t1 := h.2.1
  have t2 := h.2.2.1
  have hro := fun (X : Nat → Int → Int) (hX : FP I X) (q : Int) (hq : 0 ≤ q ∧ q ≤ 200) => cM_readOrder h hX q hq
  have e121 := fun q => congrFun h.cuM q
  generalize hu : cuS (I 111) (I 110 1) = u at *
  have loop : ∀ (n : Nat) (p : Int) (H : Nat → Int → Int), FP I H → 0 ≤ p → p ≤ I 110 1 → I 110 1 ≤ p + 4 * n → ∃ J, XE mM_findFault (some (.inl (ffF u (I 110 1) n p))) (hN J) 4 [(1, .inl p), (0, .inr 117)] [.inl p, .inr 117] (hN H) ∧ FP I J := by
    intro n
    induction n with
    | zero =>
      intro p H hF p0 p1 pn
      obtain ⟨K, k1, k2, -⟩ := hro H hF p (by omega)
      obtain ⟨r1, r2, r3⟩ := roE_R hul p0 p1
      have hup : u p = 0 := by
        by_cases g : u p = 0
        · exact g
        · have := hul p g; omega
      have ew : wdP u p = p := by
        unfold wdP
        rw [rwF, if_neg (by omega)]
      have er : roE u p = -1 - p := by
        unfold roE
        rw [if_neg (by omega)]
        have : wdE u p = -1 - p := by unfold wdE; rw [ew, if_pos (by omega)]
        rw [this, if_pos (by omega)]
      rw [er] at k1
      refine ⟨K, ?_, k2⟩
      refine x_call rfl k1 ?_
      repeat refine x_step rfl ?_
      refine x_le rfl (by omega) (by omega) (fun w => by omega) (fun w => ?_)
      repeat refine x_step rfl ?_
      exact x_iret rfl rfl (by show -1 - (-1 - p) = p; omega) rfl
    | succ n ih =>
      intro p H hF p0 p1 pn
      obtain ⟨K, k1, k2, -⟩ := hro H hF p (by omega)
      obtain ⟨r1, r2, r3⟩ := roE_R hul p0 p1
      have e6 : K 117 6 = I 110 1 := by rw [k2.2 6 (by omega), t2]
      have hrR : -400 ≤ roE u p ∧ roE u p ≤ 400 := by
        unfold psE at r2 r3
        by_cases w : roE u p < 0
        · rw [if_pos w] at r2 r3; omega
        · rw [if_neg w] at r2 r3; omega
      rw [ffF]
      by_cases w : roE u p < 0
      · rw [if_pos w]
        refine ⟨K, ?_, k2⟩
        refine x_call rfl k1 ?_
        repeat refine x_step rfl ?_
        refine x_le rfl (by omega) (by omega) (fun w2 => by omega) (fun w2 => ?_)
        repeat refine x_step rfl ?_
        exact x_iret rfl rfl rfl rfl
      · rw [if_neg w]
        obtain ⟨q1, q2⟩ := r1 (by omega)
        have pre : ∀ (v : Int) (J : Nat → Int → Int), XE mM_findFault (some (.inl v)) (hN J) 21 [(1, .inl (roE u p)), (0, .inr 117)] [.inl (I 110 1), .inl (roE u p)] (hN K) → XE mM_findFault (some (.inl v)) (hN J) 4 [(1, .inl p), (0, .inr 117)] [.inl p, .inr 117] (hN H) := by
          intro v J x
          refine x_call rfl k1 ?_
          repeat refine x_step rfl ?_
          refine x_le rfl (by omega) (by omega) (fun w2 => ?_) (fun w2 => by omega)
          repeat refine x_step rfl ?_
          rw [e6]
          exact x_loc (by exact ⟨rfl, rfl, trivial⟩) x
        by_cases g : roE u p = I 110 1
        · rw [if_pos g]
          refine ⟨K, pre _ _ ?_, k2⟩
          refine x_eq rfl (by omega) (by omega) (fun w2 => ?_) (fun w2 => absurd g w2)
          repeat refine x_step rfl ?_
          exact x_iret rfl rfl rfl rfl
        · rw [if_neg g]
          have hue : K 121 (roE u p) = u (roE u p) := by
            rw [k2.1 121 (by omega), ← e121 (roE u p)]
            unfold cuS
            rw [if_pos (by omega)]
          have huR := (hcu (roE u p)).1
          by_cases g2 : u (roE u p) = 44
          · rw [if_pos g2]
            obtain ⟨J, x1, x2⟩ := ih (roE u p + 1) K k2 (by omega) (by omega) (by omega)
            refine ⟨J, pre _ _ ?_, x2⟩
            refine x_eq rfl (by omega) (by omega) (fun w2 => absurd w2 g) (fun w2 => ?_)
            repeat refine x_step rfl ?_
            refine x_ald (len := 79) rfl (by omega) (by omega) ?_
            rw [hue]
            repeat refine x_step rfl ?_
            refine x_eq rfl (by omega) (by omega) (fun w3 => ?_) (fun w3 => absurd g2 w3)
            repeat refine x_step rfl ?_
            exact x_loc (by exact ⟨rfl, rfl, trivial⟩) x1
          · rw [if_neg g2]
            refine ⟨K, pre _ _ ?_, k2⟩
            refine x_eq rfl (by omega) (by omega) (fun w2 => absurd w2 g) (fun w2 => ?_)
            repeat refine x_step rfl ?_
            refine x_ald (len := 79) rfl (by omega) (by omega) ?_
            rw [hue]
            repeat refine x_step rfl ?_
            refine x_eq rfl (by omega) (by omega) (fun w3 => absurd w3 g2) (fun w3 => ?_)
            repeat refine x_step rfl ?_
            exact x_iret rfl rfl rfl rfl
  obtain ⟨J, x1, x2⟩ := loop 80 0 H0 hF0 (by omega) (by omega) (by omega)
  refine ⟨J, ?_, x2⟩
  refine XRa.of (by decide) (Nat.le_of_ble_eq_true rfl) ?_
  repeat refine x_step rfl ?_
  exact x_loc (by exact ⟨rfl, rfl, trivial⟩) x1
theorem FO.sim {J : Nat → Int → Int} (h : SIM I) (hF : FO I J) : SIM J := h.free (fun a w => hF.1 a (by omega)) hF.2 (fun f _ => by rw [hF.1 117 (by omega)])
theorem FP.sim {J : Nat → Int → Int} (h : SIM I) (hF : FP I J) : SIM J := h.free (fun a w => hF.1 a (by omega)) (by rw [hF.1 110 (by omega)]) (fun f w => hF.2 f (by omega))
theorem S_fault (h : SIM I) : SAM mB_fault mM_fault [] I := by
  obtain ⟨J1, x1, f1⟩ := cO_firstFault h.2.2.2.2.1
  have h1 := FO.sim h f1
  have e111 : J1 111 = I 111 := f1.1 111 (by omega)
  obtain ⟨J2, x2, f2⟩ := cM_findFault h1.2.2.2.2.1 (H0 := J1) ⟨fun _ _ => rfl, fun _ _ => rfl⟩
  rw [e111, f1.2] at x2
  refine ⟨ffF (cuS (I 111) (I 110 1)) (I 110 1) 80 0, J1, J2, ?_, ?_, FP.sim h1 f2⟩
  · refine XRa.of (by decide) (Nat.le_of_ble_eq_true rfl) ?_
    repeat refine x_step rfl ?_
    refine x_call rfl x1 ?_
    exact x_iret rfl rfl rfl rfl
  · refine XRa.of (by decide) (Nat.le_of_ble_eq_true rfl) ?_
    repeat refine x_step rfl ?_
    refine x_call rfl x2 ?_
    exact x_iret rfl rfl rfl rfl
end RFL
