/-! an order is carried out: the reference -/
section CARM
variable {H : Nat → Int → Int} {z : Int → Int} {sg c q d : Int}
theorem cM_carryOut (hz : H 118 = z) (hw : WZ z) (h15 : H 117 15 = c) (hl : 0 < lnS c) (hc : InR c) (hsg : InR sg) (h5 : ¬ (sg = 43 ∨ sg = 45) → H 117 16 = q ∧ H 117 17 = d ∧ 0 ≤ q ∧ q ≤ 80 ∧ (d = 0 ∨ d = 1)) : ∃ J, XR mM_carryOut [.inr 117, .inl sg] (hN H) (some (.inl (if (caV z sg c q d).1 < 0 then (caV z sg c q d).1 else 0))) (hN J) ∧ J 118 = (caV z sg c q d).2 ∧ ∀ a : Nat, a ≠ 118 → a ≠ 122 → a ≠ 123 → J a = H a := by
  have hwm : wdM H := by
    unfold wdM
    rw [hz]
    exact ⟨hw.mn.1, hw.mn.2, fun k a b => (hw.wd k a b).2⟩
  have eno : noM H c = noM (fun _ => z) c := by unfold noM; rw [hz]
  have hnR := noM_R H hwm.1 hwm.2.1 c
  rw [eno, hz] at hnR
  have hmn := hw.mn
  by_cases s1 : sg = 43
  · rw [caV_p s1]
    have hwn := cM_whyNoNewWord H hwm c hc
    have ewn : wnM H c = if 0 ≤ noM (fun _ => z) c then -4 else if z 112 = 20 then -3 else 0 := by unfold wnM; rw [eno, hz]
    rw [ewn] at hwn
    have pre : ∀ (v x : Int) (J : Nat → Int → Int), XR mM_whyNoNewWord [.inr 117, .inl c] (hN H) (some (.inl x)) (hN H) → XE mM_carryOut (some (.inl v)) (hN J) 18 [(2, .inl x), (1, .inl sg), (0, .inr 117)] [.inl x] (hN H) → XR mM_carryOut [.inr 117, .inl sg] (hN H) (some (.inl v)) (hN J) := by
      intro v x J hx k
      refine XRa.of (by decide) (Nat.le_of_ble_eq_true rfl) ?_
      repeat refine x_step rfl ?_
      refine x_eq rfl (by omega) (by omega) (fun w => ?_) (fun w => absurd s1 w)
      repeat refine x_step rfl ?_
      rw [h15]
      refine x_call rfl hx ?_
      repeat refine x_step rfl ?_
      exact x_loc (by exact ⟨rfl, rfl, rfl, trivial⟩) k
    by_cases g1 : 0 ≤ noM (fun _ => z) c
    · rw [if_pos g1] at hwn ⊢
      refine ⟨H, pre _ _ _ hwn ?_, hz, fun a _ _ _ => rfl⟩
      refine x_eq rfl (by omega) (by omega) (fun w => by omega) (fun w => ?_)
      repeat refine x_step rfl ?_
      exact x_iret rfl rfl rfl rfl
    · rw [if_neg g1] at hwn ⊢
      by_cases g2 : z 112 = 20
      · rw [if_pos g2] at hwn ⊢
        refine ⟨H, pre _ _ _ hwn ?_, hz, fun a _ _ _ => rfl⟩
        refine x_eq rfl (by omega) (by omega) (fun w => by omega) (fun w => ?_)
        repeat refine x_step rfl ?_
        exact x_iret rfl rfl rfl rfl
      · rw [if_neg g2] at hwn ⊢
        refine ⟨xset H 118 (pwS (H 118) c), pre _ _ _ hwn ?_, by rw [xset_at, hz], fun a w _ _ => xset_ne w⟩
        have hv : (if (z 112, pwS z c).1 < 0 then (z 112, pwS z c).1 else 0) = 0 := if_neg (show ¬ z 112 < 0 by omega)
        rw [hv]
        refine x_eq rfl (by omega) (by omega) (fun w => ?_) (fun w => absurd rfl w)
        repeat refine x_step rfl ?_
        rw [h15]
        refine x_callv rfl (cM_putWord H (by rw [hz]; exact hmn.1) (by rw [hz]; omega) c) ?_
        repeat refine x_step rfl ?_
        exact x_iret rfl rfl rfl rfl
  · by_cases s2 : sg = 45
    · rw [caV_m s2]
      have hf := cM_find H hwm c hc
      rw [eno] at hf
      have pre : ∀ (v : Int) (J : Nat → Int → Int), XE mM_carryOut (some (.inl v)) (hN J) 48 [(3, .inl (noM (fun _ => z) c)), (1, .inl sg), (0, .inr 117)] [.inl (noM (fun _ => z) c)] (hN H) → XR mM_carryOut [.inr 117, .inl sg] (hN H) (some (.inl v)) (hN J) := by
        intro v J k
        refine XRa.of (by decide) (Nat.le_of_ble_eq_true rfl) ?_
        repeat refine x_step rfl ?_
        refine x_eq rfl (by omega) (by omega) (fun w => absurd w s1) (fun w => ?_)
        repeat refine x_step rfl ?_
        refine x_eq rfl (by omega) (by omega) (fun w => ?_) (fun w => absurd s2 w)
        repeat refine x_step rfl ?_
        rw [h15]
        refine x_call rfl hf ?_
        repeat refine x_step rfl ?_
        exact x_loc (by exact ⟨rfl, rfl, rfl, trivial⟩) k
      by_cases g1 : 0 ≤ noM (fun _ => z) c
      · rw [if_pos g1]
        have hv : (if (noM (fun _ => z) c, twS z (noM (fun _ => z) c)).1 < 0 then (noM (fun _ => z) c, twS z (noM (fun _ => z) c)).1 else 0) = 0 := if_neg (show ¬ noM (fun _ => z) c < 0 by omega)
        rw [hv]
        refine ⟨xset H 118 (twS (H 118) (noM (fun _ => z) c)), pre _ _ ?_, by rw [xset_at, hz], fun a w _ _ => xset_ne w⟩
        refine x_le rfl (by omega) (by omega) (fun w => ?_) (fun w => by omega)
        repeat refine x_step rfl ?_
        refine x_eq rfl (by omega) (by omega) (fun w => ?_) (fun w => absurd rfl w)
        repeat refine x_step rfl ?_
        refine x_callv rfl (cM_takeWord H (by rw [hz]; exact hmn.1) (by rw [hz]; omega) _ g1 (by rw [hz]; omega)) ?_
        repeat refine x_step rfl ?_
        exact x_iret rfl rfl rfl rfl
      · rw [if_neg g1]
        refine ⟨H, pre _ _ ?_, hz, fun a _ _ _ => rfl⟩
        refine x_le rfl (by omega) (by omega) (fun w => by omega) (fun w => ?_)
        repeat refine x_step rfl ?_
        refine x_eq rfl (by omega) (by omega) (fun w => by omega) (fun w => ?_)
        repeat refine x_step rfl ?_
        exact x_iret rfl rfl rfl rfl
    · have hs : ¬ (sg = 43 ∨ sg = 45) := by omega
      rw [caV_o hs]
      obtain ⟨h5, h6, q0, q1, hd⟩ := h5 hs
      have hr : plR c q d := ⟨hc, hl, q0, q1, hd⟩
      have hmr := cM_reasonOf H c q d hr (by rw [hz]; exact hw.bd) hwm (by rw [hz]; exact hw.tu) (by rw [hz]; exact hw.az hw.tu)
      rw [hz, inM_c (I := H) (J := fun _ => z) hz] at hmr
      have hR := rfS_R z (inM (fun _ => z)) (rkZ z (z 106)) c q d
      have hok := @rf_ok z (inM (fun _ => z)) (rkZ z (z 106)) c q d
      have ero : ∀ a : Nat, a ≠ 122 → a ≠ 123 → roH H c q d a = H a := fun a w w2 => roH_ne w w2
      generalize rfS z (inM (fun _ => z)) (rkZ z (z 106)) c q d = r at *
      generalize roH H c q d = K at *
      have e118 : K 118 = z := by rw [ero 118 (by omega) (by omega), hz]
      have e117 : K 117 = H 117 := ero 117 (by omega) (by omega)
      have pre : ∀ (v : Int) (J : Nat → Int → Int), XE mM_carryOut (some (.inl v)) (hN J) 87 [(3, .inl r), (1, .inl sg), (0, .inr 117)] [.inl r] (hN K) → XR mM_carryOut [.inr 117, .inl sg] (hN H) (some (.inl v)) (hN J) := by
        intro v J k
        refine XRa.of (by decide) (Nat.le_of_ble_eq_true rfl) ?_
        repeat refine x_step rfl ?_
        refine x_eq rfl (by omega) (by omega) (fun w => absurd w s1) (fun w => ?_)
        repeat refine x_step rfl ?_
        refine x_eq rfl (by omega) (by omega) (fun w => absurd w s2) (fun w => ?_)
        repeat refine x_step rfl ?_
        rw [h15, h5, h6]
        refine x_call rfl hmr ?_
        repeat refine x_step rfl ?_
        exact x_loc (by exact ⟨rfl, rfl, rfl, trivial⟩) k
      by_cases g1 : r = 0
      · rw [if_pos g1]
        have hok := hok g1
        have hwo := woS_R z c q d
        have hdo := cM_doPlay K c q d hr (by rw [e118]; exact hw) hok.1 (by rw [e118]; exact hok.2)
        rw [e118] at hdo
        have hv : (if (woS z c q d, dpZ z c q d).1 < 0 then (woS z c q d, dpZ z c q d).1 else 0) = 0 := if_neg (show ¬ woS z c q d < 0 by omega)
        rw [hv]
        refine ⟨xset (xset K 122 (wrS (wrS (K 122) c 0) c 0)) 118 (dpZ z c q d), pre _ _ ?_, xset_at, fun a w w2 w3 => by rw [xset_ne w, xset_ne w2, ero a w2 w3]⟩
        refine x_le rfl (by omega) (by omega) (fun w => ?_) (fun w => by omega)
        repeat refine x_step rfl ?_
        refine x_eq rfl (by omega) (by omega) (fun w => ?_) (fun w => absurd rfl w)
        repeat refine x_step rfl ?_
        rw [e117, h15, h5, h6]
        refine x_call rfl hdo ?_
        repeat refine x_step rfl ?_
        exact x_iret rfl rfl rfl rfl
      · rw [if_neg g1]
        have hv : (if (-10 - r, z).1 < 0 then (-10 - r, z).1 else 0) = -10 - r := if_pos (show -10 - r < 0 by omega)
        rw [hv]
        refine ⟨K, pre _ _ ?_, e118, fun a w w2 w3 => ero a w2 w3⟩
        refine x_le rfl (by omega) (by omega) (fun w => by omega) (fun w => ?_)
        repeat refine x_step rfl ?_
        refine x_eq rfl (by omega) (by omega) (fun w => by omega) (fun w => ?_)
        repeat refine x_step rfl ?_
        exact x_iret rfl rfl rfl rfl
end CARM
