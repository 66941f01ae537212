/-! the orders of a text without a fault, one after the other: the reference -/
section RPERF
theorem cM_loop (u : Int → Int) (len : Int) : ∀ (n : Nat) (done p : Int) (z : Int → Int) (H : Nat → Int → Int), done + n = 80 → 0 ≤ done → TX H → cuS (H 111) (H 110 1) = u → H 110 1 = len → H 118 = z → WZ z → 0 ≤ p → INV u len n p → ∃ J, XE mM_perform (some (.inl (pfF u len n z p done).1)) (hN J) 26 [(4, .inl p), (3, .inl 0), (2, .inl done), (0, .inr 117)] [.inl 0] (hN H) ∧ J 118 = (pfF u len n z p done).2.2 ∧ J 117 7 = (if (pfF u len n z p done).2.1 < 0 then (pfF u len n z p done).2.1 else H 117 7) ∧ (∀ f : Int, f < 15 → f ≠ 7 → J 117 f = H 117 f) ∧ ∀ a : Nat, a ≠ 117 → a ≠ 118 → a ≠ 122 → a ≠ 123 → J a = H a := by
  intro n
  induction n with
  | zero =>
    intro done p z H hd h0 hT hu hl hz hw p0 hI
    have hpl := hI.z p0 rfl
    have t2 := hT.2.2.1
    have t1 := hT.2.1
    have t0 := hT.1
    have e : pfF u len 0 z p done = (done, 0, z) := rfl
    rw [e]
    refine ⟨xup H 117 7 (H 117 7), ?_, by rw [xup_ne (by omega)]; exact hz, by rw [xup_at, if_pos rfl]; exact (if_neg (show ¬ (0 : Int) < 0 by omega)).symm, fun f _ w => by rw [xup_at, if_neg w], fun a w _ _ _ => xup_ne w⟩
    refine x_eq rfl (by omega) (by omega) (fun w => ?_) (fun w => absurd rfl w)
    repeat refine x_step rfl ?_
    rw [t2, hl]
    refine x_le rfl (by omega) (by omega) (fun w => ?_) (fun w => absurd (by omega) w)
    repeat refine x_step rfl ?_
    refine x_le rfl (by omega) (by omega) (fun w => ?_) (fun w => absurd (Int.le_refl 0) w)
    repeat refine x_step rfl ?_
    exact x_iret rfl rfl rfl rfl
  | succ n ih =>
    intro done p z H hd h0 hT hu hl hz hw p0 hI
    have t2 := hT.2.2.1
    have t1 := hT.2.1
    have t0 := hT.1
    have hpl : p ≤ len + 1 := by
      rcases hI with h | ⟨a, b, f⟩ <;> omega
    by_cases hlt : len ≤ p
    · rw [pfF_e hlt]
      refine ⟨xup H 117 7 (H 117 7), ?_, by rw [xup_ne (by omega)]; exact hz, by rw [xup_at, if_pos rfl]; exact (if_neg (show ¬ (0 : Int) < 0 by omega)).symm, fun f _ w => by rw [xup_at, if_neg w], fun a w _ _ _ => xup_ne w⟩
      refine x_eq rfl (by omega) (by omega) (fun w => ?_) (fun w => absurd rfl w)
      repeat refine x_step rfl ?_
      rw [t2, hl]
      refine x_le rfl (by omega) (by omega) (fun w => ?_) (fun w => absurd (by omega) w)
      repeat refine x_step rfl ?_
      refine x_le rfl (by omega) (by omega) (fun w => ?_) (fun w => absurd (Int.le_refl 0) w)
      repeat refine x_step rfl ?_
      exact x_iret rfl rfl rfl rfl
    · have hul := hT.hul
      rw [hu, hl] at hul
      obtain ⟨m, em, r0, r1, hI2⟩ := hI.s hul (by omega) p0
      have em : n = m := by omega
      subst em
      obtain ⟨K, k1, k2, k3⟩ := cM_readOrder hT (H := H) ⟨fun _ _ => rfl, fun _ _ => rfl⟩ p (by omega)
      have hcu := (hT.cu p).1
      have hue : H 121 p = u p := by
        rw [← hu, ← (hT.2.2.2 p p0 (by omega)).1]
        exact (if_pos ⟨p0, by omega⟩).symm
      rw [hu] at k1 k3 hcu
      have k3 := k3 r0
      have h15 : K 117 15 = cdO u p := by
        by_cases hs : sgO u p
        · rw [cdO_s hs]; exact k3.1 hs
        · rw [cdO_n hs]; exact (k3.2 hs).1
      have h5 : ¬ (u p = 43 ∨ u p = 45) → K 117 16 = plQ u (wdE u p) ∧ K 117 17 = plD u (wdE u p) ∧ 0 ≤ plQ u (wdE u p) ∧ plQ u (wdE u p) ≤ 80 ∧ (plD u (wdE u p) = 0 ∨ plD u (wdE u p) = 1) := fun hs => ⟨(k3.2 hs).2.1, (k3.2 hs).2.2, plQ_R p0 hs r0⟩
      have hcR := cdO_R p0 r0
      obtain ⟨X, x1, x2, x3⟩ := cM_carryOut (H := K) (by rw [k2.1 118 (by omega)]; exact hz) hw h15 hcR.1 hcR.2 (sg := u p) (by omega) h5
      have hwz := hw.ca (sg := u p) (q := plQ u (wdE u p)) (d := plD u (wdE u p)) hcR.1 hcR.2
      have Xf : ∀ a : Nat, a ≠ 117 → a ≠ 118 → a ≠ 122 → a ≠ 123 → X a = H a := fun a w w0 w1 w2 => by rw [x3 a w0 w1 w2, k2.1 a w]
      have X7 : ∀ f : Int, f < 15 → X 117 f = H 117 f := fun f w => by rw [x3 117 (by omega) (by omega) (by omega), k2.2 f w]
      rw [pfF, if_neg hlt]
      generalize caV z (u p) (cdO u p) (plQ u (wdE u p)) (plD u (wdE u p)) = v at *
      have pre : ∀ (v' : Int) (J : Nat → Int → Int), XE mM_perform (some (.inl v')) (hN J) 66 [(3, .inl (if v.1 < 0 then v.1 else 0)), (4, .inl (roE u p + 1)), (2, .inl done), (0, .inr 117)] [.inl (if v.1 < 0 then v.1 else 0), .inl done] (hN X) → XE mM_perform (some (.inl v')) (hN J) 26 [(4, .inl p), (3, .inl 0), (2, .inl done), (0, .inr 117)] [.inl 0] (hN H) := by
        intro v' J x
        refine x_eq rfl (by omega) (by omega) (fun w => ?_) (fun w => absurd rfl w)
        repeat refine x_step rfl ?_
        rw [t2, hl]
        refine x_le rfl (by omega) (by omega) (fun w => absurd w hlt) (fun w => ?_)
        repeat refine x_step rfl ?_
        refine x_ald (len := 79) rfl (by omega) (by omega) ?_
        rw [hue]
        repeat refine x_step rfl ?_
        refine x_call rfl k1 ?_
        repeat refine x_step rfl ?_
        refine x_call rfl x1 ?_
        repeat refine x_step rfl ?_
        exact x_loc (by exact ⟨rfl, rfl, rfl, rfl, trivial⟩) x
      by_cases hv : v.1 < 0
      · rw [if_pos hv]
        rw [if_pos hv] at pre
        refine ⟨xup X 117 7 v.1, pre _ _ ?_, by rw [xup_ne (by omega)]; exact x2, by rw [xup_at, if_pos rfl]; exact (if_pos hv).symm, fun f w w2 => by rw [xup_at, if_neg w2, X7 f w], fun a w w0 w1 w2 => by rw [xup_ne w, Xf a w w0 w1 w2]⟩
        refine x_eq rfl (by omega) (by omega) (fun w => by omega) (fun w => ?_)
        repeat refine x_step rfl ?_
        refine x_eq rfl (by omega) (by omega) (fun w => by omega) (fun w => ?_)
        repeat refine x_step rfl ?_
        refine x_le rfl (by omega) (by omega) (fun w => by omega) (fun w => ?_)
        repeat refine x_step rfl ?_
        exact x_iret rfl rfl (by show done + 0 = done; omega) rfl
      · rw [if_neg hv]
        rw [if_neg hv] at pre
        have eT : TX X := hT.of (by rw [Xf 110 (by omega) (by omega) (by omega) (by omega)]) (X7 6 (by omega)) (Xf 111 (by omega) (by omega) (by omega) (by omega)) (Xf 121 (by omega) (by omega) (by omega) (by omega))
        obtain ⟨J, y1, y2, y3, y4, y5⟩ := ih (done + 1) (roE u p + 1) v.2 X (by omega) (by omega) eT (by rw [Xf 111 (by omega) (by omega) (by omega) (by omega), Xf 110 (by omega) (by omega) (by omega) (by omega)]; exact hu) (by rw [Xf 110 (by omega) (by omega) (by omega) (by omega)]; exact hl) x2 hwz.1 (by omega) hI2
        refine ⟨J, pre _ _ ?_, y2, by rw [y3, X7 7 (by omega)], fun f w w2 => by rw [y4 f w w2, X7 f w], fun a w w0 w1 w2 => by rw [y5 a w w0 w1 w2, Xf a w w0 w1 w2]⟩
        refine x_eq rfl (by omega) (by omega) (fun w => ?_) (fun w => absurd rfl w)
        repeat refine x_step rfl ?_
        exact x_loc (by exact ⟨rfl, rfl, rfl, rfl, trivial⟩) y1
theorem S_perform {I : Nat → Int → Int} (h : SIM I) : SAM mB_perform mM_perform [] I := by
  have hT := h.2.2.2.2.1
  have hul := hT.hul
  have t0 := hT.1
  have t1 := hT.2.1
  obtain ⟨J1, x1, f1⟩ := cO_firstFault hT
  have h1 := FO.sim h f1
  have hT1 := h1.2.2.2.2.1
  have e111 : J1 111 = I 111 := f1.1 111 (by omega)
  have e110 : J1 110 1 = I 110 1 := f1.2
  have hR := ffF_R hul 80 0 (by omega) t0 t1
  by_cases hf : ffF (cuS (I 111) (I 110 1)) (I 110 1) 80 0 = -5
  · rw [hf] at x1
    obtain ⟨c0, c1, d0, d1, sm⟩ := h1.x0
    have p : ∀ a : Nat, a < 32 ∨ 109 < a → prH J1 a = J1 a := fun a w => prH_ne h1.2.2.1 w
    have hX : ∀ a : Nat, a < 30 ∨ 109 < a → a ≠ 110 → xup (kpH (prH J1)) 110 2 0 a = J1 a := fun a w w2 => by rw [xup_ne w2, kpH_ne (by omega), p a (by omega)]
    have hX0 : xup (kpH (prH J1)) 110 2 0 110 1 = J1 110 1 := by rw [xup_at, if_neg (by omega), kpH_ne (by omega), p 110 (by omega)]
    have hX2 : xup (kpH (prH J1)) 110 2 0 110 2 = 0 := by rw [xup_at, if_pos rfl]
    have hX3 : ∀ a : Nat, 32 ≤ a → a ≤ 109 → xup (kpH (prH J1)) 110 2 0 a = prH J1 a := fun a w w2 => by rw [xup_ne (by omega), kpH_ne (by omega)]
    have hX30 : xup (kpH (prH J1)) 110 2 0 30 = kpH J1 30 := by
      rw [xup_ne (by omega)]
      exact kpH_30 (p 30 (by omega))
    have x2 : ∀ (v' : Int) (J : Nat → Int → Int), XE mB_perform (some (.inl v')) (hN J) 50 [(2, .inl 0), (0, .inr 3)] [.inl 80, .inl 0] (hN (xup (kpH (prH J1)) 110 2 0)) → XR mB_perform [.inr 3] (hN I) (some (.inl v')) (hN J) := by
      intro v' J x
      refine XRa.of (by decide) (Nat.le_of_ble_eq_true rfl) ?_
      repeat refine x_step rfl ?_
      refine x_call rfl x1 ?_
      repeat refine x_step rfl ?_
      refine x_eq rfl (by omega) (by omega) (fun w => ?_) (fun w => absurd rfl w)
      repeat refine x_step rfl ?_
      refine x_callv rfl (cH_prepare J1 c0 c1 d0 d1) ?_
      repeat refine x_step rfl ?_
      refine x_callv rfl (cH_keep (prH J1) (by rw [p 30 (by omega)]; exact c0) (by rw [p 30 (by omega)]; exact c1) (by rw [p 30 (by omega)]; exact d0) (by rw [p 30 (by omega)]; exact d1)) ?_
      repeat refine x_step rfl ?_
      exact x_loc (by exact ⟨rfl, rfl, trivial⟩) x
    generalize xup (kpH (prH J1)) 110 2 0 = X at *
    have hTX : TX X := hT1.of hX0 (by rw [hX 117 (by omega) (by omega)]) (hX 111 (by omega) (by omega)) (hX 121 (by omega) (by omega))
    obtain ⟨J2, y1, y2, y3, y4, y5, y6, y7, y8⟩ := cB_loop (cuS (I 111) (I 110 1)) (I 110 1) 80 0 0 (J1 118) X (by omega) (by omega) hTX (by rw [hX 111 (by omega) (by omega), hX0, e111, e110]) (by rw [hX0, e110]) (h1.1.1.congr (fun a a0 a1 => hX a (by omega) (by omega)) (fun _ _ _ => rfl)) h1.1.2 (fun k a b => by rw [hX 16 (by omega) (by omega)]; exact h1.2.1 k a b) hX2 (by omega) (Or.inr ⟨by omega, t0, hf⟩)
    have g2 : ∀ a : Nat, a < 3 ∨ (16 < a ∧ a < 30) ∨ 109 < a → a ≠ 110 → a ≠ 112 → a ≠ 113 → J2 a = J1 a := fun a w w0 w1 w2 => by rw [y8 a (by omega) w0 w1 w2, hX a (by omega) w0]
    have hT2 : TX J2 := hTX.of y7 (by rw [y8 117 (by omega) (by omega) (by omega) (by omega)]) (y8 111 (by omega) (by omega) (by omega) (by omega)) (y8 121 (by omega) (by omega) (by omega) (by omega))
    have q111 : J2 111 = I 111 := by rw [g2 111 (by omega) (by omega) (by omega) (by omega), e111]
    have q110 : J2 110 1 = I 110 1 := by rw [y7, hX0, e110]
    have q117 : J2 117 = J1 117 := g2 117 (by omega) (by omega) (by omega) (by omega)
    obtain ⟨J3, z1, f3⟩ := cM_findFault hT2 (H0 := J2) ⟨fun _ _ => rfl, fun _ _ => rfl⟩
    rw [q111, q110, hf] at z1
    have s117 : J3 117 2 = J1 117 2 := by rw [f3.2 2 (by omega), q117]
    have hrc := cM_record J3 (by omega) (by omega)
    have r117 : ∀ f : Int, f ≠ 2 → f < 15 → rcH J3 117 f = J1 117 f := fun f w w2 => by unfold rcH; rw [xup_at, if_neg w, xset_ne (by omega), f3.2 f w2, q117]
    have r2 : rcH J3 117 2 = rcS (J1 117 2) + 1 := by unfold rcH; rw [xup_at, if_pos rfl, s117]
    have r118 : rcH J3 118 = J1 118 := by rw [rcH_ne (by omega) (by omega), f3.1 118 (by omega), g2 118 (by omega) (by omega) (by omega) (by omega)]
    have r119 : rcH J3 119 = rcO (J1 119) (J1 118) (J1 117 2) := by
      unfold rcH
      rw [xup_ne (by omega), xset_at, s117, f3.1 118 (by omega), g2 118 (by omega) (by omega) (by omega) (by omega), f3.1 119 (by omega), g2 119 (by omega) (by omega) (by omega) (by omega)]
    have ro : ∀ a : Nat, a ≠ 117 → a ≠ 119 → rcH J3 a = J2 a := fun a w w2 => by rw [rcH_ne w w2, f3.1 a w]
    have hT3 : TX (rcH J3) := hT2.of (by rw [ro 110 (by omega) (by omega)]) (by rw [r117 6 (by omega) (by omega), q117]) (ro 111 (by omega) (by omega)) (ro 121 (by omega) (by omega))
    have z2 : ∀ (v' : Int) (J : Nat → Int → Int), XE mM_perform (some (.inl v')) (hN J) 26 [(4, .inl 0), (3, .inl 0), (2, .inl 0), (0, .inr 117)] [.inl 0] (hN (rcH J3)) → XR mM_perform [.inr 117] (hN J2) (some (.inl v')) (hN J) := by
      intro v' J x
      refine XRa.of (by decide) (Nat.le_of_ble_eq_true rfl) ?_
      repeat refine x_step rfl ?_
      refine x_call rfl z1 ?_
      repeat refine x_step rfl ?_
      refine x_lt rfl (by omega) (by omega) (fun w => ?_) (fun w => by omega)
      repeat refine x_step rfl ?_
      refine x_callv rfl hrc ?_
      repeat refine x_step rfl ?_
      exact x_loc (by exact ⟨rfl, rfl, rfl, rfl, trivial⟩) x
    generalize rcH J3 = Y at *
    obtain ⟨J4, w1, w2, w3, w4, w5⟩ := cM_loop (cuS (I 111) (I 110 1)) (I 110 1) 80 0 0 (J1 118) Y (by omega) (by omega) hT3 (by rw [ro 111 (by omega) (by omega), ro 110 (by omega) (by omega), q111, q110]) (by rw [ro 110 (by omega) (by omega), q110]) r118 h1.1.2 (by omega) (Or.inr ⟨by omega, t0, hf⟩)
    refine ⟨_, J2, J4, x2 _ _ y1, z2 _ _ w1, ?_⟩
    have v : ∀ a : Nat, a ≠ 117 → a ≠ 119 → a ≠ 118 → a ≠ 122 → a ≠ 123 → J4 a = J2 a := fun a c1 c2 c3 c4 c5 => by rw [w5 a c1 c3 c4 c5, ro a c1 c2]
    generalize pfF (cuS (I 111) (I 110 1)) (I 110 1) 80 (J1 118) 0 0 = res at *
    refine ⟨⟨?_, ?_⟩, ?_, ?_, ?_, ?_, ?_⟩
    · rw [w2]
      exact y2.congr (fun a a0 a1 => v a (by omega) (by omega) (by omega) (by omega) (by omega)) (fun _ _ _ => rfl)
    · rw [w2]; exact y3
    · intro k a b
      rw [v 16 (by omega) (by omega) (by omega) (by omega) (by omega)]
      exact y4 k a b
    · refine h1.2.2.1.keep h1.1 (fun a a0 a1 => ?_) (fun f => ?_) ?_ ?_
      · rw [v a (by omega) (by omega) (by omega) (by omega) (by omega), y8 a (by omega) (by omega) (by omega) (by omega), hX3 a a0 a1]
      · rw [v 30 (by omega) (by omega) (by omega) (by omega) (by omega), y8 30 (by omega) (by omega) (by omega) (by omega), hX30]
      · rw [w4 2 (by omega) (by omega), r2]
      · rw [w5 119 (by omega) (by omega) (by omega) (by omega), r119]
    · refine h1.2.2.2.1.of ?_ ?_ (fun a a0 a1 => ?_) ?_
      · rw [v 3 (by omega) (by omega) (by omega) (by omega) (by omega), y6 6 (by omega), hX 3 (by omega) (by omega)]
      · rw [w4 4 (by omega) (by omega), r117 4 (by omega) (by omega)]
      · rw [v a (by omega) (by omega) (by omega) (by omega) (by omega), g2 a (by omega) (by omega) (by omega) (by omega)]
      · rw [v 120 (by omega) (by omega) (by omega) (by omega) (by omega), g2 120 (by omega) (by omega) (by omega) (by omega)]
    · refine hT1.of ?_ ?_ ?_ ?_
      · rw [v 110 (by omega) (by omega) (by omega) (by omega) (by omega), q110, e110]
      · rw [w4 6 (by omega) (by omega), r117 6 (by omega) (by omega)]
      · rw [v 111 (by omega) (by omega) (by omega) (by omega) (by omega), q111, e111]
      · rw [v 121 (by omega) (by omega) (by omega) (by omega) (by omega), g2 121 (by omega) (by omega) (by omega) (by omega)]
    · rw [v 3 (by omega) (by omega) (by omega) (by omega) (by omega), y5, w3, r117 7 (by omega) (by omega), hX 3 (by omega) (by omega), h1.2.2.2.2.2]
  · obtain ⟨J2, x2, f2⟩ := cM_findFault hT1 (H0 := J1) ⟨fun _ _ => rfl, fun _ _ => rfl⟩
    rw [e111, e110] at x2
    generalize ffF (cuS (I 111) (I 110 1)) (I 110 1) 80 0 = r at *
    refine ⟨-100 - r, J1, J2, ?_, ?_, FP.sim h1 f2⟩
    · refine XRa.of (by decide) (Nat.le_of_ble_eq_true rfl) ?_
      repeat refine x_step rfl ?_
      refine x_call rfl x1 ?_
      repeat refine x_step rfl ?_
      refine x_eq rfl (by omega) (by omega) (fun w => absurd w hf) (fun w => ?_)
      repeat refine x_step rfl ?_
      exact x_iret rfl rfl rfl rfl
    · refine XRa.of (by decide) (Nat.le_of_ble_eq_true rfl) ?_
      repeat refine x_step rfl ?_
      refine x_call rfl x2 ?_
      repeat refine x_step rfl ?_
      refine x_lt rfl (by omega) (by omega) (fun w => by omega) (fun w => ?_)
      repeat refine x_step rfl ?_
      exact x_iret rfl rfl rfl rfl
end RPERF
