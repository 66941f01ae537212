/-! the orders of a text without a fault, one after the other: the class -/
section PERF
theorem ffF_R {u : Int → Int} {len : Int} (hu : ∀ q, u q ≠ 0 → q < len) : ∀ (n : Nat) (p : Int), 0 ≤ p → p ≤ len → len ≤ 80 → ffF u len n p = -5 ∨ (0 ≤ ffF u len n p ∧ ffF u len n p ≤ 200) := by
  intro n
  induction n with
  | zero => intro p a b c; exact Or.inr ⟨a, by show p ≤ 200; omega⟩
  | succ n ih =>
    intro p a b c
    obtain ⟨r1, r2, r3⟩ := roE_R hu a b
    rw [ffF]
    by_cases w : roE u p < 0
    · have ep : psE (roE u p) = -1 - roE u p := if_pos w
      rw [if_pos w]
      omega
    · rw [if_neg w]
      obtain ⟨q1, q2⟩ := r1 (by omega)
      by_cases g : roE u p = len
      · rw [if_pos g]; exact Or.inl rfl
      · rw [if_neg g]
        by_cases g2 : u (roE u p) = 44
        · rw [if_pos g2]; exact ih _ (by omega) (by omega) c
        · rw [if_neg g2]; omega
theorem pfF_e {u : Int → Int} {len : Int} {n : Nat} {z : Int → Int} {p done : Int} (h : len ≤ p) : pfF u len n z p done = (done, 0, z) := by
  cases n with
  | zero => rfl
  | succ n => rw [pfF, if_pos h]
theorem INV.z {u : Int → Int} {len : Int} {n : Nat} {p : Int} (h : INV u len n p) (h0 : 0 ≤ p) (hn : n = 0) : p = len + 1 := by
  rcases h with h | ⟨a, b, f⟩
  · exact h
  · subst hn
    have f : p = -5 := f
    omega
theorem TX.hul {I : Nat → Int → Int} (h : TX I) : ∀ q, cuS (I 111) (I 110 1) q ≠ 0 → q < I 110 1 := fun q w => ((h.cu q).2 w).2
theorem cB_loop (u : Int → Int) (len : Int) : ∀ (n : Nat) (done p : Int) (z : Int → Int) (H : Nat → Int → Int), done + n = 80 → 0 ≤ done → TX H → cuS (H 111) (H 110 1) = u → H 110 1 = len → GM H 4 z → WZ z → AS H → H 110 2 = p → 0 ≤ p → INV u len n p → ∃ J, XE mB_perform (some (.inl (pfF u len n z p done).1)) (hN J) 50 [(2, .inl done), (0, .inr 3)] [.inl 80, .inl done] (hN H) ∧ GM J 4 (pfF u len n z p done).2.2 ∧ WZ (pfF u len n z p done).2.2 ∧ AS J ∧ J 3 7 = (if (pfF u len n z p done).2.1 < 0 then (pfF u len n z p done).2.1 else H 3 7) ∧ (∀ f : Int, f ≠ 7 → J 3 f = H 3 f) ∧ J 110 1 = H 110 1 ∧ ∀ a : Nat, a < 3 ∨ 16 < a → a ≠ 110 → a ≠ 112 → a ≠ 113 → J a = H a := by
  intro n
  induction n with
  | zero =>
    intro done p z H hd h0 hT hu hl hg hw ha hp p0 hI
    have e : pfF u len 0 z p done = (done, 0, z) := rfl
    rw [e]
    refine ⟨H, ?_, hg, hw, ha, (if_neg (show ¬ (0 : Int) < 0 by omega)).symm, fun _ _ => rfl, rfl, fun _ _ _ _ _ => rfl⟩
    refine x_le rfl (by omega) (by omega) (fun w => ?_) (fun w => absurd (by omega) w)
    repeat refine x_step rfl ?_
    exact x_iret rfl rfl rfl rfl
  | succ n ih =>
    intro done p z H hd h0 hT hu hl hg hw ha hp p0 hI
    have t0 := hT.1
    have t1 := hT.2.1
    have hpl : p ≤ len + 1 := by
      rcases hI with h | ⟨a, b, f⟩ <;> omega
    by_cases hlt : len ≤ p
    · rw [pfF_e hlt]
      refine ⟨H, ?_, hg, hw, ha, (if_neg (show ¬ (0 : Int) < 0 by omega)).symm, fun _ _ => rfl, rfl, fun _ _ _ _ _ => rfl⟩
      refine x_le rfl (by omega) (by omega) (fun w => by omega) (fun w => ?_)
      repeat refine x_step rfl ?_
      rw [hp, hl]
      refine x_le rfl (by omega) (by omega) (fun w => ?_) (fun w => absurd hlt w)
      repeat refine x_step rfl ?_
      exact x_iret rfl rfl rfl rfl
    · have hul := hT.hul
      rw [hu, hl] at hul
      obtain ⟨m, em, r0, r1, hI2⟩ := hI.s hul (by omega) p0
      have em : n = m := by omega
      subst em
      obtain ⟨K, k1, k2, k3, k4, k5⟩ := cO_readOrder hT (H := H) ⟨fun _ _ => rfl, rfl⟩ hp (by omega)
      have hcu := (hT.cu p).1
      rw [hu] at k1 k3 k4 k5 hcu
      rw [if_neg (by omega)] at k1
      have ep : psE (roE u p) = roE u p := if_neg (by omega)
      rw [ep] at k3
      have k5 := k5 r0
      have f : ∀ a : Nat, a ≠ 110 → xup K 110 2 (roE u p + 1) a = H a := fun a w => by rw [xup_ne w, k2.1 a w]
      have f1 : xup K 110 2 (roE u p + 1) 110 1 = H 110 1 := by rw [xup_at, if_neg (by omega), k2.2]
      have f2 : xup K 110 2 (roE u p + 1) 110 2 = roE u p + 1 := by rw [xup_at, if_pos rfl]
      have f3 : xup K 110 2 (roE u p + 1) 110 3 = u p := by rw [xup_at, if_neg (by omega), k4]
      have f4 : xup K 110 2 (roE u p + 1) 110 4 = cdO u p := by
        rw [xup_at, if_neg (by omega)]
        by_cases hs : sgO u p
        · rw [cdO_s hs]; exact k5.1 hs
        · rw [cdO_n hs]; exact (k5.2 hs).1
      have f5 : ¬ (u p = 43 ∨ u p = 45) → xup K 110 2 (roE u p + 1) 110 5 = plQ u (wdE u p) ∧ xup K 110 2 (roE u p + 1) 110 6 = plD u (wdE u p) ∧ 0 ≤ plQ u (wdE u p) ∧ plQ u (wdE u p) ≤ 80 ∧ (plD u (wdE u p) = 0 ∨ plD u (wdE u p) = 1) := fun hs => by
        have hq := plQ_R p0 hs r0
        refine ⟨?_, ?_, hq⟩
        · rw [xup_at, if_neg (by omega)]; exact (k5.2 hs).2.1
        · rw [xup_at, if_neg (by omega)]; exact (k5.2 hs).2.2
      generalize hH2 : xup K 110 2 (roE u p + 1) = H2 at *
      have g2 : GM H2 4 z := hg.congr (fun a a0 a1 => f a (by omega)) (fun _ _ _ => rfl)
      have a2 : AS H2 := fun k a b => by rw [f 16 (by omega)]; exact ha k a b
      have hcR := cdO_R p0 r0
      obtain ⟨X, x1, x2, x3, x4⟩ := cB_carryOut g2 hw a2 f3 f4 hcR.1 hcR.2 (by omega) f5
      have hwz := hw.ca (sg := u p) (q := plQ u (wdE u p)) (d := plD u (wdE u p)) hcR.1 hcR.2
      have X1 : X 110 1 = H 110 1 := by rw [x4 110 (by omega) (by omega) (by omega), f1]
      have X2 : X 110 2 = roE u p + 1 := by rw [x4 110 (by omega) (by omega) (by omega), f2]
      have Xf : ∀ a : Nat, a < 4 ∨ 16 < a → a ≠ 110 → a ≠ 112 → a ≠ 113 → X a = H a := fun a w w0 w1 w2 => by rw [x4 a w w1 w2, f a w0]
      rw [pfF, if_neg hlt]
      generalize caV z (u p) (cdO u p) (plQ u (wdE u p)) (plD u (wdE u p)) = v at *
      have pre : ∀ (v' : Int) (J : Nat → Int → Int), XE mB_perform (some (.inl v')) (hN J) 97 [(3, .inl v.1), (2, .inl done), (0, .inr 3)] [.inl v.1] (hN X) → XE mB_perform (some (.inl v')) (hN J) 50 [(2, .inl done), (0, .inr 3)] [.inl 80, .inl done] (hN H) := by
        intro v' J x
        refine x_le rfl (by omega) (by omega) (fun w => by omega) (fun w => ?_)
        repeat refine x_step rfl ?_
        rw [hp, hl]
        refine x_le rfl (by omega) (by omega) (fun w => absurd w hlt) (fun w => ?_)
        repeat refine x_step rfl ?_
        refine x_call rfl k1 ?_
        repeat refine x_step rfl ?_
        rw [k3, hH2]
        refine x_call rfl x1 ?_
        repeat refine x_step rfl ?_
        exact x_loc (by exact ⟨rfl, rfl, rfl, trivial⟩) x
      by_cases hv : v.1 < 0
      · rw [if_pos hv]
        have fr : ∀ a : Nat, a ≠ 3 → xup X 3 7 v.1 a = X a := fun a w => xup_ne w
        refine ⟨xup X 3 7 v.1, pre _ _ ?_, x2.congr (fun a a0 a1 => fr a (by omega)) (fun _ _ _ => rfl), hwz.1, fun k a b => by rw [fr 16 (by omega)]; exact x3 k a b, ?_, fun f w => ?_, ?_, fun a w w0 w1 w2 => ?_⟩
        · refine x_le rfl (by omega) (by omega) (fun w => by omega) (fun w => ?_)
          repeat refine x_step rfl ?_
          exact x_iret rfl rfl rfl rfl
        · rw [xup_at, if_pos rfl]
          exact (if_pos hv).symm
        · rw [xup_at, if_neg w, Xf 3 (by omega) (by omega) (by omega) (by omega)]
        · rw [fr 110 (by omega), X1]
        · rw [fr a (by omega), Xf a (by omega) w0 w1 w2]
      · rw [if_neg hv]
        have eT : TX X := hT.of X1 (by rw [Xf 117 (by omega) (by omega) (by omega) (by omega)]) (Xf 111 (by omega) (by omega) (by omega) (by omega)) (Xf 121 (by omega) (by omega) (by omega) (by omega))
        obtain ⟨J, y1, y2, y3, y4, y5, y6, y7, y8⟩ := ih (done + 1) (roE u p + 1) v.2 X (by omega) (by omega) eT (by rw [Xf 111 (by omega) (by omega) (by omega) (by omega), X1]; exact hu) (by rw [X1]; exact hl) x2 hwz.1 x3 X2 (by omega) hI2
        refine ⟨J, pre _ _ ?_, y2, y3, y4, ?_, fun f w => ?_, ?_, fun a w w0 w1 w2 => ?_⟩
        · refine x_le rfl (by omega) (by omega) (fun w => ?_) (fun w => by omega)
          repeat refine x_step rfl ?_
          exact x_loc (by exact ⟨rfl, rfl, trivial⟩) y1
        · rw [y5, Xf 3 (by omega) (by omega) (by omega) (by omega)]
        · rw [y6 f w, Xf 3 (by omega) (by omega) (by omega) (by omega)]
        · rw [y7, X1]
        · rw [y8 a w w0 w1 w2, Xf a (by omega) w0 w1 w2]
end PERF
