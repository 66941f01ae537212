/-! an order, and the first fault: the reference -/
section ROX
variable {I : Nat → Int → Int}
theorem cM_readOrder (h : TX I) {H : Nat → Int → Int} (hF : FP I H) (p : Int) (hp : 0 ≤ p ∧ p ≤ 200) : ∃ J, XR mM_readOrder [.inr 117, .inl p] (hN H) (some (.inl (roE (cuS (I 111) (I 110 1)) p))) (hN J) ∧ FP I J ∧ (0 ≤ roE (cuS (I 111) (I 110 1)) p → (cuS (I 111) (I 110 1) p = 43 ∨ cuS (I 111) (I 110 1) p = 45 → J 117 15 = wdC (cuS (I 111) (I 110 1)) (p + 1)) ∧ (¬ (cuS (I 111) (I 110 1) p = 43 ∨ cuS (I 111) (I 110 1) p = 45) → J 117 15 = wdC (cuS (I 111) (I 110 1)) p ∧ J 117 16 = plQ (cuS (I 111) (I 110 1)) (wdE (cuS (I 111) (I 110 1)) p) ∧ J 117 17 = plD (cuS (I 111) (I 110 1)) (wdE (cuS (I 111) (I 110 1)) p))) := by
  have hcu := fun q => (h.cu q)
  have hat := fun (X : Nat → Int → Int) (hX : FP I X) (q lo hi : Int) => cM_isAt h hX q lo hi
  have hrw := fun (X : Nat → Int → Int) (hX : FP I X) (q : Int) => cM_readWord h hX q
  have e121 := fun q => congrFun h.cuM q
  have t2 := h.2.2.1
  have t1 := h.2.1
  generalize hu : cuS (I 111) (I 110 1) = u at *
  by_cases hs : u p = 43 ∨ u p = 45
  · have eR : roE u p = wdE u (p + 1) := by unfold roE; rw [if_pos hs]
    rw [eR]
    refine ⟨xup H 117 15 (wdC u (p + 1)), ?_, hF.up (by omega), fun _ => ⟨fun _ => by rw [xup_at, if_pos rfl], fun w => absurd hs w⟩⟩
    refine XRa.of (by decide) (Nat.le_of_ble_eq_true rfl) ?_
    have mid : ∀ L : XL, xsub L [(1, .inl p), (0, .inr 117)] → XE mM_readOrder (some (.inl (wdE u (p + 1)))) (hN (xup H 117 15 (wdC u (p + 1)))) 24 L [] (hN H) := by
      intro L hL
      refine x_loc hL ?_
      repeat refine x_step rfl ?_
      refine x_call rfl (hrw H hF (p + 1) (by omega)) ?_
      exact x_iret rfl rfl rfl rfl
    repeat refine x_step rfl ?_
    refine x_call rfl (hat H hF p 43 43 (by omega) (by omega) (by omega)) ?_
    by_cases g : u p = 43
    · rw [if_pos (by omega)]
      refine x_eq rfl (by omega) (by omega) (fun w => by omega) (fun w => ?_)
      exact mid _ (by exact ⟨rfl, rfl, trivial⟩)
    · rw [if_neg (by omega)]
      refine x_eq rfl (by omega) (by omega) (fun w => ?_) (fun w => absurd rfl w)
      repeat refine x_step rfl ?_
      refine x_call rfl (hat H hF p 45 45 (by omega) (by omega) (by omega)) ?_
      rw [if_pos (by omega)]
      refine x_eq rfl (by omega) (by omega) (fun w => by omega) (fun w => ?_)
      exact mid _ (by exact ⟨rfl, rfl, trivial⟩)
  · obtain ⟨e1, e2, e3⟩ := wdE_n u (p := p) (by omega)
    have hwR := wdP_R u p
    have hF1 := hF.up (f := 15) (v := wdC u p) (by omega)
    have a15 : xup H 117 15 (wdC u p) 117 15 = wdC u p := by rw [xup_at, if_pos rfl]
    -- behind the word
    have pre : ∀ (v : Int) (J : Nat → Int → Int), XE mM_readOrder (some (.inl v)) (hN J) 39 [(2, .inl (wdE u p)), (1, .inl p), (0, .inr 117)] [.inl (wdE u p)] (hN (xup H 117 15 (wdC u p))) → XR mM_readOrder [.inr 117, .inl p] (hN H) (some (.inl v)) (hN J) := by
      intro v J x
      refine XRa.of (by decide) (Nat.le_of_ble_eq_true rfl) ?_
      repeat refine x_step rfl ?_
      refine x_call rfl (hat H hF p 43 43 (by omega) (by omega) (by omega)) ?_
      rw [if_neg (by omega)]
      refine x_eq rfl (by omega) (by omega) (fun w => ?_) (fun w => absurd rfl w)
      repeat refine x_step rfl ?_
      refine x_call rfl (hat H hF p 45 45 (by omega) (by omega) (by omega)) ?_
      rw [if_neg (by omega)]
      refine x_eq rfl (by omega) (by omega) (fun w => ?_) (fun w => absurd rfl w)
      repeat refine x_step rfl ?_
      refine x_call rfl (hrw H hF p (by omega)) ?_
      repeat refine x_step rfl ?_
      exact x_loc (by exact ⟨rfl, rfl, rfl, trivial⟩) x
    have ewR : -400 ≤ wdE u p ∧ wdE u p ≤ 400 := by unfold wdE; split <;> omega
    by_cases w : wdE u p < 0
    · have eR : roE u p = wdE u p := by unfold roE; rw [if_neg hs, if_pos w]
      rw [eR]
      refine ⟨xup H 117 15 (wdC u p), pre _ _ ?_, hF1, fun x => by omega⟩
      refine x_le rfl (by omega) (by omega) (fun w1 => by omega) (fun w1 => ?_)
      repeat refine x_step rfl ?_
      exact x_iret rfl rfl rfl rfl
    · have eR : roE u p = plE u (wdE u p) := by unfold roE; rw [if_neg hs, if_neg w]
      have ew := e3 (by omega)
      rw [eR]
      generalize wdE u p = e at *
      have e0 : 0 ≤ e := by omega
      generalize xup H 117 15 (wdC u p) = H1 at *
      have c121 : ∀ q, u q ≠ 0 → H1 121 q = u q ∧ 0 ≤ q ∧ q < 80 := fun q hq => by
        have hq2 := (hcu q).2 hq
        refine ⟨?_, by omega, by omega⟩
        rw [hF1.1 121 (by omega), ← e121 q]
        unfold cuS
        rw [if_pos (by omega)]
      have s1 := hat H1 hF1 e 49 57 (by omega) (by omega) (by omega)
      have s2 := hat H1 hF1 (e + 1) 49 57 (by omega) (by omega) (by omega)
      have s3 := hat H1 hF1 (e + 2) 62 62 (by omega) (by omega) (by omega)
      have s4 := hat H1 hF1 (e + 2) 118 118 (by omega) (by omega) (by omega)
      by_cases g1 : 49 ≤ u e ∧ u e ≤ 57
      · rw [if_pos g1] at s1
        by_cases g2 : 49 ≤ u (e + 1) ∧ u (e + 1) ≤ 57
        · rw [if_pos g2] at s2
          -- up to the direction
          have p2 : ∀ (v : Int) (J : Nat → Int → Int), XE mM_readOrder (some (.inl v)) (hN J) 87 [(2, .inl e), (1, .inl p), (0, .inr 117)] [.inl 62, .inl 62, .inl (e + 2), .inr 117] (hN H1) → XE mM_readOrder (some (.inl v)) (hN J) 39 [(2, .inl e), (1, .inl p), (0, .inr 117)] [.inl e] (hN H1) := by
            intro v J x
            refine x_le rfl (by omega) (by omega) (fun w1 => ?_) (fun w1 => by omega)
            repeat refine x_step rfl ?_
            refine x_call rfl s1 ?_
            refine x_eq rfl (by omega) (by omega) (fun w => by omega) (fun w => ?_)
            repeat refine x_step rfl ?_
            refine x_call rfl s2 ?_
            refine x_eq rfl (by omega) (by omega) (fun w => by omega) (fun w => ?_)
            repeat refine x_step rfl ?_
            exact x_loc (by exact ⟨rfl, rfl, rfl, trivial⟩) x
          by_cases g3 : u (e + 2) = 62 ∨ u (e + 2) = 118
          · have eE : plE u e = e + 3 := by unfold plE; rw [if_neg (fun w => w g1), if_neg (fun w => w g2), if_neg (fun w => w g3)]
            rw [eE]
            obtain ⟨y1, y2, y3⟩ := c121 e (by omega)
            obtain ⟨y4, y5, y6⟩ := c121 (e + 1) (by omega)
            obtain ⟨y7, y8, y9⟩ := c121 (e + 2) (by omega)
            have hF2 := (hF1.up (f := 16) (v := plQ u e) (by omega)).up (f := 17) (v := plD u e) (by omega)
            refine ⟨xup (xup H1 117 16 (plQ u e)) 117 17 (plD u e), pre _ _ (p2 _ _ ?_), hF2, fun _ => ⟨fun x => absurd x hs, fun _ => ⟨by rw [xup_at, if_neg (by omega), xup_at, if_neg (by omega), a15], by rw [xup_at, if_neg (by omega), xup_at, if_pos rfl], by rw [xup_at, if_pos rfl]⟩⟩⟩
            have fin : ∀ L : XL, xsub L [(2, .inl e), (0, .inr 117)] → XE mM_readOrder (some (.inl (e + 3))) (hN (xup (xup H1 117 16 (plQ u e)) 117 17 (plD u e))) 112 L [] (hN H1) := by
              intro L hL
              refine x_loc hL ?_
              repeat refine x_step rfl ?_
              refine x_ald (len := 79) rfl (by omega) (by omega) ?_
              rw [y1]
              repeat refine x_step rfl ?_
              refine x_ald (len := 79) rfl (by omega) (by omega) ?_
              rw [y4]
              repeat refine x_step rfl ?_
              have ev : 9 * (u e - 49) + u (e + 1) - 49 = plQ u e := by unfold plQ; omega
              rw [ev]
              refine x_ald (len := 79) rfl (by omega) (by omega) ?_
              rw [xup_ne (show (121 : Nat) ≠ 117 by omega), y7]
              repeat refine x_step rfl ?_
              refine x_eq rfl (by omega) (by omega) (fun w => ?_) (fun w => ?_)
              · have ed : plD u e = 1 := if_pos w
                rw [ed]
                repeat refine x_step rfl ?_
                refine x_putz (bi := 17) rfl rfl (by decide) (Or.inr rfl) ?_
                repeat refine x_step rfl ?_
                exact x_iret rfl rfl rfl rfl
              · have ed : plD u e = 0 := if_neg w
                rw [ed]
                repeat refine x_step rfl ?_
                refine x_putz (bi := 17) rfl rfl (by decide) (Or.inl rfl) ?_
                repeat refine x_step rfl ?_
                exact x_iret rfl rfl rfl rfl
            refine x_call rfl s3 ?_
            by_cases g4 : u (e + 2) = 62
            · rw [if_pos (by omega)]
              refine x_eq rfl (by omega) (by omega) (fun w => by omega) (fun w => ?_)
              exact fin _ (by exact ⟨rfl, rfl, trivial⟩)
            · rw [if_neg (by omega)]
              rw [if_pos (by omega)] at s4
              refine x_eq rfl (by omega) (by omega) (fun w => ?_) (fun w => absurd rfl w)
              repeat refine x_step rfl ?_
              refine x_call rfl s4 ?_
              refine x_eq rfl (by omega) (by omega) (fun w => by omega) (fun w => ?_)
              exact fin _ (by exact ⟨rfl, rfl, trivial⟩)
          · have eE : plE u e = -3 - e := by unfold plE; rw [if_neg (fun w => w g1), if_neg (fun w => w g2), if_pos g3]
            rw [eE]
            rw [if_neg (by omega)] at s3 s4
            refine ⟨H1, pre _ _ (p2 _ _ ?_), hF1, fun x => by omega⟩
            refine x_call rfl s3 ?_
            refine x_eq rfl (by omega) (by omega) (fun w => ?_) (fun w => absurd rfl w)
            repeat refine x_step rfl ?_
            refine x_call rfl s4 ?_
            refine x_eq rfl (by omega) (by omega) (fun w => ?_) (fun w => absurd rfl w)
            repeat refine x_step rfl ?_
            exact x_iret rfl rfl rfl rfl
        · have eE : plE u e = -2 - e := by unfold plE; rw [if_neg (fun w => w g1), if_pos g2]
          rw [eE]
          rw [if_neg g2] at s2
          refine ⟨H1, pre _ _ ?_, hF1, fun x => by omega⟩
          refine x_le rfl (by omega) (by omega) (fun w1 => ?_) (fun w1 => by omega)
          repeat refine x_step rfl ?_
          refine x_call rfl s1 ?_
          refine x_eq rfl (by omega) (by omega) (fun w => by omega) (fun w => ?_)
          repeat refine x_step rfl ?_
          refine x_call rfl s2 ?_
          refine x_eq rfl (by omega) (by omega) (fun w => ?_) (fun w => absurd rfl w)
          repeat refine x_step rfl ?_
          exact x_iret rfl rfl rfl rfl
      · have eE : plE u e = -1 - e := by unfold plE; rw [if_pos g1]
        rw [eE]
        rw [if_neg g1] at s1
        refine ⟨H1, pre _ _ ?_, hF1, fun x => by omega⟩
        refine x_le rfl (by omega) (by omega) (fun w1 => ?_) (fun w1 => by omega)
        repeat refine x_step rfl ?_
        refine x_call rfl s1 ?_
        refine x_eq rfl (by omega) (by omega) (fun w => ?_) (fun w => absurd rfl w)
        repeat refine x_step rfl ?_
        exact x_iret rfl rfl rfl rfl
end ROX
