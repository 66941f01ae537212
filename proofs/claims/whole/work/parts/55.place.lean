/-! the orders of a text: the class's places and faults -/
section PLC
variable {I : Nat → Int → Int}
theorem FO.up {H : Nat → Int → Int} (hF : FO I H) {f v : Int} (h : f ≠ 1) : FO I (xup H 110 f v) := ⟨fun a w => by rw [xup_ne w]; exact hF.1 a w, by rw [xup_at, if_neg (Ne.symm h)]; exact hF.2⟩
theorem plE_R (u : Int → Int) {p : Int} (h : 0 ≤ p) : plE u p = p + 3 ∨ plE u p = -1 - p ∨ plE u p = -2 - p ∨ plE u p = -3 - p := by
  unfold plE
  split
  · omega
  · split
    · omega
    · split <;> omega
theorem cO_readPlace (h : TX I) {H : Nat → Int → Int} (hF : FO I H) {p : Int} (hp : H 110 2 = p) (h0 : 0 ≤ p ∧ p ≤ 300) : ∃ J, XR mO_readPlace [.inr 110] (hN H) (some (.inl (if plE (cuS (I 111) (I 110 1)) p < 0 then 0 else 1))) (hN J) ∧ FO I J ∧ J 110 2 = psE (plE (cuS (I 111) (I 110 1)) p) ∧ J 110 3 = H 110 3 ∧ J 110 4 = H 110 4 ∧ (0 ≤ plE (cuS (I 111) (I 110 1)) p → J 110 5 = plQ (cuS (I 111) (I 110 1)) p ∧ J 110 6 = plD (cuS (I 111) (I 110 1)) p) := by
  have hcu := fun q => (h.cu q).1
  have hcur := fun (H : Nat → Int → Int) (hF : FO I H) (q : Int) (e : H 110 2 = q) (hq : 0 ≤ q ∧ q ≤ 1000) => by
    have := cO_current h hF (by rw [e]; omega)
    rw [e] at this
    exact this
  generalize hu : cuS (I 111) (I 110 1) = u at *
  have dok : ∀ (v : Int) (J H' : Nat → Int → Int) (d q sq : Int), FO I H' → H' 110 2 = q → H' 110 5 = sq → 0 ≤ q ∧ q ≤ 1000 → d < 2 → -10 ≤ d → 49 ≤ u q ∧ u q ≤ 57 → XE mO_readPlace (some (.inl v)) (hN J) 9 [(1, .inl (d + 1)), (0, .inr 110)] [.inl 2, .inl (d + 1)] (hN (xup (xup H' 110 5 (sq * 9 + (u q - 49))) 110 2 (q + 1))) → XE mO_readPlace (some (.inl v)) (hN J) 9 [(1, .inl d), (0, .inr 110)] [.inl 2, .inl d] (hN H') := by
    intro v J H' d q sq hF' e2 e5 hq hd hd2 hdg x
    have hc := hcur H' hF' q e2 hq
    refine x_le rfl (by omega) (by omega) (fun w => by omega) (fun w => ?_)
    repeat refine x_step rfl ?_
    refine x_call rfl hc ?_
    repeat refine x_step rfl ?_
    refine x_lt rfl (by omega) (by omega) (fun w1 => by omega) (fun w1 => ?_)
    repeat refine x_step rfl ?_
    refine x_call rfl hc ?_
    repeat refine x_step rfl ?_
    refine x_le rfl (by omega) (by omega) (fun w2 => ?_) (fun w2 => by omega)
    repeat refine x_step rfl ?_
    rw [e5]
    refine x_call rfl hc ?_
    refine x_step rfl ?_
    refine x_step rfl ?_
    refine x_step rfl ?_
    refine x_step rfl ?_
    have e2b : ∀ v, xup H' 110 5 v 110 2 = q := fun v => by rw [xup_at, if_neg (by omega), e2]
    repeat refine x_step rfl ?_
    rw [e2b]
    exact x_loc (by exact ⟨rfl, rfl, trivial⟩) x
  have dno : ∀ (H' : Nat → Int → Int) (d q : Int), FO I H' → H' 110 2 = q → 0 ≤ q ∧ q ≤ 1000 → d < 2 → -10 ≤ d → ¬ (49 ≤ u q ∧ u q ≤ 57) → XE mO_readPlace (some (.inl 0)) (hN H') 9 [(1, .inl d), (0, .inr 110)] [.inl 2, .inl d] (hN H') := by
    intro H' d q hF' e2 hq hd hd2 hdg
    have hc := hcur H' hF' q e2 hq
    have hcq := hcu q
    have out : ∀ L : XL, XE mO_readPlace (some (.inl 0)) (hN H') 30 L [] (hN H') := fun L => by
      repeat refine x_step rfl ?_
      exact x_zret rfl rfl rfl (Or.inl rfl) rfl
    refine x_le rfl (by omega) (by omega) (fun w => by omega) (fun w => ?_)
    repeat refine x_step rfl ?_
    refine x_call rfl hc ?_
    repeat refine x_step rfl ?_
    refine x_lt rfl (by omega) (by omega) (fun w1 => out _) (fun w1 => ?_)
    repeat refine x_step rfl ?_
    refine x_call rfl hc ?_
    repeat refine x_step rfl ?_
    refine x_le rfl (by omega) (by omega) (fun w2 => by omega) (fun w2 => out _)
  have start : ∀ (v : Int) (J : Nat → Int → Int), XE mO_readPlace (some (.inl v)) (hN J) 9 [(1, .inl 0), (0, .inr 110)] [.inl 2, .inl 0] (hN (xup H 110 5 0)) → XR mO_readPlace [.inr 110] (hN H) (some (.inl v)) (hN J) := by
    intro v J x
    refine XRa.of (by decide) (Nat.le_of_ble_eq_true rfl) ?_
    repeat refine x_step rfl ?_
    exact x_loc (by exact ⟨rfl, rfl, trivial⟩) x
  have hF0 := hF.up (f := 5) (v := 0) (by omega)
  have a2 : xup H 110 5 0 110 2 = p := by rw [xup_at, if_neg (by omega), hp]
  have a5 : xup H 110 5 0 110 5 = 0 := by rw [xup_at, if_pos rfl]
  have a3 : xup H 110 5 0 110 3 = H 110 3 := by rw [xup_at, if_neg (by omega)]
  have a4 : xup H 110 5 0 110 4 = H 110 4 := by rw [xup_at, if_neg (by omega)]
  generalize xup H 110 5 0 = H0 at *
  by_cases g1 : 49 ≤ u p ∧ u p ≤ 57
  · have hF1 := (hF0.up (f := 5) (v := 0 * 9 + (u p - 49)) (by omega)).up (f := 2) (v := p + 1) (by omega)
    have s1 := fun v J => dok v J H0 0 p 0 hF0 a2 a5 (by omega) (by omega) (by omega) g1
    have b2 : xup (xup H0 110 5 (0 * 9 + (u p - 49))) 110 2 (p + 1) 110 2 = p + 1 := by rw [xup_at, if_pos rfl]
    have b5 : xup (xup H0 110 5 (0 * 9 + (u p - 49))) 110 2 (p + 1) 110 5 = u p - 49 := by rw [xup_at, if_neg (by omega), xup_at, if_pos rfl]; omega
    have b3 : xup (xup H0 110 5 (0 * 9 + (u p - 49))) 110 2 (p + 1) 110 3 = H 110 3 := by rw [xup_at, if_neg (by omega), xup_at, if_neg (by omega), a3]
    have b4 : xup (xup H0 110 5 (0 * 9 + (u p - 49))) 110 2 (p + 1) 110 4 = H 110 4 := by rw [xup_at, if_neg (by omega), xup_at, if_neg (by omega), a4]
    generalize xup (xup H0 110 5 (0 * 9 + (u p - 49))) 110 2 (p + 1) = H1 at *
    by_cases g2 : 49 ≤ u (p + 1) ∧ u (p + 1) ≤ 57
    · have hF2 := (hF1.up (f := 5) (v := (u p - 49) * 9 + (u (p + 1) - 49)) (by omega)).up (f := 2) (v := p + 1 + 1) (by omega)
      have s2 := fun v J => dok v J H1 (0 + 1) (p + 1) (u p - 49) hF1 b2 b5 (by omega) (by omega) (by omega) g2
      have c2 : xup (xup H1 110 5 ((u p - 49) * 9 + (u (p + 1) - 49))) 110 2 (p + 1 + 1) 110 2 = p + 2 := by rw [xup_at, if_pos rfl]; omega
      have c5 : xup (xup H1 110 5 ((u p - 49) * 9 + (u (p + 1) - 49))) 110 2 (p + 1 + 1) 110 5 = plQ u p := by rw [xup_at, if_neg (by omega), xup_at, if_pos rfl]; unfold plQ; omega
      have c3 : xup (xup H1 110 5 ((u p - 49) * 9 + (u (p + 1) - 49))) 110 2 (p + 1 + 1) 110 3 = H 110 3 := by rw [xup_at, if_neg (by omega), xup_at, if_neg (by omega), b3]
      have c4 : xup (xup H1 110 5 ((u p - 49) * 9 + (u (p + 1) - 49))) 110 2 (p + 1 + 1) 110 4 = H 110 4 := by rw [xup_at, if_neg (by omega), xup_at, if_neg (by omega), b4]
      generalize xup (xup H1 110 5 ((u p - 49) * 9 + (u (p + 1) - 49))) 110 2 (p + 1 + 1) = H2 at *
      have hc := hcur H2 hF2 (p + 2) c2 (by omega)
      have hcq := hcu (p + 2)
      -- behind the digits, the direction at hand
      have dir : ∀ (v x : Int) (J : Nat → Int → Int), (x = 0 ∨ x = 1) → (x = 1 ↔ u (p + 2) = 118) → XE mO_readPlace (some (.inl v)) (hN J) 89 [(0, .inr 110)] [.inl x] (hN (xup H2 110 6 x)) → XE mO_readPlace (some (.inl v)) (hN J) 9 [(1, .inl (0 + 1 + 1)), (0, .inr 110)] [.inl 2, .inl (0 + 1 + 1)] (hN H2) := by
        intro v x J hx hxe k
        refine x_le rfl (by omega) (by omega) (fun w => ?_) (fun w => by omega)
        repeat refine x_step rfl ?_
        refine x_call rfl hc ?_
        repeat refine x_step rfl ?_
        refine x_eq rfl (by omega) (by omega) (fun w => ?_) (fun w => ?_)
        · have ex : x = 1 := hxe.mpr w
          subst ex
          repeat refine x_step rfl ?_
          refine x_putz (bi := 6) rfl rfl (by decide) (Or.inr rfl) ?_
          repeat refine x_step rfl ?_
          rw [xup_at, if_pos rfl]
          exact x_loc (by exact ⟨rfl, trivial⟩) k
        · have ex : x = 0 := by
            rcases hx with e | e
            · exact e
            · exact absurd (hxe.mp e) w
          subst ex
          repeat refine x_step rfl ?_
          refine x_putz (bi := 6) rfl rfl (by decide) (Or.inl rfl) ?_
          repeat refine x_step rfl ?_
          rw [xup_at, if_pos rfl]
          exact x_loc (by exact ⟨rfl, trivial⟩) k
      by_cases g3 : u (p + 2) = 62 ∨ u (p + 2) = 118
      · have eE : plE u p = p + 3 := by unfold plE; rw [if_neg (fun w => w g1), if_neg (fun w => w g2), if_neg (fun w => w g3)]
        rw [eE, if_neg (by omega)]
        have fin : ∀ (x : Int) (L : XL), xsub L [(0, .inr 110)] → XE mO_readPlace (some (.inl 1)) (hN (xup (xup H2 110 6 x) 110 2 (p + 3))) 103 L [] (hN (xup H2 110 6 x)) := by
          intro x L hL
          refine x_loc hL ?_
          repeat refine x_step rfl ?_
          exact x_zret rfl rfl rfl (Or.inr rfl) (by rw [xup_at, if_neg (by omega), c2, show p + 2 + 1 = p + 3 by omega])
        by_cases g4 : u (p + 2) = 118
        · refine ⟨xup (xup H2 110 6 1) 110 2 (p + 3), start _ _ (s1 _ _ (s2 _ _ (dir 1 1 _ (Or.inr rfl) (by omega) ?_))), (hF2.up (by omega)).up (by omega), ?_, ?_, ?_, fun _ => ⟨?_, ?_⟩⟩
          · refine x_eq rfl (by omega) (by omega) (fun w => by omega) (fun w => ?_)
            exact fin 1 _ (by exact ⟨rfl, trivial⟩)
          · rw [xup_at, if_pos rfl]; unfold psE; rw [if_neg (by omega)]
          · rw [xup_at, if_neg (by omega), xup_at, if_neg (by omega), c3]
          · rw [xup_at, if_neg (by omega), xup_at, if_neg (by omega), c4]
          · rw [xup_at, if_neg (by omega), xup_at, if_neg (by omega), c5]
          · rw [xup_at, if_neg (by omega), xup_at, if_pos rfl]; unfold plD; rw [if_pos g4]
        · refine ⟨xup (xup H2 110 6 0) 110 2 (p + 3), start _ _ (s1 _ _ (s2 _ _ (dir 1 0 _ (Or.inl rfl) (by omega) ?_))), (hF2.up (by omega)).up (by omega), ?_, ?_, ?_, fun _ => ⟨?_, ?_⟩⟩
          · refine x_eq rfl (by omega) (by omega) (fun w => ?_) (fun w => absurd rfl w)
            repeat refine x_step rfl ?_
            have hc2 := hcur (xup H2 110 6 0) (hF2.up (by omega)) (p + 2) (by rw [xup_at, if_neg (by omega), c2]) (by omega)
            refine x_call rfl hc2 ?_
            repeat refine x_step rfl ?_
            refine x_eq rfl (by omega) (by omega) (fun w => ?_) (fun w => by omega)
            exact fin 0 _ (by exact ⟨rfl, trivial⟩)
          · rw [xup_at, if_pos rfl]; unfold psE; rw [if_neg (by omega)]
          · rw [xup_at, if_neg (by omega), xup_at, if_neg (by omega), c3]
          · rw [xup_at, if_neg (by omega), xup_at, if_neg (by omega), c4]
          · rw [xup_at, if_neg (by omega), xup_at, if_neg (by omega), c5]
          · rw [xup_at, if_neg (by omega), xup_at, if_pos rfl]; unfold plD; rw [if_neg g4]
      · have eE : plE u p = -3 - p := by unfold plE; rw [if_neg (fun w => w g1), if_neg (fun w => w g2), if_pos g3]
        rw [eE, if_pos (by omega)]
        refine ⟨xup H2 110 6 0, start _ _ (s1 _ _ (s2 _ _ (dir 0 0 _ (Or.inl rfl) (by omega) ?_))), hF2.up (by omega), ?_, ?_, ?_, fun w => by omega⟩
        · refine x_eq rfl (by omega) (by omega) (fun w => ?_) (fun w => absurd rfl w)
          repeat refine x_step rfl ?_
          have hc2 := hcur (xup H2 110 6 0) (hF2.up (by omega)) (p + 2) (by rw [xup_at, if_neg (by omega), c2]) (by omega)
          refine x_call rfl hc2 ?_
          repeat refine x_step rfl ?_
          refine x_eq rfl (by omega) (by omega) (fun w => by omega) (fun w => ?_)
          repeat refine x_step rfl ?_
          exact x_zret rfl rfl rfl (Or.inl rfl) rfl
        · rw [xup_at, if_neg (by omega), c2]; unfold psE; rw [if_pos (by omega)]; omega
        · rw [xup_at, if_neg (by omega), c3]
        · rw [xup_at, if_neg (by omega), c4]
    · have eE : plE u p = -2 - p := by unfold plE; rw [if_neg (fun w => w g1), if_pos g2]
      rw [eE, if_pos (by omega)]
      exact ⟨H1, start _ _ (s1 _ _ (dno H1 (0 + 1) (p + 1) hF1 b2 (by omega) (by omega) (by omega) g2)), hF1, by rw [b2]; unfold psE; rw [if_pos (by omega)]; omega, b3, b4, fun w => by omega⟩
  · have eE : plE u p = -1 - p := by unfold plE; rw [if_pos g1]
    rw [eE, if_pos (by omega)]
    exact ⟨H0, start _ _ (dno H0 0 p hF0 a2 (by omega) (by omega) (by omega) g1), hF0, by rw [a2]; unfold psE; rw [if_pos (by omega)]; omega, a3, a4, fun w => by omega⟩
end PLC
