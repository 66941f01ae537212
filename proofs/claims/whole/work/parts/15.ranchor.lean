/-! the reference: tiles and anchors -/
theorem cM_tilesOnBoard (I : Nat → Int → Int) (hb : bdR (I 118)) : XR mM_tilesOnBoard [.inr 117] (hN I) (some (.inl (toS (I 118)))) (hN I) := by
  refine XRa.of (by decide) (Nat.le_of_ble_eq_true rfl) ?_
  have loop : ∀ (d i : Nat), i + d = 81 → XE mM_tilesOnBoard (some (.inl (toS (I 118)))) (hN I) 7 [(2, .inl i), (1, .inl (xsm (fun j => if I 118 j = 0 then 0 else 1) i)), (0, .inr 117)] [.inl 81, .inl i] (hN I) := by
    intro d
    induction d with
    | zero =>
      intro i hi
      refine x_le rfl (by omega) (by omega) (fun hc => ?_) (fun hc => absurd (by omega) hc)
      repeat refine x_step rfl ?_
      exact x_iret rfl rfl (by rw [show i = 81 by omega]; rfl) rfl
    | succ d ih =>
      intro i hi
      refine x_le rfl (by omega) (by omega) (fun hc => absurd hc (by omega)) (fun hc => ?_)
      repeat refine x_step rfl ?_
      refine x_ald (len := 132) rfl (by omega) (by omega) ?_
      have := hb i (by omega) (by omega)
      refine x_le rfl (by omega) (by omega) (fun hc => ?_) (fun hc => ?_)
      · repeat refine x_step rfl ?_
        exact x_loc (by exact ⟨rfl, xsi (by simp only [xsm]; rw [if_pos (by omega)]), rfl, trivial⟩) (ih (i + 1) (by omega))
      · repeat refine x_step rfl ?_
        exact x_loc (by exact ⟨rfl, xsi (by simp only [xsm]; rw [if_neg (by omega)]), rfl, trivial⟩) (ih (i + 1) (by omega))
  repeat refine x_step rfl ?_
  exact x_loc (by exact ⟨rfl, rfl, rfl, trivial⟩) (loop 81 0 rfl)
theorem cM_near (I : Nat → Int → Int) (hb : bdR (I 118)) (q d k : Int) (h0 : 0 ≤ q) (h1 : q ≤ 80) (hd : d = 0 ∨ d = 1) : XR mM_hasTile [.inr 117, .inl (bsS q d k)] (hN I) (some (.inl (if lfS (I 118) q d k = 0 then 0 else 1))) (hN I) := by
  have r1 := aoS_R (k := k) h0 h1 hd
  have r2 := htS01 (I 118) (aoS q d k)
  have r3 := ht_ao hb (k := k) h0 h1 hd
  have e : htS (I 118) (aoS q d k) = (if lfS (I 118) q d k = 0 then 0 else 1) := by
    by_cases w : lfS (I 118) q d k = 0
    · rw [if_pos w]; exact r3.mpr w
    · rw [if_neg w]
      have : ¬ htS (I 118) (aoS q d k) = 0 := fun u => w (r3.mp u)
      omega
  rw [← e]
  exact cM_hasTile I hb (aoS q d k) r1.1 r1.2
theorem cM_isAnchor (I : Nat → Int → Int) (hb : bdR (I 118)) (q : Int) (h0 : 0 ≤ q) (h1 : q ≤ 80) : XR mM_isAnchor [.inr 117, .inl q] (hN I) (some (.inl (anS (I 118) q))) (hN I) := by
  refine XRa.of (by decide) (Nat.le_of_ble_eq_true rfl) ?_
  have b1 := hb q h0 h1
  have yes : ∀ (L : XL) (w : Int), w = 1 → xget L 1 = some (.inl q) → XE mM_isAnchor (some (.inl w)) (hN I) 63 L [] (hN I) := by
    intro L w hw hL
    repeat refine x_step rfl ?_
    refine x_eq rfl (by omega) (by omega) (fun hc => absurd hc (by omega)) (fun hc => ?_)
    repeat refine x_step rfl ?_
    exact x_zret rfl rfl hw.symm (Or.inr rfl) rfl
  repeat refine x_step rfl ?_
  refine x_ald (len := 132) rfl (by omega) (by omega) ?_
  refine x_le rfl (by omega) (by omega) (fun e0 => ?_) (fun e0 => by
    repeat refine x_step rfl ?_
    exact x_zret rfl rfl (by unfold anS; rw [if_neg]; intro w; exact e0 (by omega)) (Or.inl rfl) rfl)
  have e0 : I 118 q = 0 := by omega
  repeat refine x_step rfl ?_
  refine x_call rfl (cM_beside _ q 1 (-1) h0 h1 (by omega) (by omega)) ?_
  refine x_call rfl (cM_near I hb q 1 (-1) h0 h1 (by omega)) ?_
  refine x_eq rfl (by omega) (by omega) (fun e1 => ?_) (fun e1 => yes _ _ (by unfold anS; rw [if_pos]; exact ⟨e0, Or.inr (Or.inr (Or.inl (fun u => e1 (if_pos u))))⟩) rfl)
  repeat refine x_step rfl ?_
  refine x_call rfl (cM_beside _ q 1 1 h0 h1 (by omega) (by omega)) ?_
  refine x_call rfl (cM_near I hb q 1 1 h0 h1 (by omega)) ?_
  refine x_eq rfl (by omega) (by omega) (fun e2 => ?_) (fun e2 => yes _ _ (by unfold anS; rw [if_pos]; exact ⟨e0, Or.inr (Or.inr (Or.inr (Or.inl (fun u => e2 (if_pos u)))))⟩) rfl)
  repeat refine x_step rfl ?_
  refine x_call rfl (cM_beside _ q 0 (-1) h0 h1 (by omega) (by omega)) ?_
  refine x_call rfl (cM_near I hb q 0 (-1) h0 h1 (by omega)) ?_
  refine x_eq rfl (by omega) (by omega) (fun e3 => ?_) (fun e3 => yes _ _ (by unfold anS; rw [if_pos]; exact ⟨e0, Or.inl (fun u => e3 (if_pos u))⟩) rfl)
  repeat refine x_step rfl ?_
  refine x_call rfl (cM_beside _ q 0 1 h0 h1 (by omega) (by omega)) ?_
  refine x_call rfl (cM_near I hb q 0 1 h0 h1 (by omega)) ?_
  refine x_eq rfl (by omega) (by omega) (fun e4 => ?_) (fun e4 => yes _ _ (by unfold anS; rw [if_pos]; exact ⟨e0, Or.inr (Or.inl (fun u => e4 (if_pos u)))⟩) rfl)
  have z1 : lfS (I 118) q 1 (-1) = 0 := by by_cases w : lfS (I 118) q 1 (-1) = 0; exact w; rw [if_neg w] at e1; omega
  have z2 : lfS (I 118) q 1 1 = 0 := by by_cases w : lfS (I 118) q 1 1 = 0; exact w; rw [if_neg w] at e2; omega
  have z3 : lfS (I 118) q 0 (-1) = 0 := by by_cases w : lfS (I 118) q 0 (-1) = 0; exact w; rw [if_neg w] at e3; omega
  have z4 : lfS (I 118) q 0 1 = 0 := by by_cases w : lfS (I 118) q 0 1 = 0; exact w; rw [if_neg w] at e4; omega
  repeat refine x_step rfl ?_
  refine x_eq rfl (by omega) (by omega) (fun hc => ?_) (fun hc => absurd rfl hc)
  repeat refine x_step rfl ?_
  refine x_eq rfl (by omega) (by omega) (fun e5 => ?_) (fun e5 => ?_)
  · repeat refine x_step rfl ?_
    refine x_call rfl (cM_tilesOnBoard I hb) ?_
    have l5 := toS_R (I 118)
    refine x_eq rfl (by omega) (by omega) (fun e6 => ?_) (fun e6 => ?_)
    · repeat refine x_step rfl ?_
      exact x_zret rfl rfl (by unfold anS; rw [if_pos]; exact ⟨e0, Or.inr (Or.inr (Or.inr (Or.inr ⟨e5, e6⟩)))⟩) (Or.inr rfl) rfl
    · repeat refine x_step rfl ?_
      exact x_zret rfl rfl (by unfold anS; rw [if_neg]; rintro ⟨-, w | w | w | w | w⟩; exact w z3; exact w z4; exact w z1; exact w z2; exact e6 w.2) (Or.inl rfl) rfl
  · repeat refine x_step rfl ?_
    exact x_zret rfl rfl (by unfold anS; rw [if_neg]; rintro ⟨-, w | w | w | w | w⟩; exact w z3; exact w z4; exact w z1; exact w z2; exact e5 w.1) (Or.inl rfl) rfl
theorem cM_anchors (I : Nat → Int → Int) (hb : bdR (I 118)) : XR mM_anchors [.inr 117] (hN I) (some (.inl (xsm (anS (I 118)) 81))) (hN I) := by
  refine XRa.of (by decide) (Nat.le_of_ble_eq_true rfl) ?_
  have loop : ∀ (d i : Nat), i + d = 81 → XE mM_anchors (some (.inl (xsm (anS (I 118)) 81))) (hN I) 7 [(2, .inl i), (1, .inl (xsm (anS (I 118)) i)), (0, .inr 117)] [.inl 81, .inl i] (hN I) := by
    intro d
    induction d with
    | zero =>
      intro i hi
      refine x_le rfl (by omega) (by omega) (fun hc => ?_) (fun hc => absurd (by omega) hc)
      repeat refine x_step rfl ?_
      exact x_iret rfl rfl (by rw [show i = 81 by omega]) rfl
    | succ d ih =>
      intro i hi
      refine x_le rfl (by omega) (by omega) (fun hc => absurd hc (by omega)) (fun hc => ?_)
      repeat refine x_step rfl ?_
      refine x_call rfl (cM_isAnchor I hb i (by omega) (by omega)) ?_
      have := anS01 (I 118) i
      refine x_eq rfl (by omega) (by omega) (fun hc => ?_) (fun hc => ?_)
      · repeat refine x_step rfl ?_
        exact x_loc (by exact ⟨rfl, xsi (by simp only [xsm]; omega), rfl, trivial⟩) (ih (i + 1) (by omega))
      · repeat refine x_step rfl ?_
        exact x_loc (by exact ⟨rfl, xsi (by simp only [xsm]; omega), rfl, trivial⟩) (ih (i + 1) (by omega))
  repeat refine x_step rfl ?_
  exact x_loc (by exact ⟨rfl, rfl, rfl, trivial⟩) (loop 81 0 rfl)
