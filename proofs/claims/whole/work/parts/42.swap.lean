/-! a swap -/
def wtS (z g : Int → Int) (p k : Int) : Int → Int := fun j => if 0 ≤ j ∧ j < k then z (81 + 8 * p + j) else g j
def sz1 (z : Int → Int) (p k : Int) : Int → Int := fun j => if 81 + 8 * p ≤ j ∧ j < 81 + 8 * p + k then 0 else z j
def sz3 (z w : Int → Int) (p k : Int) : Int → Int := fun j => if 97 ≤ j ∧ j < 97 + k then w j + z (80 + 8 * p + (j - 96)) else w j
theorem wtS_s (z g : Int → Int) (p : Int) {k : Int} (h : 0 ≤ k) : upF (wtS z g p k) k (z (81 + 8 * p + k)) = wtS z g p (k + 1) := by
  funext j
  unfold upF wtS
  by_cases e : j = k
  · rw [if_pos e, if_pos (by omega), e]
  · rw [if_neg e]
    by_cases w : 0 ≤ j ∧ j < k
    · rw [if_pos w, if_pos (by omega)]
    · rw [if_neg w, if_neg (by omega)]
theorem wtS_0 (z g : Int → Int) (p : Int) : wtS z g p 0 = g := by
  funext j
  exact if_neg (by omega)
theorem sz1_s (z : Int → Int) (p : Int) {k : Int} (h : 0 ≤ k) : upF (sz1 z p k) (81 + 8 * p + k) 0 = sz1 z p (k + 1) := by
  funext j
  unfold upF sz1
  by_cases e : j = 81 + 8 * p + k
  · rw [if_pos e, if_pos (by omega)]
  · rw [if_neg e]
    by_cases w : 81 + 8 * p ≤ j ∧ j < 81 + 8 * p + k
    · rw [if_pos w, if_pos (by omega)]
    · rw [if_neg w, if_neg (by omega)]
theorem sz1_0 (z : Int → Int) (p : Int) : sz1 z p 0 = z := by
  funext j
  exact if_neg (by omega)
theorem sz1_8 (z : Int → Int) (p : Int) : sz1 z p 8 = sw1 z p := by
  funext j
  unfold sz1 sw1
  by_cases w : 81 + 8 * p ≤ j ∧ j ≤ 88 + 8 * p
  · rw [if_pos w, if_pos (by omega)]
  · rw [if_neg w, if_neg (by omega)]
theorem sz3_s (z w : Int → Int) (p : Int) {k : Int} (h : 0 ≤ k) : upF (sz3 z w p k) (97 + k) (sz3 z w p k (97 + k) + z (81 + 8 * p + k)) = sz3 z w p (k + 1) := by
  have e0 : sz3 z w p k (97 + k) = w (97 + k) := if_neg (by omega)
  rw [e0]
  funext j
  unfold upF sz3
  by_cases e : j = 97 + k
  · rw [if_pos e, if_pos (by omega), e, show 80 + 8 * p + (97 + k - 96) = 81 + 8 * p + k by omega]
  · rw [if_neg e]
    by_cases w : 97 ≤ j ∧ j < 97 + k
    · rw [if_pos w, if_pos (by omega)]
    · rw [if_neg w, if_neg (by omega)]
theorem sz3_0 (z w : Int → Int) (p : Int) : sz3 z w p 0 = w := by
  funext j
  exact if_neg (by omega)
theorem sz3_8 (z w : Int → Int) (p : Int) : sz3 z w p 8 = sw3 z w p := by
  funext j
  unfold sz3 sw3
  by_cases w : 97 ≤ j ∧ j ≤ 104
  · rw [if_pos w, if_pos (by omega)]
  · rw [if_neg w, if_neg (by omega)]
def swM (I : Nat → Int → Int) : Nat → Int → Int := xset (xset (rcH I) 123 (wtS (I 118) (I 123) (I 118 106) 8)) 118 (swZ (I 118))
theorem cM_swap (I : Nat → Int → Int) (hz : WZ (I 118)) (h0 : 0 ≤ I 117 2) (h1 : I 117 2 ≤ 5) : XR mM_swap [.inr 117] (hN I) (some (.inl (if ttS (bgZ (I 118)) < ttS (rkZ (I 118) (I 118 106)) then -4 else ttS (rkZ (I 118) (I 118 106))))) (hN (if ttS (bgZ (I 118)) < ttS (rkZ (I 118) (I 118 106)) then I else swM I)) := by
  refine XRa.of (by decide) (Nat.le_of_ble_eq_true rfl) ?_
  have ht := hz.tu
  have hrn := hz.rn ht
  have hbn := amR_sum hz.bz
  have e1 : (fun j => I 118 (81 + 8 * I 118 106 - 1 + j)) = rkZ (I 118) (I 118 106) := by
    funext j
    unfold rkZ
    rw [show 81 + 8 * I 118 106 - 1 + j = 80 + 8 * I 118 106 + j by omega]
  have e2 : (fun j => I 118 (97 - 1 + j)) = bgZ (I 118) := by
    funext j
    unfold bgZ
    rw [show 97 - 1 + j = 96 + j by omega]
  repeat refine x_step rfl ?_
  refine x_ald (len := 132) rfl (by omega) (by omega) ?_
  refine x_call rfl (cM_rackOf _ _) ?_
  repeat refine x_step rfl ?_
  refine x_call rfl (cM_tilesIn I (81 + 8 * I 118 106) (by omega) (by omega)) ?_
  rw [e1]
  repeat refine x_step rfl ?_
  refine x_call rfl (cM_tilesIn I 97 (by omega) (by omega)) ?_
  rw [e2]
  repeat refine x_step rfl ?_
  refine x_le rfl (by omega) (by omega) (fun hc => ?_) (fun hc => ?_)
  · rw [if_neg (by omega), if_neg (by omega)]
    have d8 : rcH I 118 = I 118 := rcH_ne (by omega) (by omega)
    have d3 : rcH I 123 = I 123 := rcH_ne (by omega) (by omega)
    have hw1 := hz.s1 ht
    have ht1 := sw1_t (I 118) (I 118 106)
    have hrc := cM_record I h0 h1
    have hsw : swM I = xset (xset (rcH I) 123 (wtS (I 118) (I 123) (I 118 106) 8)) 118 (swZ (I 118)) := rfl
    generalize rcH I = J at *
    generalize swM I = J2 at *
    have f6 : fzS (I 118 106) 6 (sw1 (I 118) (I 118 106)) 106 = I 118 106 := by rw [fz_ne ht (by omega) 6 _ hw1.tz, sw1_ne (by omega)]
    have f11 : fzS (I 118 106) 6 (sw1 (I 118) (I 118 106)) 111 = I 118 111 := by rw [fz_ne ht (by omega) 6 _ hw1.tz, sw1_ne (by omega)]
    -- back into the bag
    have loop2 : ∀ (n : Nat) (k : Int), k + n = 8 → 0 ≤ k → XE mM_swap (some (.inl (ttS (rkZ (I 118) (I 118 106))))) (hN J2) 88 [(3, .inl k), (2, .inl (ttS (rkZ (I 118) (I 118 106)))), (0, .inr 117)] [.inl 8, .inl k] (hN (xset (xset J 123 (wtS (I 118) (I 123) (I 118 106) 8)) 118 (sz3 (I 118) (fzS (I 118 106) 6 (sw1 (I 118) (I 118 106))) (I 118 106) k))) := by
      intro n
      induction n with
      | zero =>
        intro k a b
        have ek : k = 8 := by omega
        have g6 : sw3 (I 118) (fzS (I 118 106) 6 (sw1 (I 118) (I 118 106))) (I 118 106) 106 = I 118 106 := (if_neg (by omega)).trans f6
        have g11 : sw3 (I 118) (fzS (I 118 106) 6 (sw1 (I 118) (I 118 106))) (I 118 106) 111 = I 118 111 := (if_neg (by omega)).trans f11
        rw [ek, sz3_8]
        refine x_le rfl (by omega) (by omega) (fun hc => ?_) (fun hc => absurd (by omega) hc)
        repeat refine x_step rfl ?_
        refine x_ald (len := 132) rfl (by omega) (by omega) ?_
        rw [xset_at, g11]
        repeat refine x_step rfl ?_
        refine x_ast (len := 132) rfl (by omega) (by omega) ?_
        rw [xup_set, xset_xset, xset_at]
        repeat refine x_step rfl ?_
        refine x_ald (len := 132) rfl (by omega) (by omega) ?_
        rw [xset_at, show upF (sw3 (I 118) (fzS (I 118 106) 6 (sw1 (I 118) (I 118 106))) (I 118 106)) 111 (I 118 111 + 1) 106 = I 118 106 from (if_neg (by omega)).trans g6]
        repeat refine x_step rfl ?_
        refine x_ast (len := 132) rfl (by omega) (by omega) ?_
        rw [xup_set, xset_xset, xset_at]
        repeat refine x_step rfl ?_
        refine x_iret rfl rfl rfl ?_
        rw [hsw]
        rfl
      | succ n ih =>
        intro k a b
        refine x_le rfl (by omega) (by omega) (fun hc => absurd hc (by omega)) (fun hc => ?_)
        repeat refine x_step rfl ?_
        refine x_ald (len := 132) rfl (by omega) (by omega) ?_
        rw [xset_at]
        repeat refine x_step rfl ?_
        refine x_ald (len := 8) rfl (by omega) (by omega) ?_
        rw [xset_ne (show (123 : Nat) ≠ 118 by omega), xset_at, show wtS (I 118) (I 123) (I 118 106) 8 k = I 118 (81 + 8 * I 118 106 + k) from if_pos ⟨b, by omega⟩]
        repeat refine x_step rfl ?_
        refine x_ast (len := 132) rfl (by omega) (by omega) ?_
        rw [xup_set, xset_xset, xset_at, sz3_s _ _ _ b]
        repeat refine x_step rfl ?_
        exact x_loc (by exact ⟨rfl, rfl, rfl, trivial⟩) (ih (k + 1) (by omega) (by omega))
    have loop1 : ∀ (n : Nat) (k : Int), k + n = 8 → 0 ≤ k → XE mM_swap (some (.inl (ttS (rkZ (I 118) (I 118 106))))) (hN J2) 40 [(3, .inl k), (2, .inl (ttS (rkZ (I 118) (I 118 106)))), (1, .inl (81 + 8 * I 118 106)), (0, .inr 117)] [.inl 8, .inl k] (hN (xset (xset J 123 (wtS (I 118) (I 123) (I 118 106) k)) 118 (sz1 (I 118) (I 118 106) k))) := by
      intro n
      induction n with
      | zero =>
        intro k a b
        have ek : k = 8 := by omega
        rw [ek, sz1_8]
        refine x_le rfl (by omega) (by omega) (fun hc => ?_) (fun hc => absurd (by omega) hc)
        repeat refine x_step rfl ?_
        refine x_ald (len := 132) rfl (by omega) (by omega) ?_
        rw [xset_at, sw1_ne (show ¬ (81 + 8 * I 118 106 ≤ 106 ∧ (106 : Int) ≤ 88 + 8 * I 118 106) by omega)]
        refine x_callv rfl (cM_fillRack (I 118 106) ht 6 _ (by rw [xset_at]; exact hw1.tz) (by rw [xset_at, ht1]; rfl) (by rw [xset_at, ht1]; omega)) ?_
        rw [xset_at, xset_xset]
        have go := loop2 8 0 (by omega) (by omega)
        rw [sz3_0] at go
        repeat refine x_step rfl ?_
        exact x_loc (by exact ⟨rfl, rfl, rfl, trivial⟩) go
      | succ n ih =>
        intro k a b
        refine x_le rfl (by omega) (by omega) (fun hc => absurd hc (by omega)) (fun hc => ?_)
        repeat refine x_step rfl ?_
        refine x_ald (len := 132) rfl (by omega) (by omega) ?_
        rw [xset_at, show sz1 (I 118) (I 118 106) k (81 + 8 * I 118 106 + k) = I 118 (81 + 8 * I 118 106 + k) from if_neg (by omega)]
        refine x_ast (len := 8) rfl (by omega) (by omega) ?_
        have es : xup (xset (xset J 123 (wtS (I 118) (I 123) (I 118 106) k)) 118 (sz1 (I 118) (I 118 106) k)) 123 k (I 118 (81 + 8 * I 118 106 + k)) = xset (xset J 123 (wtS (I 118) (I 123) (I 118 106) (k + 1))) 118 (sz1 (I 118) (I 118 106) k) := by
          rw [← wtS_s _ _ _ b]
          funext x y
          by_cases h3 : x = 123
          · subst h3
            rw [xup_at, xset_ne (by omega), xset_at, xset_ne (by omega), xset_at]
            rfl
          · rw [xup_ne h3]
            by_cases h8 : x = 118
            · subst h8
              rw [xset_at, xset_at]
            · rw [xset_ne h8, xset_ne h8, xset_ne h3, xset_ne h3]
        rw [es]
        repeat refine x_step rfl ?_
        refine x_ast (len := 132) rfl (by omega) (by omega) ?_
        rw [xup_set, xset_xset, xset_at, sz1_s _ _ b]
        repeat refine x_step rfl ?_
        exact x_loc (by exact ⟨rfl, rfl, rfl, rfl, trivial⟩) (ih (k + 1) (by omega) (by omega))
    have go := loop1 8 0 (by omega) (by omega)
    rw [wtS_0, sz1_0, ← d3, xset_self, ← d8, xset_self] at go
    repeat refine x_step rfl ?_
    refine x_callv rfl hrc ?_
    repeat refine x_step rfl ?_
    rw [d8] at go
    exact x_loc (by exact ⟨rfl, rfl, rfl, rfl, trivial⟩) go
  · rw [if_pos (by omega), if_pos (by omega)]
    repeat refine x_step rfl ?_
    exact x_iret rfl rfl rfl rfl
theorem swI_ne {I : Nat → Int → Int} {A a : Nat} (hA : A = 10 ∨ A = 12) (h : a < 4 ∨ 16 < a) : swI I A a = I a := by
  unfold swI fiH
  rw [xup_ne (by omega), xup_ne (by omega), mvH_ne (by omega) (by omega), xset_ne (by omega), xset_ne (by omega), xup_ne (by omega), mvH_ne (by omega) (by omega)]
theorem S_swap {I : Nat → Int → Int} (h : SIM I) : SAM mB_swap mM_swap [] I := by
  have hK := h.pr
  have hG := hK.1
  obtain ⟨hgm, hAS⟩ := hG.sw hK.2.1
  have hwz := hG.2.sw
  have ht := hG.t01
  have htz := hG.2.tu
  have hrn := hG.2.rn htz
  have hA2 : rkA (prH I 4 7) = 10 ∨ rkA (prH I 4 7) = 12 := by unfold rkA; split <;> simp
  have hne : ∀ a : Nat, a < 4 ∨ 16 < a → swI (prH I) (rkA (prH I 4 7)) a = prH I a := fun a w => swI_ne hA2 w
  obtain ⟨x0, x1, s0, s1, sm⟩ := h.x0
  have eb : ttS (prH I 14) = ttS (bgZ (prH I 118)) := ttS_c hG.1.bg
  have er : ttS (prH I (rkA (prH I 4 7))) = ttS (rkZ (prH I 118) (prH I 118 106)) := ttS_c hG.rk
  have hb14 : amR (prH I 14) := fun k a b => by
    have e : prH I 14 k = bgZ (prH I 118) k := hG.1.bg k a b
    rw [e]
    exact hG.2.bz k a b
  have hx : 0 ≤ prH I 4 6 ∧ prH I 4 6 ≤ 65536 := by
    have e : prH I 4 6 = prH I 118 105 := hG.1.x 6 (by omega) (by omega)
    rw [e]
    exact hG.2.dr
  have hcl := cG_makeSwap (prH I) ht hG.az hb14 hx
  rw [eb, er] at hcl
  generalize swI (prH I) (rkA (prH I 4 7)) = X at *
  have p30 : prH I 30 = I 30 := prH_ne h.2.2.1 (by omega)
  have p7 : prH I 117 2 = I 117 2 := by rw [prH_ne h.2.2.1 (by omega)]
  by_cases hc : ttS (bgZ (prH I 118)) < ttS (rkZ (prH I 118) (prH I 118 106))
  · rw [if_pos hc, if_pos hc] at hcl
    refine ⟨-4, prH I, prH I, ?_, ?_, hK⟩
    · refine XRa.of (by decide) (Nat.le_of_ble_eq_true rfl) ?_
      repeat refine x_step rfl ?_
      refine x_callv rfl (cH_prepare I x0 x1 s0 s1) ?_
      repeat refine x_step rfl ?_
      refine x_call rfl hcl ?_
      refine x_call rfl (cB_kept (prH I) (by rw [p30]; exact x0) (by rw [p30]; exact x1) (by rw [p30]; exact s0) (by rw [p30]; exact s1) _ (by omega)) ?_
      rw [if_neg (by omega)]
      exact x_iret rfl rfl rfl rfl
    · have := cM_swap (prH I) hG.2 (by omega) (by omega)
      rw [if_pos hc, if_pos hc] at this
      exact this
  · rw [if_neg hc, if_neg hc] at hcl
    have e30 : X 30 = I 30 := by rw [hne _ (by omega), p30]
    have e8 : kpH X 118 = prH I 118 := by rw [kpH_ne (by omega), hne _ (by omega)]
    have e7k : kpH X 117 2 = I 117 2 := by rw [kpH_ne (by omega), hne _ (by omega), p7]
    refine ⟨ttS (rkZ (prH I 118) (prH I 118 106)), kpH X, swM (kpH X), ?_, ?_, ?_⟩
    · refine XRa.of (by decide) (Nat.le_of_ble_eq_true rfl) ?_
      repeat refine x_step rfl ?_
      refine x_callv rfl (cH_prepare I x0 x1 s0 s1) ?_
      repeat refine x_step rfl ?_
      refine x_call rfl hcl ?_
      refine x_call rfl (cB_kept X (by rw [e30]; exact x0) (by rw [e30]; exact x1) (by rw [e30]; exact s0) (by rw [e30]; exact s1) _ (by omega)) ?_
      rw [if_pos (by omega)]
      exact x_iret rfl rfl rfl rfl
    · have := cM_swap (kpH X) (by rw [e8]; exact hG.2) (by omega) (by omega)
      rw [e8, if_neg hc, if_neg hc] at this
      exact this
    · refine h.done (X := X) (fun a w => hne a w) (fun a w4 w5 w6 => ?_) ?_ hgm hwz hAS
      · unfold swM
        rw [xset_ne w4, xset_ne w6]
      · unfold swM
        rw [xset_at, e8]
