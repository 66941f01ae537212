/-! the law's runs and cross-checks -/
section LAW2
variable {I : Nat → Int → Int}
theorem fwS_end {f : Int → Int} {x k c m : Int} (hk : k ≠ 0) (hf : f k = 0) : ∀ n : Nat, fwS f x n k c m = (c, m) := by
  intro n
  cases n with
  | zero => rfl
  | succ n => unfold fwS; rw [if_neg hk, if_pos hf]
theorem cL_run (h : SIM I) (q d x : Int) (h0 : 0 ≤ q) (h1 : q ≤ 80) (hd : d = 0 ∨ d = 1) (hx : 1 ≤ x ∧ x ≤ 8) : XR mL_run [.inr 3, .inl q, .inl d, .inl x] (hN I) (some (.inl (if rnS (I 118) q d x = 0 then -5 else rnS (I 118) q d x))) (hN I) := by
  have hb := h.1.2.bd
  have hc := c0_R (d := d) h0 h1
  have hlf := lfS_R hb q d
  refine XRa.of (by decide) (Nat.le_of_ble_eq_true rfl) ?_
  have C : ∀ (k0 last : Int), k0 ≤ 0 → -8 ≤ k0 → 0 ≤ last → last ≤ 8 → lfS (I 118) q d (last + 1) = 0 → (∀ j, k0 ≤ j → j ≤ last → j ≠ 0 → lfS (I 118) q d j ≠ 0) → ∀ (n : Nat) (k cd w : Int), k + n = last + 1 → k0 ≤ k → w = (if 2 ≤ (fwS (lfS (I 118) q d) x (9 - k).toNat k cd (k - k0)).2 then (fwS (lfS (I 118) q d) x (9 - k).toNat k cd (k - k0)).1 else -5) → XE mL_run (some (.inl w)) (hN I) 61 [(7, .inl k), (6, .inl cd), (5, .inl last), (4, .inl k0), (3, .inl x), (2, .inl d), (1, .inl q), (0, .inr 3)] [.inl last, .inl k] (hN I) := by
    intro k0 last e1 e2 e3 e4 e5 e6 n
    induction n with
    | zero =>
      intro k cd w g1 g2 hw
      have ek : k = last + 1 := by omega
      rw [fwS_end (by omega) (by rw [ek]; exact e5)] at hw
      have hw : w = (if 2 ≤ k - k0 then cd else -5) := hw
      refine x_lt rfl (by omega) (by omega) (fun _ => ?_) (fun v => absurd (by omega) v)
      repeat refine x_step rfl ?_
      refine x_eq rfl (by omega) (by omega) (fun v => ?_) (fun v => ?_)
      · repeat refine x_step rfl ?_
        exact x_iret rfl rfl (by rw [hw, if_neg (by omega)]) rfl
      · repeat refine x_step rfl ?_
        exact x_iret rfl rfl (by rw [hw, if_pos (by omega)]) rfl
    | succ n ih =>
      intro k cd w g1 g2 hw
      have en : (9 - k).toNat = (9 - (k + 1)).toNat + 1 := by omega
      have hnz : (if k = 0 then x else lfS (I 118) q d k) ≠ 0 := by
        by_cases v : k = 0
        · rw [if_pos v]; omega
        · rw [if_neg v]; exact e6 k g2 (by omega) v
      rw [en] at hw
      unfold fwS at hw
      rw [if_neg hnz, show k - k0 + 1 = k + 1 - k0 by omega] at hw
      refine x_lt rfl (by omega) (by omega) (fun v => absurd v (by omega)) (fun _ => ?_)
      repeat refine x_step rfl ?_
      refine x_eq rfl (by omega) (by omega) (fun v => ?_) (fun v => ?_)
      · rw [if_pos v] at hw
        repeat refine x_step rfl ?_
        exact x_loc (by exact ⟨rfl, rfl, rfl, rfl, rfl, rfl, rfl, rfl, trivial⟩) (ih (k + 1) (9 * cd + x) w (by omega) (by omega) (by rw [show 9 * cd + x = cd * 9 + x by omega]; exact hw))
      · rw [if_neg v] at hw
        have hin := lfC h0 h1 hd (e6 k g2 (by omega) v)
        have hat := at_in h0 h1 hd hin.1 hin.2
        have ea : aoS q d k = atS q d k := by unfold aoS; rw [if_pos hin]
        have el : I 118 (aoS q d k) = lfS (I 118) q d k := by rw [ea]; exact lf_in hd h0 h1 hin.1 hin.2
        repeat refine x_step rfl ?_
        refine x_call rfl (cL_further _ q d k h0 h1 hd (by omega)) ?_
        refine x_call rfl (B_tile h (aoS q d k) (by omega) (by omega)) ?_
        rw [el]
        repeat refine x_step rfl ?_
        exact x_loc (by exact ⟨rfl, rfl, rfl, rfl, rfl, rfl, rfl, rfl, trivial⟩) (ih (k + 1) (9 * cd + lfS (I 118) q d k) w (by omega) (by omega) (by rw [show 9 * cd + lfS (I 118) q d k = cd * 9 + lfS (I 118) q d k by omega]; exact hw))
  have B : ∀ (k0 : Int), k0 ≤ 0 → -8 ≤ k0 → bkS (lfS (I 118) q d) 9 0 = k0 → (∀ j, k0 ≤ j → j < 0 → lfS (I 118) q d j ≠ 0) → ∀ (n : Nat) (last : Int), last + n = 9 → 0 ≤ last → last ≤ 8 → (∀ j, 1 ≤ j → j ≤ last → lfS (I 118) q d j ≠ 0) → XE mL_run (some (.inl (if rnS (I 118) q d x = 0 then -5 else rnS (I 118) q d x))) (hN I) 35 [(5, .inl last), (4, .inl k0), (3, .inl x), (2, .inl d), (1, .inl q), (0, .inr 3)] [.inl (last + 1), .inl d, .inl q, .inr 3] (hN I) := by
    intro k0 e1 e2 e3 e4 n
    induction n with
    | zero => intro last g1 g2 g3 g4; omega
    | succ n ih =>
      intro last g1 g2 g3 g4
      have hl1 := hlf (last + 1)
      refine x_call rfl (cL_further _ q d (last + 1) h0 h1 hd (by omega)) ?_
      refine x_call rfl (cL_far h q d (last + 1) h0 h1 hd) ?_
      refine x_le rfl (by omega) (by omega) (fun v => ?_) (fun v => ?_)
      · have hz : lfS (I 118) q d (last + 1) = 0 := by omega
        repeat refine x_step rfl ?_
        refine x_loc (by exact ⟨rfl, rfl, rfl, rfl, rfl, rfl, rfl, rfl, trivial⟩) (C k0 last e1 e2 g2 g3 hz (fun j j0 j1 j2 => ?_) (last + 1 - k0).toNat k0 0 _ (by omega) (by omega) ?_)
        · by_cases v2 : j < 0
          · exact e4 j j0 v2
          · exact g4 j (by omega) j1
        · rw [show k0 - k0 = 0 by omega]
          have h3 := rnF_0 (fun k => (hlf k).1) (show 0 ≤ x by omega) k0
          have er : rnS (I 118) q d x = rnF (lfS (I 118) q d) x k0 := by unfold rnS; rw [e3]
          rw [er]
          by_cases h4 : 2 ≤ (fwS (lfS (I 118) q d) x (9 - k0).toNat k0 0 0).2
          · rw [if_neg (fun w => h3.mp w h4), if_pos h4]
            unfold rnF
            rw [if_pos h4]
          · rw [if_pos (h3.mpr h4), if_neg h4]
      · have hnz : lfS (I 118) q d (last + 1) ≠ 0 := by omega
        have hin := lfC h0 h1 hd hnz
        repeat refine x_step rfl ?_
        refine x_loc (by exact ⟨rfl, rfl, rfl, rfl, rfl, rfl, trivial⟩) (ih (last + 1) (by omega) (by omega) (by omega) (fun j j0 j1 => ?_))
        by_cases v2 : j = last + 1
        · rw [v2]; exact hnz
        · exact g4 j j0 (by omega)
  have A : ∀ (n : Nat) (k : Int), k + 9 = n → k ≤ 0 → 0 ≤ c0S q d + k → bkS (lfS (I 118) q d) 9 0 = bkS (lfS (I 118) q d) n k → (∀ j, k ≤ j → j < 0 → lfS (I 118) q d j ≠ 0) → XE mL_run (some (.inl (if rnS (I 118) q d x = 0 then -5 else rnS (I 118) q d x))) (hN I) 13 [(5, .inl 0), (4, .inl k), (3, .inl x), (2, .inl d), (1, .inl q), (0, .inr 3)] [.inl (k - 1), .inl d, .inl q, .inr 3] (hN I) := by
    intro n
    induction n with
    | zero => intro k g1 g2 g3; omega
    | succ n ih =>
      intro k g1 g2 g3 g4 g5
      have hl1 := hlf (k - 1)
      have eb : bkS (lfS (I 118) q d) (n + 1) k = if lfS (I 118) q d (k - 1) = 0 then k else bkS (lfS (I 118) q d) n (k - 1) := rfl
      refine x_call rfl (cL_further _ q d (k - 1) h0 h1 hd (by omega)) ?_
      refine x_call rfl (cL_far h q d (k - 1) h0 h1 hd) ?_
      refine x_le rfl (by omega) (by omega) (fun v => ?_) (fun v => ?_)
      · rw [if_pos (by omega)] at eb
        repeat refine x_step rfl ?_
        exact x_loc (by exact ⟨rfl, rfl, rfl, rfl, rfl, rfl, trivial⟩) (B k g2 (by omega) (g4.trans eb) g5 9 0 (by omega) (by omega) (by omega) (fun j j0 j1 => by omega))
      · have hnz : lfS (I 118) q d (k - 1) ≠ 0 := by omega
        have hin := lfC h0 h1 hd hnz
        rw [if_neg hnz] at eb
        repeat refine x_step rfl ?_
        refine x_loc (by exact ⟨rfl, rfl, rfl, rfl, rfl, rfl, trivial⟩) (ih (k - 1) (by omega) (by omega) (by omega) (g4.trans eb) (fun j j0 j1 => ?_))
        by_cases v2 : j = k - 1
        · rw [v2]; exact hnz
        · exact g5 j (by omega) j1
  repeat refine x_step rfl ?_
  exact x_loc (by exact ⟨rfl, rfl, rfl, rfl, rfl, rfl, trivial⟩) (A 9 0 (by omega) (by omega) (by omega) rfl (fun j j0 j1 => by omega))
theorem cL_crossCheck (h : SIM I) (q d : Int) (h0 : 0 ≤ q) (h1 : q ≤ 80) (hd : d = 0 ∨ d = 1) : XR mL_crossCheck [.inr 3, .inl q, .inl d] (hN I) (some (.inl (csF (alP (I 118) (inM I) q d) 8))) (hN I) := by
  have hb := h.1.2.bd
  refine XRa.of (by decide) (Nat.le_of_ble_eq_true rfl) ?_
  have hd1 : 1 - d = 0 ∨ 1 - d = 1 := by omega
  have loop : ∀ (n : Nat) (i : Nat), i + n = 8 → XE mL_crossCheck (some (.inl (csF (alP (I 118) (inM I) q d) 8))) (hN I) 9 [(4, .inl ((i : Int) + 1)), (3, .inl (csF (alP (I 118) (inM I) q d) i)), (0, .inr 3), (1, .inl q), (2, .inl d)] [.inl 9, .inl ((i : Int) + 1)] (hN I) := by
    intro n
    induction n with
    | zero =>
      intro i hi
      refine x_le rfl (by omega) (by omega) (fun hc => ?_) (fun hc => absurd (by omega) hc)
      repeat refine x_step rfl ?_
      exact x_iret rfl rfl (by rw [show i = 8 by omega]) rfl
    | succ n ih =>
      intro i hi
      have hcs := csF_nn (alP (I 118) (inM I) q d) i
      have hrn := rnS_R hb h0 h1 hd1 (x := (i : Int) + 1) (by omega)
      have yes : alP (I 118) (inM I) q d ((i : Int) + 1) → ∀ (L : XL), xsub L [(4, .inl ((i : Int) + 1)), (3, .inl (csF (alP (I 118) (inM I) q d) i)), (0, .inr 3), (1, .inl q), (2, .inl d)] → XE mL_crossCheck (some (.inl (csF (alP (I 118) (inM I) q d) 8))) (hN I) 45 L [.inl (csF (alP (I 118) (inM I) q d) i)] (hN I) := by
        intro ha L hL
        refine x_loc hL ?_
        repeat refine x_step rfl ?_
        refine x_ishl rfl (by omega) (by omega) ?_
        repeat refine x_step rfl ?_
        refine x_ior rfl hcs (xpw_nn _) ?_
        repeat refine x_step rfl ?_
        exact x_loc (by exact ⟨rfl, xsi (by simp only [csF]; rw [sel_pos ha, show (i : Int) + 1 - 1 = i by omega]), rfl, rfl, rfl, trivial⟩) (ih (i + 1) (by omega))
      have J : XE mL_crossCheck (some (.inl (csF (alP (I 118) (inM I) q d) 8))) (hN I) 25 [(4, .inl ((i : Int) + 1)), (3, .inl (csF (alP (I 118) (inM I) q d) i)), (0, .inr 3), (1, .inl q), (2, .inl d)] [.inl ((i : Int) + 1), .inl (1 - d), .inl q, .inr 3] (hN I) := by
        refine x_call rfl (cL_run h q _ _ h0 h1 hd1 (by omega)) ?_
        repeat refine x_step rfl ?_
        by_cases hz : rnS (I 118) q (1 - d) ((i : Int) + 1) = 0
        · rw [if_pos hz]
          refine x_lt rfl (by omega) (by omega) (fun hz2 => ?_) (fun hz2 => absurd (by omega) hz2)
          exact yes (Or.inl hz) _ (by exact ⟨rfl, rfl, rfl, rfl, rfl, trivial⟩)
        · rw [if_neg hz]
          refine x_lt rfl (by omega) (by omega) (fun hz2 => absurd hz2 (by omega)) (fun hz2 => ?_)
          repeat refine x_step rfl ?_
          refine x_call rfl (cL_isInList h _ (by omega)) ?_
          by_cases hi2 : inM I (rnS (I 118) q (1 - d) ((i : Int) + 1))
          · rw [sel_pos hi2]
            refine x_eq rfl (by omega) (by omega) (fun hz3 => absurd hz3 (by omega)) (fun hz3 => ?_)
            exact yes (Or.inr hi2) _ (by exact ⟨rfl, rfl, rfl, rfl, rfl, trivial⟩)
          · rw [sel_neg hi2]
            refine x_eq rfl (by omega) (by omega) (fun hz3 => ?_) (fun hz3 => absurd rfl hz3)
            have hna : ¬ alP (I 118) (inM I) q d ((i : Int) + 1) := by
              rintro (w | w)
              · exact hz w
              · exact hi2 w
            repeat refine x_step rfl ?_
            refine x_ior rfl hcs (by omega) ?_
            repeat refine x_step rfl ?_
            exact x_loc (by exact ⟨rfl, xsi (by simp only [csF]; rw [sel_neg hna]), rfl, rfl, rfl, trivial⟩) (ih (i + 1) (by omega))
      refine x_le rfl (by omega) (by omega) (fun hc => absurd hc (by omega)) (fun hc => ?_)
      repeat refine x_step rfl ?_
      rcases hd with rfl | rfl
      · refine x_eq rfl (by omega) (by omega) (fun hz => ?_) (fun hz => absurd rfl hz)
        repeat refine x_step rfl ?_
        exact x_loc (by exact ⟨rfl, rfl, rfl, rfl, rfl, trivial⟩) J
      · refine x_eq rfl (by omega) (by omega) (fun hz => absurd hz (by omega)) (fun hz => ?_)
        repeat refine x_step rfl ?_
        exact x_loc (by exact ⟨rfl, rfl, rfl, rfl, rfl, trivial⟩) J
  repeat refine x_step rfl ?_
  exact x_loc (by exact ⟨rfl, rfl, rfl, rfl, rfl, trivial⟩) (loop 8 0 (by omega))
end LAW2
