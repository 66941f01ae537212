/-! the reference looks through all plays -/
def FR (I H : Nat → Int → Int) : Prop := (∀ a : Nat, a ≠ 117 → a ≠ 122 → a ≠ 123 → H a = I a) ∧ ∀ f : Int, f < 10 ∨ 14 < f → H 117 f = I 117 f
theorem FR.sim {I H : Nat → Int → Int} (h : SIM I) (hF : FR I H) : SIM H := h.free (fun a w => hF.1 a (by omega) (by omega) (by omega)) (by rw [hF.1 110 (by omega) (by omega) (by omega)]) (fun f w => hF.2 f (by omega))
noncomputable def cnM (P : Int → Int → Prop) (m j k : Nat) : Int := xsm (fun b => xsm (fun a => inD P a b) m) j + xsm (fun a => inD P a j) k
theorem cnM_s (P : Int → Int → Prop) (m j k : Nat) : cnM P m j (k + 1) = cnM P m j k + inD P k j := by
  unfold cnM
  have e1 : xsm (fun a => inD P a j) (k + 1) = xsm (fun a => inD P a j) k + inD P k j := rfl
  rw [e1]
  omega
theorem cnM_n (P : Int → Int → Prop) (m j : Nat) : cnM P m (j + 1) 0 = cnM P m j m := by
  unfold cnM
  have e1 : xsm (fun b => xsm (fun a => inD P a b) m) (j + 1) = xsm (fun b => xsm (fun a => inD P a b) m) j + xsm (fun a => inD P a j) m := rfl
  have e2 : ∀ f, xsm f 0 = 0 := fun _ => rfl
  rw [e1, e2]
  omega
theorem cn_eq (P : Int → Int → Prop) (m : Nat) : cnM P m 162 0 = cnC P m 0 := by
  unfold cnM cnC
  have e2 : ∀ f, xsm f 0 = 0 := fun _ => rfl
  rw [e2, e2, xsm_swap]
def DM (m j k : Int) : Int → Int → Prop := fun a b => 0 ≤ a ∧ a < m ∧ 0 ≤ b ∧ (b < j ∨ (b = j ∧ a < k))
theorem DM_s {m j k : Int} (hj : 0 ≤ j) (hk : 0 ≤ k) (hk2 : k < m) (a b : Int) : DM m j (k + 1) a b ↔ DM m j k a b ∨ (a = k ∧ b = j) := by
  unfold DM
  omega
theorem DM_n {m j : Int} (hj : 0 ≤ j) (a b : Int) : DM m (j + 1) 0 a b ↔ DM m j m a b := by
  unfold DM
  omega
theorem DM_C {m : Int} (hm : 0 ≤ m) (a b : Int) : DM m 162 0 a b ↔ DC m 0 a b := by
  unfold DM DC
  omega
/-- what the reference has found -/
def MB (P : Int → Int → Prop) (S : Int → Int → Int) (D : Int → Int → Prop) (H : Nat → Int → Int) : Prop := ∃ bp, BI P S D (H 117 14) (H 117 10) bp (H 117 13) ∧ (H 117 14 ≠ 0 → H 117 11 = bp / 2 ∧ H 117 12 = bp % 2) ∧ (H 117 14 = 0 → H 117 10 = -5 ∧ H 117 11 = -5 ∧ H 117 12 = -5 ∧ H 117 13 = -5)
def MFQ (I J : Nat → Int → Int) (m : Nat) : Prop := FR I J ∧ J 117 14 = cnM (PO I) m 162 0 ∧ MB (PO I) (SO I) (DM m 162 0) J
theorem cM_findPlays (I : Nat → Int → Int) (h : SIM I) : ∃ J, XR mM_findPlays [.inr 117] (hN I) none (hN J) ∧ MFQ I J (I 118 112).toNat := by
  have hmn := h.1.2.mn
  have em : ((I 118 112).toNat : Int) = I 118 112 := by omega
  have inner : ∀ (s w : Nat), s ≤ 80 → w ≤ 1 → (∀ H, FR I H → H 117 14 = cnM (PO I) (I 118 112).toNat (2 * s + w + 1) 0 → MB (PO I) (SO I) (DM (I 118 112) ((2 * s + w : Nat) + 1) 0) H → ∃ J, XE mM_findPlays none (hN J) 41 [(2, .inl ((w : Int) + 1)), (1, .inl (s : Int)), (0, .inr 117)] [.inl 2, .inl ((w : Int) + 1)] (hN H) ∧ MFQ I J (I 118 112).toNat) → ∀ (n k : Nat) (H : Nat → Int → Int), (k : Int) + n = I 118 112 → FR I H → H 117 14 = cnM (PO I) (I 118 112).toNat (2 * s + w) k → MB (PO I) (SO I) (DM (I 118 112) (2 * s + w : Nat) k) H → ∃ J, XE mM_findPlays none (hN J) 54 [(3, .inl (k : Int)), (2, .inl (w : Int)), (1, .inl (s : Int)), (0, .inr 117)] [.inl (I 118 112), .inl (k : Int)] (hN H) ∧ MFQ I J (I 118 112).toNat := by
    intro s w hs hw cont n
    induction n with
    | zero =>
      intro k H h1 hF hc hB
      have ek : (I 118 112).toNat = k := by omega
      obtain ⟨bp, b1, b2, b3⟩ := hB
      obtain ⟨J, x1, x2⟩ := cont H hF (by rw [cnM_n, hc, ek]) ⟨bp, b1.dd (fun a b => by rw [DM_n (by omega), show (k : Int) = I 118 112 by omega]), b2, b3⟩
      refine ⟨J, ?_, x2⟩
      refine x_le rfl (by omega) (by omega) (fun hc => ?_) (fun hc => absurd (by omega) hc)
      repeat refine x_step rfl ?_
      exact x_loc (by exact ⟨rfl, rfl, rfl, trivial⟩) x1
    | succ n ih =>
      intro k H h1 hF hc hB
      have e118 : H 118 = I 118 := hF.1 118 (by omega) (by omega) (by omega)
      obtain ⟨hwl, hwc⟩ := h.1.2.wd k (by omega) (by omega)
      have hzk : H 118 (113 + (k : Int)) = I 118 (113 + (k : Int)) := by rw [e118]
      have ej1 : ((2 * s + w : Nat) : Int) / 2 = (s : Int) := by omega
      have ej2 : ((2 * s + w : Nat) : Int) % 2 = (w : Int) := by omega
      generalize hcw : I 118 (113 + (k : Int)) = c at *
      have hr : plR c (s : Int) (w : Int) := ⟨hwc, hwl, by omega, by omega, by omega⟩
      have hH := FR.sim h hF
      have hmr := cM_reasonOf H c s w hr hH.1.2.bd hH.1.wm hH.1.2.tu (hH.1.2.az hH.1.2.tu)
      rw [e118, inM_c e118] at hmr
      have hR := rfS_R (I 118) (inM I) (rkZ (I 118) (I 118 106)) c (s : Int) (w : Int)
      have hPO : PO I k (2 * s + w : Nat) ↔ rfS (I 118) (inM I) (rkZ (I 118) (I 118 106)) c (s : Int) (w : Int) = 0 := by unfold PO; rw [hcw, ej1, ej2]
      have hSO : SO I k (2 * s + w : Nat) = woS (I 118) c (s : Int) (w : Int) := by unfold SO; rw [hcw, ej1, ej2]
      have hSR := woS_R (I 118) c (s : Int) (w : Int)
      have hcs := cnM_s (PO I) (I 118 112).toNat (2 * s + w) k
      have hDs := DM_s (m := I 118 112) (j := ((2 * s + w : Nat) : Int)) (k := (k : Int)) (by omega) (by omega) (by omega)
      have ek1 : ((k + 1 : Nat) : Int) = (k : Int) + 1 := by omega
      have hF1 : FR I (roH H c s w) := ⟨fun a w1 w2 w3 => by rw [roH_ne w2 w3]; exact hF.1 a w1 w2 w3, fun f w1 => by rw [roH_ne (by omega) (by omega)]; exact hF.2 f w1⟩
      have h117 : roH H c s w 117 = H 117 := roH_ne (by omega) (by omega)
      generalize roH H c s w = H1 at *
      have e118b : H1 118 = I 118 := hF1.1 118 (by omega) (by omega) (by omega)
      -- from the answer of reasonOf on
      have pre : ∀ J, XE mM_findPlays none (hN J) 81 [(3, .inl (k : Int)), (2, .inl (w : Int)), (1, .inl (s : Int)), (0, .inr 117)] [.inl (rfS (I 118) (inM I) (rkZ (I 118) (I 118 106)) c (s : Int) (w : Int))] (hN H1) → XE mM_findPlays none (hN J) 54 [(3, .inl (k : Int)), (2, .inl (w : Int)), (1, .inl (s : Int)), (0, .inr 117)] [.inl (I 118 112), .inl (k : Int)] (hN H) := by
        intro J x
        have mid : XE mM_findPlays none (hN J) 78 [(3, .inl (k : Int)), (2, .inl (w : Int)), (1, .inl (s : Int)), (0, .inr 117)] [.inl (w : Int), .inl (s : Int), .inl c, .inr 117] (hN H) := by
          refine x_call rfl hmr ?_
          exact x
        refine x_le rfl (by omega) (by omega) (fun hc => absurd hc (by omega)) (fun hc => ?_)
        repeat refine x_step rfl ?_
        refine x_ald (len := 132) rfl (by omega) (by omega) ?_
        rw [hzk]
        repeat refine x_step rfl ?_
        refine x_eq rfl (by omega) (by omega) (fun w1 => ?_) (fun w1 => ?_)
        · repeat refine x_step rfl ?_
          exact x_stk (S' := [.inl (w : Int), .inl (s : Int), .inl c, .inr 117]) (by rw [w1]) (x_loc (by exact ⟨rfl, rfl, rfl, rfl, trivial⟩) mid)
        · repeat refine x_step rfl ?_
          exact x_stk (S' := [.inl (w : Int), .inl (s : Int), .inl c, .inr 117]) (by rw [show (w : Int) = 0 by omega]) (x_loc (by exact ⟨rfl, rfl, rfl, rfl, trivial⟩) mid)
      obtain ⟨bp, b1, b2, b3⟩ := hB
      -- the next word
      have nxt : ∀ (H2 J : Nat → Int → Int), FR I H2 → XE mM_findPlays none (hN J) 54 [(3, .inl ((k : Int) + 1)), (2, .inl (w : Int)), (1, .inl (s : Int)), (0, .inr 117)] [.inl (I 118 112), .inl ((k : Int) + 1)] (hN H2) → ∀ L : XL, xsub L [(3, .inl (k : Int)), (2, .inl (w : Int)), (1, .inl (s : Int)), (0, .inr 117)] → XE mM_findPlays none (hN J) 150 L [] (hN H2) := by
        intro H2 J hF2 x L hL
        refine x_loc hL ?_
        repeat refine x_step rfl ?_
        refine x_ald (len := 132) rfl (by omega) (by omega) ?_
        rw [hF2.1 118 (by omega) (by omega) (by omega)]
        exact x_loc (by exact ⟨rfl, rfl, rfl, rfl, trivial⟩) x
      by_cases hz : rfS (I 118) (inM I) (rkZ (I 118) (I 118 106)) c (s : Int) (w : Int) = 0
      · have hp : PO I k (2 * s + w : Nat) := hPO.mpr hz
        have hin : inD (PO I) k (2 * s + w : Nat) = 1 := sel_pos hp
        have hsc := cM_scoreOf H1 c s w hr (by rw [e118b]; exact h.1.2.bd) (rf_9 (Or.inl hz))
        rw [e118b] at hsc
        have hF3 : FR I (xset H1 122 (wrS (H1 122) c 0)) := ⟨fun a w1 w2 w3 => by rw [xset_ne w2]; exact hF1.1 a w1 w2 w3, fun f w1 => by rw [xset_ne (by omega)]; exact hF1.2 f w1⟩
        have h117b : xset H1 122 (wrS (H1 122) c 0) 117 = H 117 := by rw [xset_ne (by omega), h117]
        generalize xset H1 122 (wrS (H1 122) c 0) = H3 at *
        have hF4 : FR I (xup H3 117 14 (H 117 14 + 1)) := ⟨fun a w1 w2 w3 => by rw [xup_ne w1]; exact hF3.1 a w1 w2 w3, fun f w1 => by rw [xup_at, if_neg (by omega)]; exact hF3.2 f w1⟩
        have h4 : ∀ f : Int, xup H3 117 14 (H 117 14 + 1) 117 f = if f = 14 then H 117 14 + 1 else H 117 f := fun f => by rw [xup_at, h117b]
        have hbsR : InR (H 117 10) := by
          by_cases w0 : H 117 14 = 0
          · have := (b3 w0).1; omega
          · obtain ⟨-, -, m3⟩ := b1.mem w0
            have := woS_R (I 118) (I 118 (113 + H 117 13)) (bp / 2) (bp % 2)
            have m3 : H 117 10 = woS (I 118) (I 118 (113 + H 117 13)) (bp / 2) (bp % 2) := m3
            omega
        have mid2 : ∀ J, XE mM_findPlays none (hN J) 126 [(4, .inl (woS (I 118) c (s : Int) (w : Int))), (3, .inl (k : Int)), (2, .inl (w : Int)), (1, .inl (s : Int)), (0, .inr 117)] [.inl (H 117 10), .inl (woS (I 118) c (s : Int) (w : Int))] (hN (xup H3 117 14 (H 117 14 + 1))) → XE mM_findPlays none (hN J) 81 [(3, .inl (k : Int)), (2, .inl (w : Int)), (1, .inl (s : Int)), (0, .inr 117)] [.inl (rfS (I 118) (inM I) (rkZ (I 118) (I 118 106)) c (s : Int) (w : Int))] (hN H1) := by
          intro J x
          have mid3 : XE mM_findPlays none (hN J) 105 [(3, .inl (k : Int)), (2, .inl (w : Int)), (1, .inl (s : Int)), (0, .inr 117)] [.inl (w : Int), .inl (s : Int), .inl c, .inr 117] (hN H1) := by
            refine x_call rfl hsc ?_
            repeat refine x_step rfl ?_
            rw [h117b, h4 10, if_neg (by omega)]
            exact x_loc (by exact ⟨rfl, rfl, rfl, rfl, rfl, trivial⟩) x
          refine x_eq rfl (by omega) (by omega) (fun w1 => ?_) (fun w1 => absurd hz w1)
          repeat refine x_step rfl ?_
          refine x_ald (len := 132) rfl (by omega) (by omega) ?_
          rw [e118b, hcw]
          repeat refine x_step rfl ?_
          refine x_eq rfl (by omega) (by omega) (fun w1 => ?_) (fun w1 => ?_)
          · repeat refine x_step rfl ?_
            exact x_stk (S' := [.inl (w : Int), .inl (s : Int), .inl c, .inr 117]) (by rw [w1]) (x_loc (by exact ⟨rfl, rfl, rfl, rfl, trivial⟩) mid3)
          · repeat refine x_step rfl ?_
            exact x_stk (S' := [.inl (w : Int), .inl (s : Int), .inl c, .inr 117]) (by rw [show (w : Int) = 0 by omega]) (x_loc (by exact ⟨rfl, rfl, rfl, rfl, trivial⟩) mid3)
        by_cases hcc : H 117 10 < woS (I 118) c (s : Int) (w : Int)
        · have hf0 := b1.f0
          have hF5 : FR I (xup (xup (xup (xup (xup H3 117 14 (H 117 14 + 1)) 117 10 (woS (I 118) c (s : Int) (w : Int))) 117 11 s) 117 12 w) 117 13 k) := ⟨fun a w1 w2 w3 => by rw [xup_ne w1, xup_ne w1, xup_ne w1, xup_ne w1]; exact hF4.1 a w1 w2 w3, fun f w1 => by rw [xup_at, if_neg (by omega), xup_at, if_neg (by omega), xup_at, if_neg (by omega), xup_at, if_neg (by omega)]; exact hF4.2 f w1⟩
          have q13 : xup (xup (xup (xup (xup H3 117 14 (H 117 14 + 1)) 117 10 (woS (I 118) c (s : Int) (w : Int))) 117 11 s) 117 12 w) 117 13 k 117 13 = k := by rw [xup_at, if_pos rfl]
          have q12 : xup (xup (xup (xup (xup H3 117 14 (H 117 14 + 1)) 117 10 (woS (I 118) c (s : Int) (w : Int))) 117 11 s) 117 12 w) 117 13 k 117 12 = w := by rw [xup_at, if_neg (by omega), xup_at, if_pos rfl]
          have q11 : xup (xup (xup (xup (xup H3 117 14 (H 117 14 + 1)) 117 10 (woS (I 118) c (s : Int) (w : Int))) 117 11 s) 117 12 w) 117 13 k 117 11 = s := by rw [xup_at, if_neg (by omega), xup_at, if_neg (by omega), xup_at, if_pos rfl]
          have q10 : xup (xup (xup (xup (xup H3 117 14 (H 117 14 + 1)) 117 10 (woS (I 118) c (s : Int) (w : Int))) 117 11 s) 117 12 w) 117 13 k 117 10 = woS (I 118) c (s : Int) (w : Int) := by rw [xup_at, if_neg (by omega), xup_at, if_neg (by omega), xup_at, if_neg (by omega), xup_at, if_pos rfl]
          have q14 : xup (xup (xup (xup (xup H3 117 14 (H 117 14 + 1)) 117 10 (woS (I 118) c (s : Int) (w : Int))) 117 11 s) 117 12 w) 117 13 k 117 14 = H 117 14 + 1 := by rw [xup_at, if_neg (by omega), xup_at, if_neg (by omega), xup_at, if_neg (by omega), xup_at, if_neg (by omega), h4, if_pos rfl]
          have stp : ∀ J, XE mM_findPlays none (hN J) 150 [(3, .inl (k : Int)), (2, .inl (w : Int)), (1, .inl (s : Int)), (0, .inr 117)] [] (hN (xup (xup (xup (xup (xup H3 117 14 (H 117 14 + 1)) 117 10 (woS (I 118) c (s : Int) (w : Int))) 117 11 s) 117 12 w) 117 13 k)) → XE mM_findPlays none (hN J) 81 [(3, .inl (k : Int)), (2, .inl (w : Int)), (1, .inl (s : Int)), (0, .inr 117)] [.inl (rfS (I 118) (inM I) (rkZ (I 118) (I 118 106)) c (s : Int) (w : Int))] (hN H1) := by
            intro J x
            refine mid2 J ?_
            refine x_le rfl (by omega) (by omega) (fun w1 => by omega) (fun w1 => ?_)
            refine x_step rfl ?_
            refine x_step rfl ?_
            refine x_step rfl ?_
            refine x_step rfl ?_
            refine x_step rfl ?_
            refine x_step rfl ?_
            refine x_step rfl ?_
            refine x_step rfl ?_
            refine x_step rfl ?_
            refine x_step rfl ?_
            refine x_step rfl ?_
            refine x_step rfl ?_
            exact x_loc (by exact ⟨rfl, rfl, rfl, rfl, trivial⟩) x
          generalize xup (xup (xup (xup (xup H3 117 14 (H 117 14 + 1)) 117 10 (woS (I 118) c (s : Int) (w : Int))) 117 11 s) 117 12 w) 117 13 k = H5 at *
          obtain ⟨J, x1, x2⟩ := ih (k + 1) H5 (by omega) hF5 (by rw [q14, hcs, hin, hc]) ⟨((2 * s + w : Nat) : Int), by
            rw [ek1, q14, q10, q13, ← hSO]
            exact b1.new hDs hp (Or.inr (Or.inl (by rw [hSO]; exact hcc))), fun _ => by rw [q11, q12, ej1, ej2]; exact ⟨rfl, rfl⟩, fun w0 => by rw [q14] at w0; omega⟩
          refine ⟨J, pre J ?_, x2⟩
          rw [ek1] at x1
          exact stp J (nxt H5 J hF5 x1 _ (by exact ⟨rfl, rfl, rfl, rfl, trivial⟩))
        · have hf0 : H 117 14 ≠ 0 := fun w0 => hcc (by rw [(b3 w0).1]; omega)
          have hf1 := b1.f0
          obtain ⟨J, x1, x2⟩ := ih (k + 1) (xup H3 117 14 (H 117 14 + 1)) (by omega) hF4 (by rw [h4, if_pos rfl, hcs, hin, hc]) ⟨bp, by
            rw [ek1, h4, h4, h4, if_pos rfl, if_neg (by omega), if_neg (by omega)]
            refine b1.old hDs hp hf0 ?_
            obtain ⟨m1, -, -⟩ := b1.mem hf0
            unfold DM at m1
            rw [hSO]
            omega, fun _ => by rw [h4, h4, if_neg (by omega), if_neg (by omega)]; exact b2 hf0, fun w0 => by rw [h4, if_pos rfl] at w0; omega⟩
          refine ⟨J, pre J (mid2 J ?_), x2⟩
          rw [ek1] at x1
          refine x_le rfl (by omega) (by omega) (fun w1 => ?_) (fun w1 => by omega)
          exact nxt _ J hF4 x1 _ (by exact ⟨rfl, rfl, rfl, rfl, trivial⟩)
      · have hp : ¬ PO I k (2 * s + w : Nat) := fun w1 => hz (hPO.mp w1)
        have hin : inD (PO I) k (2 * s + w : Nat) = 0 := sel_neg hp
        obtain ⟨J, x1, x2⟩ := ih (k + 1) H1 (by omega) hF1 (by rw [h117, hcs, hin, hc, Int.add_zero]) ⟨bp, by rw [ek1, h117]; exact b1.no hDs hp, by rw [h117]; exact b2, by rw [h117]; exact b3⟩
        refine ⟨J, pre J ?_, x2⟩
        rw [ek1] at x1
        refine x_eq rfl (by omega) (by omega) (fun w1 => absurd w1 hz) (fun w1 => ?_)
        exact nxt H1 J hF1 x1 _ (by exact ⟨rfl, rfl, rfl, rfl, trivial⟩)
  have outer : ∀ (n s w : Nat) (H : Nat → Int → Int), 2 * s + w + n = 162 → s ≤ 80 → w ≤ 1 → FR I H → H 117 14 = cnM (PO I) (I 118 112).toNat (2 * s + w) 0 → MB (PO I) (SO I) (DM (I 118 112) (2 * s + w : Nat) 0) H → ∃ J, XE mM_findPlays none (hN J) 41 [(2, .inl (w : Int)), (1, .inl (s : Int)), (0, .inr 117)] [.inl 2, .inl (w : Int)] (hN H) ∧ MFQ I J (I 118 112).toNat := by
    intro n
    induction n with
    | zero => intro s w H h1 h2 h3; omega
    | succ n ih =>
      intro s w H h1 h2 h3 hF hc hB
      obtain ⟨J, x1, x2⟩ := inner s w h2 h3 (fun H2 a1 a2 a3 => by
        by_cases hw0 : w = 0
        · subst hw0
          exact ih s 1 H2 (by omega) h2 (by omega) a1 a2 a3
        · have hw1 : w = 1 := by omega
          subst hw1
          by_cases hs : s = 80
          · subst hs
            refine ⟨H2, ?_, a1, a2, ?_⟩
            · refine x_le rfl (by omega) (by omega) (fun hc => ?_) (fun hc => absurd (by omega) hc)
              repeat refine x_step rfl ?_
              refine x_le rfl (by omega) (by omega) (fun hc => ?_) (fun hc => absurd (by omega) hc)
              exact x_vret rfl rfl rfl
            · rw [em]
              exact a3
          · obtain ⟨J, x1, x2⟩ := ih (s + 1) 0 H2 (by omega) (by omega) (by omega) a1 a2 a3
            refine ⟨J, ?_, x2⟩
            refine x_le rfl (by omega) (by omega) (fun hc => ?_) (fun hc => absurd (by omega) hc)
            repeat refine x_step rfl ?_
            refine x_le rfl (by omega) (by omega) (fun hc => by omega) (fun hc => ?_)
            repeat refine x_step rfl ?_
            exact x_loc (by exact ⟨rfl, rfl, rfl, trivial⟩) x1) (I 118 112).toNat 0 H (by omega) hF hc hB
      refine ⟨J, ?_, x2⟩
      refine x_le rfl (by omega) (by omega) (fun hc => absurd hc (by omega)) (fun hc => ?_)
      repeat refine x_step rfl ?_
      refine x_ald (len := 132) rfl (by omega) (by omega) ?_
      rw [hF.1 118 (by omega) (by omega) (by omega)]
      exact x_loc (by exact ⟨rfl, rfl, rfl, rfl, trivial⟩) x1
  have hF0 : FR I (xup (xup (xup (xup (xup I 117 14 0) 117 10 (-5)) 117 11 (-5)) 117 12 (-5)) 117 13 (-5)) := ⟨fun a w1 w2 w3 => by rw [xup_ne w1, xup_ne w1, xup_ne w1, xup_ne w1, xup_ne w1], fun f w1 => by rw [xup_at, if_neg (by omega), xup_at, if_neg (by omega), xup_at, if_neg (by omega), xup_at, if_neg (by omega), xup_at, if_neg (by omega)]⟩
  have q14 : xup (xup (xup (xup (xup I 117 14 0) 117 10 (-5)) 117 11 (-5)) 117 12 (-5)) 117 13 (-5) 117 14 = 0 := by simp [xup_at]
  have q10 : xup (xup (xup (xup (xup I 117 14 0) 117 10 (-5)) 117 11 (-5)) 117 12 (-5)) 117 13 (-5) 117 10 = -5 := by simp [xup_at]
  have q11 : xup (xup (xup (xup (xup I 117 14 0) 117 10 (-5)) 117 11 (-5)) 117 12 (-5)) 117 13 (-5) 117 11 = -5 := by simp [xup_at]
  have q12 : xup (xup (xup (xup (xup I 117 14 0) 117 10 (-5)) 117 11 (-5)) 117 12 (-5)) 117 13 (-5) 117 12 = -5 := by simp [xup_at]
  have q13 : xup (xup (xup (xup (xup I 117 14 0) 117 10 (-5)) 117 11 (-5)) 117 12 (-5)) 117 13 (-5) 117 13 = -5 := by simp [xup_at]
  obtain ⟨J, x1, x2⟩ := outer 162 0 0 _ (by omega) (by omega) (by omega) hF0 (by rw [q14]; rfl) ⟨0, by rw [q14]; exact Or.inl ⟨rfl, fun a b w => by unfold DM at w; omega⟩, fun w => absurd q14 w, fun _ => ⟨q10, q11, q12, q13⟩⟩
  refine ⟨J, ?_, x2⟩
  refine XRa.of (by decide) (Nat.le_of_ble_eq_true rfl) ?_
  repeat refine x_step rfl ?_
  refine x_le rfl (by omega) (by omega) (fun hc => by omega) (fun hc => ?_)
  repeat refine x_step rfl ?_
  exact x_loc (by exact ⟨rfl, rfl, rfl, trivial⟩) x1
