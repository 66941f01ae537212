/-! the class looks through all plays -/
noncomputable def inD (P : Int → Int → Prop) (k j : Int) : Int := sel (P k j) 1 0
theorem inD01 (P : Int → Int → Prop) (k j : Int) : inD P k j = 0 ∨ inD P k j = 1 := sel01.symm
def PO (I : Nat → Int → Int) (k j : Int) : Prop := rfS (I 118) (inM I) (rkZ (I 118) (I 118 106)) (I 118 (113 + k)) (j / 2) (j % 2) = 0
def SO (I : Nat → Int → Int) (k j : Int) : Int := woS (I 118) (I 118 (113 + k)) (j / 2) (j % 2)
def WP (H : Nat → Int → Int) (c : Int) : Prop := H 115 1 = c ∧ H 115 2 = lnS c ∧ ∀ i : Int, 0 ≤ i → i < lnS c → H 116 i = wlS c i
/-- only what the search writes has changed -/
def FS (I H : Nat → Int → Int) : Prop := ∀ a : Nat, a ≠ 114 → a ≠ 115 → a ≠ 116 → H a = I a
theorem FS.sim {I H : Nat → Int → Int} (h : SIM I) (hF : FS I H) : SIM H := h.free (fun a w => hF a (by omega) (by omega) (by omega))
/-- the number of plays found, up to the place j of the word k -/
noncomputable def cnC (P : Int → Int → Prop) (k j : Nat) : Int := xsm (fun a => xsm (fun b => inD P a b) 162) k + xsm (fun b => inD P k b) j
theorem cnC_s (P : Int → Int → Prop) (k j : Nat) : cnC P k (j + 1) = cnC P k j + inD P k j := by
  unfold cnC
  have e1 : xsm (fun b => inD P k b) (j + 1) = xsm (fun b => inD P k b) j + inD P k j := rfl
  rw [e1]
  omega
theorem cnC_n (P : Int → Int → Prop) (k : Nat) : cnC P (k + 1) 0 = cnC P k 162 := by
  unfold cnC
  have e1 : xsm (fun a => xsm (fun b => inD P a b) 162) (k + 1) = xsm (fun a => xsm (fun b => inD P a b) 162) k + xsm (fun b => inD P k b) 162 := rfl
  have e2 : ∀ f, xsm f 0 = 0 := fun _ => rfl
  rw [e1, e2]
  omega
theorem cnC_R (P : Int → Int → Prop) (k j : Nat) : 0 ≤ cnC P k j ∧ cnC P k j ≤ 162 * k + j := by
  have h1 : ∀ k2, 0 ≤ xsm (fun a => xsm (fun b => inD P a b) 162) k2 ∧ xsm (fun a => xsm (fun b => inD P a b) 162) k2 ≤ 162 * k2 := xsm_R (fun a => xsm_01 (fun b => inD P a b) (fun b => inD01 P a b) 162)
  have h2 := xsm_01 (fun b => inD P k b) (fun b => inD01 P k b) j
  have h3 := h1 k
  unfold cnC
  omega
def DC (k j : Int) : Int → Int → Prop := fun a b => 0 ≤ a ∧ 0 ≤ b ∧ b < 162 ∧ (a < k ∨ (a = k ∧ b < j))
theorem DC_s {k j : Int} (hk : 0 ≤ k) (hj : 0 ≤ j) (hj2 : j < 162) (a b : Int) : DC k (j + 1) a b ↔ DC k j a b ∨ (a = k ∧ b = j) := by
  unfold DC
  omega
theorem DC_n {k : Int} (hk : 0 ≤ k) (a b : Int) : DC (k + 1) 0 a b ↔ DC k 162 a b := by
  unfold DC
  omega
/-- the end of a search -/
def LQ (I J : Nat → Int → Int) (m : Nat) : Prop := FS I J ∧ J 114 1 = cnC (PO I) m 0 ∧ BI (PO I) (SO I) (DC m 0) (J 114 1) (J 114 2) (J 114 3) (J 114 4)
theorem cF_look (I : Nat → Int → Int) (h : SIM I) : ∃ J, XR mF_look [.inr 114, .inr 4] (hN I) none (hN J) ∧ LQ I J (I 118 112).toNat := by
  have hmn := h.1.2.mn
  have inner : ∀ (k : Nat), (k : Int) < I 118 112 → (∀ H, FS I H → H 114 1 = cnC (PO I) (k + 1) 0 → BI (PO I) (SO I) (DC ((k : Int) + 1) 0) (H 114 1) (H 114 2) (H 114 3) (H 114 4) → ∃ J, XE mF_look none (hN J) 15 [(2, .inl ((k : Int) + 1)), (1, .inr 4), (0, .inr 114)] [.inl (I 118 112), .inl ((k : Int) + 1)] (hN H) ∧ LQ I J (I 118 112).toNat) → ∀ (n j : Nat) (H : Nat → Int → Int), j + n = 162 → FS I H → WP H (I 118 (113 + (k : Int))) → H 114 1 = cnC (PO I) k j → BI (PO I) (SO I) (DC k j) (H 114 1) (H 114 2) (H 114 3) (H 114 4) → ∃ J, XE mF_look none (hN J) 39 [(3, .inl (j : Int)), (2, .inl (k : Int)), (1, .inr 4), (0, .inr 114)] [.inl 162, .inl (j : Int)] (hN H) ∧ LQ I J (I 118 112).toNat := by
    intro k hk outer n
    induction n with
    | zero =>
      intro j H h1 hF hW hc hB
      have ej : j = 162 := by omega
      subst ej
      obtain ⟨J, x1, x2⟩ := outer H hF (by rw [cnC_n, hc]) (hB.dd (fun a b => DC_n (by omega) a b))
      refine ⟨J, ?_, x2⟩
      have e5 : H 5 1 = I 118 112 := by rw [hF 5 (by omega) (by omega) (by omega)]; exact h.1.m
      refine x_le rfl (by omega) (by omega) (fun hc => ?_) (fun hc => absurd (by omega) hc)
      repeat refine x_step rfl ?_
      rw [e5]
      exact x_loc (by exact ⟨rfl, rfl, rfl, trivial⟩) x1
    | succ n ih =>
      intro j H h1 hF hW hc hB
      obtain ⟨hwl, hwc⟩ := h.1.2.wd k (by omega) hk
      generalize hcw : I 118 (113 + (k : Int)) = c at *
      have hl := lnS_le c
      -- the heap with the place set
      have hF1 : FS I (xup (xup H 115 3 ((j : Int) / 2)) 115 4 ((j : Int) % 2)) := fun a w1 w2 w3 => by rw [xup_ne w2, xup_ne w2]; exact hF a w1 w2 w3
      have hpl : PL (xup (xup H 115 3 ((j : Int) / 2)) 115 4 ((j : Int) % 2)) 115 116 c ((j : Int) / 2) ((j : Int) % 2) := by
        obtain ⟨w1, w2, w3⟩ := hW
        refine ⟨?_, ?_, ?_, ?_, fun i a b => ?_⟩
        · rw [xup_at, if_neg (by omega), xup_at, if_neg (by omega)]; exact w1
        · rw [xup_at, if_neg (by omega), xup_at, if_neg (by omega)]; exact w2
        · rw [xup_at, if_neg (by omega), xup_at, if_pos rfl]
        · rw [xup_at, if_pos rfl]
        · rw [xup_ne (by omega), xup_ne (by omega)]; exact w3 i a b
      have h114 : ∀ f, xup (xup H 115 3 ((j : Int) / 2)) 115 4 ((j : Int) % 2) 114 f = H 114 f := fun f => by rw [xup_ne (by omega), xup_ne (by omega)]
      have hWP1 : WP (xup (xup H 115 3 ((j : Int) / 2)) 115 4 ((j : Int) % 2)) c := ⟨hpl.1, hpl.2.1, hpl.2.2.2.2⟩
      have hsp := cP_setPlace H 115 116 (Or.inr ⟨rfl, rfl⟩) ((j : Int) / 2) ((j : Int) % 2) (by omega)
      generalize hH1 : xup (xup H 115 3 ((j : Int) / 2)) 115 4 ((j : Int) % 2) = H1 at *
      have hS1 := FS.sim h hF1
      have e118 : H1 118 = I 118 := hF1 118 (by omega) (by omega) (by omega)
      have hr : plR c ((j : Int) / 2) ((j : Int) % 2) := ⟨hwc, hwl, by omega, by omega, by omega⟩
      have hrf := cG_refusal H1 115 116 c _ _ (Or.inr ⟨rfl, rfl⟩) hpl hr hS1.1.bd8 hS1.1.wr hS1.1.t01 hS1.1.az
      rw [hS1.1.rf (by omega) (by omega) (by omega), e118, inM_c e118] at hrf
      have hR := rfS_R (I 118) (inM I) (rkZ (I 118) (I 118 106)) c ((j : Int) / 2) ((j : Int) % 2)
      have hPO : PO I k j ↔ rfS (I 118) (inM I) (rkZ (I 118) (I 118 106)) c ((j : Int) / 2) ((j : Int) % 2) = 0 := by unfold PO; rw [hcw]
      have hSO : SO I k j = woS (I 118) c ((j : Int) / 2) ((j : Int) % 2) := by unfold SO; rw [hcw]
      have hSR := woS_R (I 118) c ((j : Int) / 2) ((j : Int) % 2)
      have hcR := cnC_R (PO I) k j
      have hcs := cnC_s (PO I) k j
      have hDs := DC_s (k := (k : Int)) (j := (j : Int)) (by omega) (by omega) (by omega)
      have ej1 : ((j + 1 : Nat) : Int) = (j : Int) + 1 := by omega
      -- from the call of setPlace on
      have pre : ∀ J, XE mF_look none (hN J) 72 [(3, .inl (j : Int)), (2, .inl (k : Int)), (1, .inr 4), (0, .inr 114)] [.inl (rfS (I 118) (inM I) (rkZ (I 118) (I 118 106)) c ((j : Int) / 2) ((j : Int) % 2))] (hN H1) → XE mF_look none (hN J) 39 [(3, .inl (j : Int)), (2, .inl (k : Int)), (1, .inr 4), (0, .inr 114)] [.inl 162, .inl (j : Int)] (hN H) := by
        intro J x
        have mid : XE mF_look none (hN J) 61 [(3, .inl (j : Int)), (2, .inl (k : Int)), (1, .inr 4), (0, .inr 114)] [.inl ((j : Int) % 2), .inl ((j : Int) / 2), .inr 115] (hN H) := by
          refine x_callv rfl hsp ?_
          repeat refine x_step rfl ?_
          refine x_call rfl hrf ?_
          exact x
        refine x_le rfl (by omega) (by omega) (fun hc => absurd hc (by omega)) (fun hc => ?_)
        repeat refine x_step rfl ?_
        refine x_div rfl (by omega) (by omega) (by omega) (by omega) ?_
        repeat refine x_step rfl ?_
        refine x_rem rfl (by omega) (by omega) (by omega) (by omega) ?_
        repeat refine x_step rfl ?_
        refine x_eq rfl (by omega) (by omega) (fun w => ?_) (fun w => ?_)
        · repeat refine x_step rfl ?_
          exact x_stk (S' := [.inl ((j : Int) % 2), .inl ((j : Int) / 2), .inr 115]) (by rw [w]) (x_loc (by exact ⟨rfl, rfl, rfl, rfl, trivial⟩) mid)
        · repeat refine x_step rfl ?_
          exact x_stk (S' := [.inl ((j : Int) % 2), .inl ((j : Int) / 2), .inr 115]) (by rw [show (j : Int) % 2 = 0 by omega]) (x_loc (by exact ⟨rfl, rfl, rfl, rfl, trivial⟩) mid)
      by_cases hz : rfS (I 118) (inM I) (rkZ (I 118) (I 118 106)) c ((j : Int) / 2) ((j : Int) % 2) = 0
      · -- a play
        have hp : PO I k j := hPO.mpr hz
        have hin : inD (PO I) k j = 1 := sel_pos hp
        have hwo := cG_worthOf H1 115 116 c _ _ (Or.inr ⟨rfl, rfl⟩) hpl hr hS1.1.bd8 (rf_9 (Or.inl hz))
        rw [hS1.1.wo, e118] at hwo
        have hmem : H 114 1 ≠ 0 → InR (H 114 2) ∧ InR (H 114 3) := fun w => by
          obtain ⟨m1, m2, m3⟩ := hB.mem w
          have := woS_R (I 118) (I 118 (113 + H 114 4)) (H 114 3 / 2) (H 114 3 % 2)
          have m3 : H 114 2 = woS (I 118) (I 118 (113 + H 114 4)) (H 114 3 / 2) (H 114 3 % 2) := m3
          unfold DC at m1
          omega
        have hnt := cF_note H1 (woS (I 118) c ((j : Int) / 2) ((j : Int) % 2)) j k (by rw [h114]; omega) (by rw [h114, h114, h114]; exact hmem) (by omega) (by omega)
        have hne := fun (a : Nat) (w : a ≠ 114) => ntH_ne (H := H1) (s := woS (I 118) c ((j : Int) / 2) ((j : Int) % 2)) (j := j) (k := k) w
        have hBn : ntH H1 (woS (I 118) c ((j : Int) / 2) ((j : Int) % 2)) j k 114 1 = H 114 1 + 1 ∧ BI (PO I) (SO I) (DC k ((j : Int) + 1)) (H 114 1 + 1) (ntH H1 (woS (I 118) c ((j : Int) / 2) ((j : Int) % 2)) j k 114 2) (ntH H1 (woS (I 118) c ((j : Int) / 2) ((j : Int) % 2)) j k 114 3) (ntH H1 (woS (I 118) c ((j : Int) / 2) ((j : Int) % 2)) j k 114 4) := by
          have e1 : ntH H1 (woS (I 118) c ((j : Int) / 2) ((j : Int) % 2)) j k 114 1 = H 114 1 + 1 := by unfold ntH; rw [xup_at, if_pos rfl, h114]
          refine ⟨e1, ?_⟩
          by_cases hcc : H 114 1 = 0 ∨ H 114 2 < woS (I 118) c ((j : Int) / 2) ((j : Int) % 2) ∨ (woS (I 118) c ((j : Int) / 2) ((j : Int) % 2) = H 114 2 ∧ (j : Int) < H 114 3)
          · have e2 : ∀ f, f ≠ 1 → ntH H1 (woS (I 118) c ((j : Int) / 2) ((j : Int) % 2)) j k 114 f = xup (xup (xup H1 114 2 (woS (I 118) c ((j : Int) / 2) ((j : Int) % 2))) 114 3 j) 114 4 k 114 f := fun f w => by
              unfold ntH ntI
              rw [xup_at, if_neg w, h114, h114, h114, if_pos hcc]
            rw [e2 2 (by omega), e2 3 (by omega), e2 4 (by omega), xup_at, if_neg (by omega), xup_at, if_neg (by omega), xup_at, if_pos rfl, xup_at, if_neg (by omega), xup_at, if_pos rfl, xup_at, if_pos rfl, ← hSO]
            refine hB.new hDs hp ?_
            rw [hSO]
            exact hcc
          · have e2 : ∀ f, f ≠ 1 → ntH H1 (woS (I 118) c ((j : Int) / 2) ((j : Int) % 2)) j k 114 f = H 114 f := fun f w => by
              unfold ntH ntI
              rw [xup_at, if_neg w, h114, h114, h114, if_neg hcc, h114]
            rw [e2 2 (by omega), e2 3 (by omega), e2 4 (by omega)]
            have hf0 : H 114 1 ≠ 0 := fun w => hcc (Or.inl w)
            refine hB.old hDs hp hf0 ?_
            obtain ⟨m1, -, -⟩ := hB.mem hf0
            unfold DC at m1
            rw [hSO]
            omega
        generalize ntH H1 (woS (I 118) c ((j : Int) / 2) ((j : Int) % 2)) j k = H2 at *
        have hF2 : FS I H2 := fun a w1 w2 w3 => by rw [hne a w1]; exact hF1 a w1 w2 w3
        have hW2 : WP H2 c := by
          unfold WP
          rw [hne 115 (by omega), hne 116 (by omega)]
          exact hWP1
        obtain ⟨J, x1, x2⟩ := ih (j + 1) H2 (by omega) hF2 hW2 (by rw [hBn.1, hcs, hin, hc]) (by rw [ej1, hBn.1]; exact hBn.2)
        refine ⟨J, pre J ?_, x2⟩
        rw [ej1] at x1
        refine x_eq rfl (by omega) (by omega) (fun w => ?_) (fun w => absurd hz w)
        repeat refine x_step rfl ?_
        refine x_call rfl hwo ?_
        repeat refine x_step rfl ?_
        refine x_callv rfl hnt ?_
        repeat refine x_step rfl ?_
        exact x_loc (by exact ⟨rfl, rfl, rfl, rfl, trivial⟩) x1
      · have hp : ¬ PO I k j := fun w => hz (hPO.mp w)
        have hin : inD (PO I) k j = 0 := sel_neg hp
        obtain ⟨J, x1, x2⟩ := ih (j + 1) H1 (by omega) hF1 hWP1 (by rw [h114, hcs, hin, hc, Int.add_zero]) (by rw [ej1, h114, h114, h114, h114]; exact hB.no hDs hp)
        refine ⟨J, pre J ?_, x2⟩
        rw [ej1] at x1
        refine x_eq rfl (by omega) (by omega) (fun w => absurd w hz) (fun w => ?_)
        repeat refine x_step rfl ?_
        exact x_loc (by exact ⟨rfl, rfl, rfl, rfl, trivial⟩) x1
  have outer : ∀ (n k : Nat) (H : Nat → Int → Int), (k : Int) + n = I 118 112 → FS I H → H 114 1 = cnC (PO I) k 0 → BI (PO I) (SO I) (DC k 0) (H 114 1) (H 114 2) (H 114 3) (H 114 4) → ∃ J, XE mF_look none (hN J) 15 [(2, .inl (k : Int)), (1, .inr 4), (0, .inr 114)] [.inl (I 118 112), .inl (k : Int)] (hN H) ∧ LQ I J (I 118 112).toNat := by
    intro n
    induction n with
    | zero =>
      intro k H h1 hF hc hB
      have ek : (I 118 112).toNat = k := by omega
      rw [ek]
      refine ⟨H, ?_, hF, hc, hB⟩
      refine x_le rfl (by omega) (by omega) (fun hc => ?_) (fun hc => absurd (by omega) hc)
      repeat refine x_step rfl ?_
      exact x_vret rfl rfl rfl
    | succ n ih =>
      intro k H h1 hF hc hB
      obtain ⟨hwl, hwc⟩ := h.1.2.wd k (by omega) (by omega)
      have ek1 : ((k + 1 : Nat) : Int) = (k : Int) + 1 := by omega
      have hin := inner k (by omega) (fun H2 a1 a2 a3 => by
        have := ih (k + 1) H2 (by omega) a1 a2 (by rw [ek1]; exact a3)
        rw [ek1] at this
        exact this)
      have hw6 : H 6 (k : Int) = I 118 (113 + (k : Int)) := by rw [hF 6 (by omega) (by omega) (by omega)]; exact h.1.w k (by omega) (by omega)
      have hcd := cW_codeOf H k (by omega) (by omega)
      rw [hw6] at hcd
      have hsw := cP_setWord H 115 116 (Or.inr ⟨rfl, rfl⟩) (I 118 (113 + (k : Int))) hwc hwl
      have hne : ∀ a : Nat, a ≠ 115 → a ≠ 116 → swH H 115 116 (I 118 (113 + (k : Int))) a = H a := fun a w1 w2 => by unfold swH; rw [xset_ne w2, xup_ne w1, xup_ne w1]
      have hWP : WP (swH H 115 116 (I 118 (113 + (k : Int)))) (I 118 (113 + (k : Int))) := by
        unfold swH
        refine ⟨?_, ?_, fun i a b => ?_⟩
        · rw [xset_ne (by omega), xup_at, if_neg (by omega), xup_at, if_pos rfl]
        · rw [xset_ne (by omega), xup_at, if_pos rfl]
        · rw [xset_at]
          unfold wrS
          rw [if_pos ⟨a, b⟩]
      generalize swH H 115 116 (I 118 (113 + (k : Int))) = H2 at *
      obtain ⟨J, x1, x2⟩ := hin 162 0 H2 (by omega) (fun a w1 w2 w3 => by rw [hne a w2 w3]; exact hF a w1 w2 w3) hWP (by rw [hne 114 (by omega) (by omega)]; exact hc) (by rw [hne 114 (by omega) (by omega)]; exact hB)
      refine ⟨J, ?_, x2⟩
      refine x_le rfl (by omega) (by omega) (fun hc => absurd hc (by omega)) (fun hc => ?_)
      repeat refine x_step rfl ?_
      refine x_call rfl hcd ?_
      refine x_callv rfl hsw ?_
      repeat refine x_step rfl ?_
      exact x_loc (by exact ⟨rfl, rfl, rfl, rfl, trivial⟩) x1
  have hne0 : ∀ a : Nat, a ≠ 114 → xup I 114 1 0 a = I a := fun a w => xup_ne w
  have h1140 : xup I 114 1 0 114 1 = 0 := by rw [xup_at, if_pos rfl]
  obtain ⟨J, x1, x2⟩ := outer (I 118 112).toNat 0 (xup I 114 1 0) (by omega) (fun a w _ _ => hne0 a w) (by rw [h1140]; rfl) (by rw [h1140]; exact Or.inl ⟨rfl, fun a b w => by unfold DC at w; omega⟩)
  refine ⟨J, ?_, x2⟩
  refine XRa.of (by decide) (Nat.le_of_ble_eq_true rfl) ?_
  have e5 : xup I 114 1 0 5 1 = I 118 112 := by rw [xup_ne (by omega)]; exact h.1.m
  repeat refine x_step rfl ?_
  rw [e5]
  exact x_loc (by exact ⟨rfl, rfl, rfl, trivial⟩) x1
