/-! the law looks through all plays -/
noncomputable def cnM (P : Int → Int → Prop) (m j k : Nat) : Int := xsm (fun b => xsm (fun a => inD P a b) m) j + xsm (fun a => inD P a j) k
theorem cnM_s (P : Int → Int → Prop) (m j k : Nat) : cnM P m j (k + 1) = cnM P m j k + inD P k j := by
  unfold cnM
  have e1 : xsm (fun a => inD P a j) (k + 1) = xsm (fun a => inD P a j) k + inD P k j := rfl
  rw [e1]
  omega
theorem cnM_n (P : Int → Int → Prop) (m j : Nat) : cnM P m (j + 1) 0 = cnM P m j m := by
  unfold cnM
  have e1 : xsm (fun b => xsm (fun a => inD P a b) m) (j + 1) = xsm (fun b => xsm (fun a => inD P a b) m) j + xsm (fun a => inD P a j) m := rfl
  have e2 : ∀ f, xsm f 0 = 0 := fun _ => rfl
  rw [e1, e2]
  omega
theorem cn_eq (P : Int → Int → Prop) (m : Nat) : cnM P m 162 0 = cnC P m 0 := by
  unfold cnM cnC
  have e2 : ∀ f, xsm f 0 = 0 := fun _ => rfl
  rw [e2, e2, xsm_swap]
def DM (m j k : Int) : Int → Int → Prop := fun a b => 0 ≤ a ∧ a < m ∧ 0 ≤ b ∧ (b < j ∨ (b = j ∧ a < k))
theorem DM_s {m j k : Int} (hj : 0 ≤ j) (hk : 0 ≤ k) (hk2 : k < m) (a b : Int) : DM m j (k + 1) a b ↔ DM m j k a b ∨ (a = k ∧ b = j) := by
  unfold DM
  omega
theorem DM_n {m j : Int} (hj : 0 ≤ j) (a b : Int) : DM m (j + 1) 0 a b ↔ DM m j m a b := by
  unfold DM
  omega
theorem DM_C {m : Int} (hm : 0 ≤ m) (a b : Int) : DM m 162 0 a b ↔ DC m 0 a b := by
  unfold DM DC
  omega
/-- what the law has found -/
def MB (P : Int → Int → Prop) (S : Int → Int → Int) (D : Int → Int → Prop) (f : Int) (g : Int → Int) : Prop := ∃ bp, BI P S D f (g 0) bp (g 3) ∧ (f ≠ 0 → g 1 = bp / 2 ∧ g 2 = bp % 2) ∧ (f = 0 → g 0 = -5 ∧ g 1 = -5 ∧ g 2 = -5 ∧ g 3 = -5)
/-- a heap like the one with the law's row, but for what the queries write -/
theorem BH_up {I H : Nat → Int → Int} {g : Int → Int} {j v : Int} (hF : FQ (Hg I g) H) : FQ (Hg I (fun i => if i = j then v else g i)) (xup H (200 + (I 0 0).toNat) j v) := by
  intro a w
  by_cases e : a = 200 + (I 0 0).toNat
  · rw [e, Hg_at]
    funext i
    rw [xup_at, hF _ (by omega), Hg_at]
  · rw [xup_ne e, hF a w]
    unfold Hg
    rw [xset_ne e, xset_ne e]
theorem BH_at {I H : Nat → Int → Int} {g : Int → Int} (hF : FQ (Hg I g) H) : H (200 + (I 0 0).toNat) = g := by rw [hF _ (by omega), Hg_at]
theorem BH_0 {I H : Nat → Int → Int} {g : Int → Int} (hF : FQ (Hg I g) H) : H 0 0 = I 0 0 + 1 := by rw [hF _ (by omega), Hg_0]
theorem BH_8 {I H : Nat → Int → Int} {g : Int → Int} (hF : FQ (Hg I g) H) : H 118 = I 118 := by rw [hF.e8, Hg_e8]
section BEST
variable {I : Nat → Int → Int}
set_option maxRecDepth 20000 in
set_option maxHeartbeats 4000000 in
theorem cL_isBest (h : SIM I) (hi : 0 ≤ I 0 0) : ∃ J g, XRa mL_isBest 1 4 [.inr 3] (hN I) (some (.inl 1)) (hN J) ∧ FQ (Hg I g) J := by
  have hmn := h.1.2.mn
  have em : ((I 118 112).toNat : Int) = I 118 112 := by omega
  have hm : (I 0 0).toNat < (I 0 0 + 1).toNat := by omega
  have hS := fun (g : Int → Int) (H : Nat → Int → Int) (hF : FQ (Hg I g) H) => FQ.sim (Hg_sim h g) hF
  -- the end
  have fin : ∀ (H : Nat → Int → Int) (g : Int → Int) (f : Int) (L : XL), FQ (Hg I g) H → g (-1) = 4 → f = cnM (PO I) (I 118 112).toNat 162 0 → MB (PO I) (SO I) (DM (I 118 112) 162 0) f g → xsub L [(2, .inl f), (1, .inr (117 + (I 0 0).toNat)), (0, .inr 3)] → ∃ J g2, XEa mL_isBest 1 4 1 4 (some (.inl 1)) (hN J) 157 L [] (hN H) ∧ FQ (Hg I g2) J := by
    intro H g f L hF hg hf hMB hL
    obtain ⟨bp, b1, b2, b3⟩ := hMB
    have hB : BST I f (g 0) bp (g 3) := ⟨by rw [hf, cn_eq], b1.dd (fun a b => by rw [em]; exact (DM_C (by omega) a b).symm)⟩
    have hR := BST.R h hB
    obtain ⟨J1, x1, F1⟩ := B_plays (hS g H hF) (BST.c (BH_8 hF) hB)
    have G1 := hF.tr F1
    obtain ⟨J2, x2, F2⟩ := B_best (hS g J1 G1) (BST.c (BH_8 G1) hB) 0 (by omega) (by omega)
    have G2 := G1.tr F2
    obtain ⟨J3, x3, F3⟩ := B_best (hS g J2 G2) (BST.c (BH_8 G2) hB) 1 (by omega) (by omega)
    have G3 := G2.tr F3
    obtain ⟨J4, x4, F4⟩ := B_best (hS g J3 G3) (BST.c (BH_8 G3) hB) 2 (by omega) (by omega)
    have G4 := G3.tr F4
    obtain ⟨J5, x5, F5⟩ := B_best (hS g J4 G4) (BST.c (BH_8 G4) hB) 3 (by omega) (by omega)
    have G5 := G4.tr F5
    refine ⟨J5, g, ?_, G5⟩
    have v0 : (if f = 0 then -5 else if (0 : Int) = 0 then g 0 else if (0 : Int) = 1 then bp / 2 else if (0 : Int) = 2 then bp % 2 else g 3) = g 0 := by
      by_cases w : f = 0
      · rw [if_pos w, (b3 w).1]
      · rw [if_neg w, if_pos rfl]
    have v1 : (if f = 0 then -5 else if (1 : Int) = 0 then g 0 else if (1 : Int) = 1 then bp / 2 else if (1 : Int) = 2 then bp % 2 else g 3) = g 1 := by
      by_cases w : f = 0
      · rw [if_pos w, (b3 w).2.1]
      · rw [if_neg w, if_neg (by omega), if_pos rfl, (b2 w).1]
    have v2 : (if f = 0 then -5 else if (2 : Int) = 0 then g 0 else if (2 : Int) = 1 then bp / 2 else if (2 : Int) = 2 then bp % 2 else g 3) = g 2 := by
      by_cases w : f = 0
      · rw [if_pos w, (b3 w).2.2.1]
      · rw [if_neg w, if_neg (by omega), if_neg (by omega), if_pos rfl, (b2 w).2]
    have v3 : (if f = 0 then -5 else if (3 : Int) = 0 then g 0 else if (3 : Int) = 1 then bp / 2 else if (3 : Int) = 2 then bp % 2 else g 3) = g 3 := by
      by_cases w : f = 0
      · rw [if_pos w, (b3 w).2.2.2]
      · rw [if_neg w, if_neg (by omega), if_neg (by omega), if_neg (by omega)]
    rw [v0] at x2
    rw [v1] at x3
    rw [v2] at x4
    rw [v3] at x5
    have gR : InR (g 0) ∧ InR (g 1) ∧ InR (g 2) ∧ InR (g 3) := by
      by_cases w : f = 0
      · obtain ⟨c0, c1, c2, c3⟩ := b3 w
        omega
      · obtain ⟨c1, c2⟩ := b2 w
        obtain ⟨d0, d1, d2, d3, d4, d5, -⟩ := hR.2.2 w
        omega
    have ld : ∀ (H : Nat → Int → Int), FQ (Hg I g) H → (I 0 0).toNat < (H 0 0).toNat ∧ H (200 + (I 0 0).toNat) (-1) = 4 ∧ H (200 + (I 0 0).toNat) = g := fun H hF => by
      rw [BH_0 hF, BH_at hF]
      exact ⟨hm, hg, rfl⟩
    clear b1 b2 b3 hB v0 v1 v2 v3 hf hS
    refine x_loc hL ?_
    repeat refine x_step rfl ?_
    refine x_calla (mc' := 0) (ms' := 0) rfl x1 ⟨by omega, by omega⟩ ?_
    repeat refine x_step rfl ?_
    refine x_eq rfl (by omega) (by omega) (fun _ => ?_) (fun w => absurd rfl w)
    repeat refine x_step rfl ?_
    refine x_calla (mc' := 0) (ms' := 0) rfl x2 ⟨by omega, by omega⟩ ?_
    repeat refine x_step rfl ?_
    refine x_aldE (t := (I 0 0).toNat) rfl (ld _ G2).1 (by omega) (by rw [(ld _ G2).2.1]; omega) (by rw [(ld _ G2).2.1]; omega) ?_
    rw [(ld _ G2).2.2]
    refine x_eq rfl gR.1 gR.1 (fun _ => ?_) (fun w => absurd rfl w)
    repeat refine x_step rfl ?_
    refine x_calla (mc' := 0) (ms' := 0) rfl x3 ⟨by omega, by omega⟩ ?_
    repeat refine x_step rfl ?_
    refine x_aldE (t := (I 0 0).toNat) rfl (ld _ G3).1 (by omega) (by rw [(ld _ G3).2.1]; omega) (by rw [(ld _ G3).2.1]; omega) ?_
    rw [(ld _ G3).2.2]
    refine x_eq rfl gR.2.1 gR.2.1 (fun _ => ?_) (fun w => absurd rfl w)
    repeat refine x_step rfl ?_
    refine x_calla (mc' := 0) (ms' := 0) rfl x4 ⟨by omega, by omega⟩ ?_
    repeat refine x_step rfl ?_
    refine x_aldE (t := (I 0 0).toNat) rfl (ld _ G4).1 (by omega) (by rw [(ld _ G4).2.1]; omega) (by rw [(ld _ G4).2.1]; omega) ?_
    rw [(ld _ G4).2.2]
    refine x_eq rfl gR.2.2.1 gR.2.2.1 (fun _ => ?_) (fun w => absurd rfl w)
    repeat refine x_step rfl ?_
    refine x_calla (mc' := 0) (ms' := 0) rfl x5 ⟨by omega, by omega⟩ ?_
    repeat refine x_step rfl ?_
    refine x_aldE (t := (I 0 0).toNat) rfl (ld _ G5).1 (by omega) (by rw [(ld _ G5).2.1]; omega) (by rw [(ld _ G5).2.1]; omega) ?_
    rw [(ld _ G5).2.2]
    refine x_eq rfl gR.2.2.2 gR.2.2.2 (fun _ => ?_) (fun w => absurd rfl w)
    repeat refine x_step rfl ?_
    refine x_calla (mc' := 0) (ms' := 0) rfl (B_best4 (I := J5)) ⟨by omega, by omega⟩ ?_
    repeat refine x_step rfl ?_
    refine x_eq rfl (by omega) (by omega) (fun _ => ?_) (fun w => absurd rfl w)
    repeat refine x_step rfl ?_
    exact x_zret rfl rfl rfl (Or.inr rfl) rfl
  -- the words at one place
  have inner : ∀ (s w : Nat), s ≤ 80 → w ≤ 1 → (∀ (H : Nat → Int → Int) (g : Int → Int) (f : Int), FQ (Hg I g) H → g (-1) = 4 → f = cnM (PO I) (I 118 112).toNat (2 * s + w + 1) 0 → MB (PO I) (SO I) (DM (I 118 112) ((2 * s + w : Nat) + 1) 0) f g → ∃ J g2, XEa mL_isBest 1 4 1 4 (some (.inl 1)) (hN J) 38 [(4, .inl ((w : Int) + 1)), (3, .inl (s : Int)), (2, .inl f), (1, .inr (117 + (I 0 0).toNat)), (0, .inr 3)] [.inl 2, .inl ((w : Int) + 1)] (hN H) ∧ FQ (Hg I g2) J) → ∀ (n k : Nat) (H : Nat → Int → Int) (g : Int → Int) (f : Int), (k : Int) + n = I 118 112 → FQ (Hg I g) H → g (-1) = 4 → f = cnM (PO I) (I 118 112).toNat (2 * s + w) k → MB (PO I) (SO I) (DM (I 118 112) (2 * s + w : Nat) k) f g → ∃ J g2, XEa mL_isBest 1 4 1 4 (some (.inl 1)) (hN J) 48 [(5, .inl (k : Int)), (4, .inl (w : Int)), (3, .inl (s : Int)), (2, .inl f), (1, .inr (117 + (I 0 0).toNat)), (0, .inr 3)] [.inl 0, .inr 3, .inl (k : Int)] (hN H) ∧ FQ (Hg I g2) J := by
    intro s w hs hw cont n
    induction n with
    | zero =>
      intro k H g f e1 hF hg hf hMB
      have ek : (I 118 112).toNat = k := by omega
      obtain ⟨bp, b1, b2, b3⟩ := hMB
      obtain ⟨J, g2, x1, x2⟩ := cont H g f hF hg (by rw [cnM_n, hf, ek]) ⟨bp, b1.dd (fun a b => by rw [DM_n (by omega), show (k : Int) = I 118 112 by omega]), b2, b3⟩
      refine ⟨J, g2, ?_, x2⟩
      have c0 := B_count0 (hS g H hF)
      rw [BH_8 hF] at c0
      refine x_calla (mc' := 0) (ms' := 0) rfl c0 ⟨by omega, by omega⟩ ?_
      refine x_le rfl (by omega) (by omega) (fun _ => ?_) (fun v => absurd (by omega) v)
      repeat refine x_step rfl ?_
      exact x_loc (by exact ⟨rfl, rfl, rfl, rfl, rfl, trivial⟩) x1
    | succ n ih =>
      intro k H g f e1 hF hg hf hMB
      have hSH := hS g H hF
      have e8 := BH_8 hF
      have k0 : (0 : Int) ≤ k := by omega
      have k1 : (k : Int) < I 118 112 := by omega
      obtain ⟨hwl, hwc⟩ := h.1.2.wd k k0 k1
      have c0 := B_count0 hSH
      have cw := B_word hSH k k0 (by rw [e8]; exact k1)
      rw [e8] at c0 cw
      have hd : (w : Int) = 0 ∨ (w : Int) = 1 := by omega
      have ed : ((2 * s + w : Nat) : Int) / 2 = (s : Int) := by omega
      have emd : ((2 * s + w : Nat) : Int) % 2 = (w : Int) := by omega
      have hPO : PO I k (2 * s + w : Nat) ↔ RF I (I 118 (113 + (k : Int))) s w = 0 := by unfold PO RF; rw [ed, emd]
      have hSO : SO I k (2 * s + w : Nat) = woS (I 118) (I 118 (113 + (k : Int))) s w := by unfold SO; rw [ed, emd]
      generalize hcw : I 118 (113 + (k : Int)) = c at *
      have f1 := cdH_FQ H c s w
      have F1 := hF.tr f1
      have rs := B_reason hSH c s w hwc hwl (by omega) (by omega) hd
      rw [RF_c e8] at rs
      have hRR := RF_R I c s w
      have cnt := cnM_s (PO I) (I 118 112).toNat (2 * s + w) k
      have hDs := DM_s (m := I 118 112) (j := (2 * s + w : Nat)) (k := (k : Int)) (by omega) k0 k1
      have ek1 : ((k + 1 : Nat) : Int) = (k : Int) + 1 := by omega
      -- the reason is asked
      have pre : ∀ J, XEa mL_isBest 1 4 1 4 (some (.inl 1)) (hN J) 76 [(5, .inl (k : Int)), (4, .inl (w : Int)), (3, .inl (s : Int)), (2, .inl f), (1, .inr (117 + (I 0 0).toNat)), (0, .inr 3)] [.inl (RF I c s w)] (hN (cdH H c s w)) → XEa mL_isBest 1 4 1 4 (some (.inl 1)) (hN J) 48 [(5, .inl (k : Int)), (4, .inl (w : Int)), (3, .inl (s : Int)), (2, .inl f), (1, .inr (117 + (I 0 0).toNat)), (0, .inr 3)] [.inl 0, .inr 3, .inl (k : Int)] (hN H) := by
        intro J x
        have mid : ∀ (d : Int) (L : XL), d = (w : Int) → xsub L [(5, .inl (k : Int)), (4, .inl (w : Int)), (3, .inl (s : Int)), (2, .inl f), (1, .inr (117 + (I 0 0).toNat)), (0, .inr 3)] → XEa mL_isBest 1 4 1 4 (some (.inl 1)) (hN J) 73 L [.inl d, .inl (s : Int), .inl c, .inr 3] (hN H) := by
          intro d L e hL
          subst e
          refine x_loc hL ?_
          refine x_calla (mc' := 0) (ms' := 0) rfl rs ⟨by omega, by omega⟩ ?_
          exact x
        refine x_calla (mc' := 0) (ms' := 0) rfl c0 ⟨by omega, by omega⟩ ?_
        refine x_le rfl (by omega) (by omega) (fun v => absurd v (by omega)) (fun _ => ?_)
        repeat refine x_step rfl ?_
        refine x_calla (mc' := 0) (ms' := 0) rfl cw ⟨by omega, by omega⟩ ?_
        repeat refine x_step rfl ?_
        refine x_eq rfl (by omega) (by omega) (fun v => ?_) (fun v => ?_)
        · repeat refine x_step rfl ?_
          exact mid 1 _ v.symm (by exact ⟨rfl, rfl, rfl, rfl, rfl, rfl, trivial⟩)
        · repeat refine x_step rfl ?_
          exact mid 0 _ (by omega) (by exact ⟨rfl, rfl, rfl, rfl, rfl, rfl, trivial⟩)
      obtain ⟨bp, b1, b2, b3⟩ := hMB
      by_cases hz : RF I c s w = 0
      · have hp := hPO.mpr hz
        have hin : inD (PO I) k (2 * s + w : Nat) = 1 := sel_pos hp
        have hS1 := hS g _ F1
        have wo := B_worth hS1 c s w hwc hwl (by omega) (by omega) hd
        rw [RF_c (BH_8 F1), BH_8 F1, if_pos (Or.inl hz)] at wo
        have hwR := woS_R (I 118) c s w
        have f2 := cdH_FQ (cdH H c s w) c s w
        have F2 := F1.tr f2
        have cw1 := B_word hS1 k k0 (by rw [BH_8 F1]; exact k1)
        rw [BH_8 F1, hcw] at cw1
        have hf0 := b1.f0
        have gR : InR (g 0) := by
          by_cases v : f = 0
          · rw [(b3 v).1]; omega
          · obtain ⟨-, -, d3⟩ := b1.mem v
            have := woS_R (I 118) (I 118 (113 + g 3)) (bp / 2) (bp % 2)
            have d3 : g 0 = woS (I 118) (I 118 (113 + g 3)) (bp / 2) (bp % 2) := d3
            omega
        -- the score is asked
        have ask : ∀ J, XEa mL_isBest 1 4 1 4 (some (.inl 1)) (hN J) 114 [(6, .inl (woS (I 118) c s w)), (5, .inl (k : Int)), (4, .inl (w : Int)), (3, .inl (s : Int)), (2, .inl (f + 1)), (1, .inr (117 + (I 0 0).toNat)), (0, .inr 3)] [.inl (g 0), .inl (woS (I 118) c s w)] (hN (cdH (cdH H c s w) c s w)) → XEa mL_isBest 1 4 1 4 (some (.inl 1)) (hN J) 76 [(5, .inl (k : Int)), (4, .inl (w : Int)), (3, .inl (s : Int)), (2, .inl f), (1, .inr (117 + (I 0 0).toNat)), (0, .inr 3)] [.inl (RF I c s w)] (hN (cdH H c s w)) := by
          intro J x
          have mid : ∀ (d : Int) (L : XL), d = (w : Int) → xsub L [(5, .inl (k : Int)), (4, .inl (w : Int)), (3, .inl (s : Int)), (2, .inl f), (1, .inr (117 + (I 0 0).toNat)), (0, .inr 3)] → XEa mL_isBest 1 4 1 4 (some (.inl 1)) (hN J) 101 L [.inl d, .inl (s : Int), .inl c, .inr 3] (hN (cdH H c s w)) := by
            intro d L e hL
            subst e
            refine x_loc hL ?_
            refine x_calla (mc' := 0) (ms' := 0) rfl wo ⟨by omega, by omega⟩ ?_
            repeat refine x_step rfl ?_
            refine x_aldE (t := (I 0 0).toNat) rfl (by rw [BH_0 F2]; exact hm) (by omega) (by rw [BH_at F2, hg]; omega) (by rw [BH_at F2, hg]; omega) ?_
            rw [BH_at F2]
            exact x_loc (by exact ⟨rfl, rfl, rfl, rfl, rfl, rfl, rfl, trivial⟩) x
          refine x_eq rfl (by omega) (by omega) (fun _ => ?_) (fun v => absurd hz v)
          repeat refine x_step rfl ?_
          refine x_calla (mc' := 0) (ms' := 0) rfl cw1 ⟨by omega, by omega⟩ ?_
          repeat refine x_step rfl ?_
          refine x_eq rfl (by omega) (by omega) (fun v => ?_) (fun v => ?_)
          · repeat refine x_step rfl ?_
            exact mid 1 _ v.symm (by exact ⟨rfl, rfl, rfl, rfl, rfl, rfl, trivial⟩)
          · repeat refine x_step rfl ?_
            exact mid 0 _ (by omega) (by exact ⟨rfl, rfl, rfl, rfl, rfl, rfl, trivial⟩)
        by_cases hc : g 0 < woS (I 118) c s w
        · -- a better one
          have b4 := b1.new hDs hp (by rw [hSO]; exact Or.inr (Or.inl hc))
          rw [hSO] at b4
          have G1 := BH_up (j := 0) (v := woS (I 118) c s w) F2
          have G2 := BH_up (j := 1) (v := (s : Int)) G1
          have G3 := BH_up (j := 2) (v := (w : Int)) G2
          have G4 := BH_up (j := 3) (v := (k : Int)) G3
          generalize hg4 : (fun i => if i = 3 then (k : Int) else (fun i => if i = 2 then (w : Int) else (fun i => if i = 1 then (s : Int) else (fun i => if i = 0 then woS (I 118) c s w else g i) i) i) i) = g4 at G4
          have q0 : g4 0 = woS (I 118) c s w := by rw [← hg4]; rfl
          have q1 : g4 1 = s := by rw [← hg4]; rfl
          have q2 : g4 2 = w := by rw [← hg4]; rfl
          have q3 : g4 3 = k := by rw [← hg4]; rfl
          have q4 : g4 (-1) = 4 := by rw [← hg4]; exact hg
          obtain ⟨J, g2, x1, x2⟩ := ih (k + 1) _ g4 (f + 1) (by omega) G4 q4 (by rw [cnt, hin, hf]) ⟨(2 * s + w : Nat), by rw [ek1, q0, q3]; exact b4, fun _ => by rw [q1, q2]; omega, fun v => by omega⟩
          rw [ek1] at x1
          refine ⟨J, g2, pre J (ask J ?_), x2⟩
          clear b1 b2 b3 b4 ih cont pre ask fin hS
          refine x_lt rfl (by omega) (by omega) (fun _ => ?_) (fun v => absurd hc v)
          repeat refine x_step rfl ?_
          refine x_astE (t := (I 0 0).toNat) rfl (by rw [BH_0 F2]; exact hm) (by omega) (by rw [BH_at F2, hg]; omega) (by rw [BH_at F2, hg]; omega) ?_
          repeat refine x_step rfl ?_
          refine x_astE (t := (I 0 0).toNat) rfl (by rw [BH_0 G1]; exact hm) (by omega) (by rw [BH_at G1]; show (1 : Int) < g (-1); rw [hg]; omega) (by rw [BH_at G1]; show g (-1) < (2000 : Int); rw [hg]; omega) ?_
          repeat refine x_step rfl ?_
          refine x_astE (t := (I 0 0).toNat) rfl (by rw [BH_0 G2]; exact hm) (by omega) (by rw [BH_at G2]; show (2 : Int) < g (-1); rw [hg]; omega) (by rw [BH_at G2]; show g (-1) < (2000 : Int); rw [hg]; omega) ?_
          repeat refine x_step rfl ?_
          refine x_astE (t := (I 0 0).toNat) rfl (by rw [BH_0 G3]; exact hm) (by omega) (by rw [BH_at G3]; show (3 : Int) < g (-1); rw [hg]; omega) (by rw [BH_at G3]; show g (-1) < (2000 : Int); rw [hg]; omega) ?_
          repeat refine x_step rfl ?_
          exact x_loc (by exact ⟨rfl, rfl, rfl, rfl, rfl, rfl, trivial⟩) x1
        · have hfn : f ≠ 0 := fun v => by
            have := (b3 v).1
            omega
          have hmem := (b1.mem hfn).1
          unfold DM at hmem
          have b4 := b1.old hDs hp hfn (by rw [hSO]; omega)
          obtain ⟨J, g2, x1, x2⟩ := ih (k + 1) _ g (f + 1) (by omega) F2 hg (by rw [cnt, hin, hf]) ⟨bp, by rw [ek1]; exact b4, fun _ => b2 hfn, fun v => by omega⟩
          rw [ek1] at x1
          refine ⟨J, g2, pre J (ask J ?_), x2⟩
          clear b1 b2 b3 b4 ih cont pre ask fin hS
          refine x_lt rfl (by omega) (by omega) (fun v => absurd v hc) (fun _ => ?_)
          repeat refine x_step rfl ?_
          exact x_loc (by exact ⟨rfl, rfl, rfl, rfl, rfl, rfl, trivial⟩) x1
      · have hp : ¬ PO I k (2 * s + w : Nat) := fun v => hz (hPO.mp v)
        have hin : inD (PO I) k (2 * s + w : Nat) = 0 := sel_neg hp
        obtain ⟨J, g2, x1, x2⟩ := ih (k + 1) _ g f (by omega) F1 hg (by rw [cnt, hin, hf, Int.add_zero]) ⟨bp, by rw [ek1]; exact b1.no hDs hp, b2, b3⟩
        rw [ek1] at x1
        refine ⟨J, g2, pre J ?_, x2⟩
        refine x_eq rfl (by omega) (by omega) (fun v => absurd v hz) (fun _ => ?_)
        repeat refine x_step rfl ?_
        exact x_loc (by exact ⟨rfl, rfl, rfl, rfl, rfl, rfl, trivial⟩) x1
  -- the places
  have places : ∀ (n s : Nat) (H : Nat → Int → Int) (g : Int → Int) (f : Int), s + n = 81 → FQ (Hg I g) H → g (-1) = 4 → f = cnM (PO I) (I 118 112).toNat (2 * s) 0 → MB (PO I) (SO I) (DM (I 118 112) (2 * s : Nat) 0) f g → ∃ J g2, XEa mL_isBest 1 4 1 4 (some (.inl 1)) (hN J) 29 [(3, .inl (s : Int)), (2, .inl f), (1, .inr (117 + (I 0 0).toNat)), (0, .inr 3)] [.inl 81, .inl (s : Int)] (hN H) ∧ FQ (Hg I g2) J := by
    intro n
    induction n with
    | zero =>
      intro s H g f e1 hF hg hf hMB
      have e : s = 81 := by omega
      subst e
      obtain ⟨J, g2, x1, x2⟩ := fin H g f [(2, .inl f), (1, .inr (117 + (I 0 0).toNat)), (0, .inr 3)] hF hg hf hMB (by exact ⟨rfl, rfl, rfl, trivial⟩)
      refine ⟨J, g2, ?_, x2⟩
      refine x_le rfl (by omega) (by omega) (fun _ => ?_) (fun v => absurd (by omega) v)
      exact x_loc (by exact ⟨rfl, rfl, rfl, trivial⟩) x1
    | succ n ih =>
      intro s H g f e1 hF hg hf hMB
      have es : ((s + 1 : Nat) : Int) = (s : Int) + 1 := by omega
      have ways : ∀ (m w : Nat) (H : Nat → Int → Int) (g : Int → Int) (f : Int), w + m = 2 → FQ (Hg I g) H → g (-1) = 4 → f = cnM (PO I) (I 118 112).toNat (2 * s + w) 0 → MB (PO I) (SO I) (DM (I 118 112) (2 * s + w : Nat) 0) f g → ∃ J g2, XEa mL_isBest 1 4 1 4 (some (.inl 1)) (hN J) 38 [(4, .inl (w : Int)), (3, .inl (s : Int)), (2, .inl f), (1, .inr (117 + (I 0 0).toNat)), (0, .inr 3)] [.inl 2, .inl (w : Int)] (hN H) ∧ FQ (Hg I g2) J := by
        intro m
        induction m with
        | zero =>
          intro w H g f e2 hF hg hf hMB
          have e : w = 2 := by omega
          subst e
          obtain ⟨J, g2, x1, x2⟩ := ih (s + 1) H g f (by omega) hF hg hf hMB
          rw [es] at x1
          refine ⟨J, g2, ?_, x2⟩
          refine x_le rfl (by omega) (by omega) (fun _ => ?_) (fun v => absurd (by omega) v)
          repeat refine x_step rfl ?_
          exact x_loc (by exact ⟨rfl, rfl, rfl, rfl, trivial⟩) x1
        | succ m ih2 =>
          intro w H g f e2 hF hg hf hMB
          have ew : ((w + 1 : Nat) : Int) = (w : Int) + 1 := by omega
          obtain ⟨J, g2, x1, x2⟩ := inner s w (by omega) (by omega) (fun H g f a1 a2 a3 a4 => by
            have := ih2 (w + 1) H g f (by omega) a1 a2 a3 a4
            rw [ew] at this
            exact this) (I 118 112).toNat 0 H g f (by omega) hF hg hf hMB
          refine ⟨J, g2, ?_, x2⟩
          refine x_le rfl (by omega) (by omega) (fun v => absurd v (by omega)) (fun _ => ?_)
          repeat refine x_step rfl ?_
          exact x_loc (by exact ⟨rfl, rfl, rfl, rfl, rfl, rfl, trivial⟩) x1
      obtain ⟨J, g2, x1, x2⟩ := ways 2 0 H g f (by omega) hF hg hf hMB
      refine ⟨J, g2, ?_, x2⟩
      refine x_le rfl (by omega) (by omega) (fun v => absurd v (by omega)) (fun _ => ?_)
      repeat refine x_step rfl ?_
      exact x_loc (by exact ⟨rfl, rfl, rfl, rfl, rfl, trivial⟩) x1
  -- the row is made
  have made : ∀ (n k : Nat) (g : Int → Int), k + n = 4 → g (-1) = 4 → (∀ j : Int, 0 ≤ j → j < k → g j = -5) → ∃ J g2, XEa mL_isBest 1 4 1 4 (some (.inl 1)) (hN J) 8 [(2, .inl (k : Int)), (1, .inr (117 + (I 0 0).toNat)), (0, .inr 3)] [.inl 4, .inl (k : Int)] (hN (Hg I g)) ∧ FQ (Hg I g2) J := by
    intro n
    induction n with
    | zero =>
      intro k g e1 hg hk
      have e : k = 4 := by clear hk; omega
      subst e
      obtain ⟨J, g2, x1, x2⟩ := places 81 0 (Hg I g) g 0 (by omega) (FQ.rf _) hg rfl ⟨0, Or.inl ⟨rfl, fun a b v => by unfold DM at v; omega⟩, fun v => absurd rfl v, fun _ => ⟨hk 0 (by omega) (by omega), hk 1 (by omega) (by omega), hk 2 (by omega) (by omega), hk 3 (by omega) (by omega)⟩⟩
      refine ⟨J, g2, ?_, x2⟩
      refine x_le rfl (by omega) (by omega) (fun _ => ?_) (fun v => absurd (by omega) v)
      repeat refine x_step rfl ?_
      exact x_loc (by exact ⟨rfl, rfl, rfl, rfl, trivial⟩) x1
    | succ n ih =>
      intro k g e1 hg hk
      have ek1 : ((k + 1 : Nat) : Int) = (k : Int) + 1 := by omega
      obtain ⟨J, g2, x1, x2⟩ := ih (k + 1) (fun i => if i = (k : Int) then -5 else g i) (by clear hk; omega) (by show (if (-1 : Int) = (k : Int) then (-5 : Int) else g (-1)) = 4; rw [if_neg (by clear hk; omega)]; exact hg) (fun j a b => by
        show (if j = (k : Int) then (-5 : Int) else g j) = -5
        by_cases v : j = k
        · rw [if_pos v]
        · rw [if_neg v]
          exact hk j a (by clear hk; omega))
      rw [ek1] at x1
      refine ⟨J, g2, ?_, x2⟩
      clear hk
      refine x_le rfl (by omega) (by omega) (fun v => absurd v (by omega)) (fun _ => ?_)
      repeat refine x_step rfl ?_
      refine x_astE (t := (I 0 0).toNat) rfl (by rw [Hg_0]; exact hm) (by omega) (by rw [Hg_at, hg]; omega) (by rw [Hg_at, hg]; omega) ?_
      rw [Hg_up]
      repeat refine x_step rfl ?_
      exact x_loc (by exact ⟨rfl, rfl, rfl, trivial⟩) x1
  obtain ⟨J, g2, x1, x2⟩ := made 4 0 (fun j => if j = -1 then ((4 : Nat) : Int) else 0) (by omega) (if_pos rfl) (fun j a b => by omega)
  refine ⟨J, g2, XRa.of (by decide) (Nat.le_of_ble_eq_true rfl) ?_, x2⟩
  repeat refine x_step rfl ?_
  refine x_newE (len := 4) rfl (by omega) hi ⟨by omega, by omega⟩ ?_
  show XEa mL_isBest 1 4 1 4 _ _ _ _ _ (hN (Hg I (fun j => if j = -1 then ((4 : Nat) : Int) else 0)))
  repeat refine x_step rfl ?_
  exact x_loc (by exact ⟨rfl, rfl, rfl, trivial⟩) x1
end BEST
