/-! the law's reasons -/
section LAW3
variable {I : Nat → Int → Int}
set_option maxRecDepth 20000 in
set_option maxHeartbeats 4000000 in
theorem cL_reason (h : SIM I) (c q d : Int) (hr : plR c q d) : XR mL_reason [.inr 3, .inl c, .inl q, .inl d] (hN I) (some (.inl (RF I c q d))) (hN I) := by
  obtain ⟨r1, r2, r3, r4, hd⟩ := id hr
  obtain ⟨l1, l2, l3, l4, l5⟩ := lnS_pos r2
  have hb := h.1.2.bd
  have htu := h.1.2.tu
  have hc0 := c0_R (d := d) r3 r4
  have hlf := lfS_R hb q d
  -- the answers
  have v1 : ¬ inM I c → RF I c q d = 1 := fun w => by unfold RF rfS; rw [sel_pos w]
  have v2 : inM I c → 9 < c0S q d + lnS c → RF I c q d = 2 := fun w w2 => by unfold RF rfS rf7; rw [sel_neg (fun g => g w), sel_pos w2]
  have v3 : inM I c → c0S q d + lnS c ≤ 9 → r3P (I 118) c q d → RF I c q d = 3 := fun w w2 w3 => by unfold RF rfS rf7; rw [sel_neg (fun g => g w), sel_neg (by omega), sel_pos w3]
  have v4 : inM I c → c0S q d + lnS c ≤ 9 → ¬ r3P (I 118) c q d → r4P (I 118) c q d → RF I c q d = 4 := fun w w2 w3 w4 => by unfold RF rfS rf7; rw [sel_neg (fun g => g w), sel_neg (by omega), sel_neg w3, sel_pos w4]
  have v5 : inM I c → c0S q d + lnS c ≤ 9 → ¬ r3P (I 118) c q d → ¬ r4P (I 118) c q d → r5P (I 118) c q d → RF I c q d = 5 := fun w w2 w3 w4 w5 => by unfold RF rfS rf7; rw [sel_neg (fun g => g w), sel_neg (by omega), sel_neg w3, sel_neg w4, sel_pos w5]
  have v6 : inM I c → c0S q d + lnS c ≤ 9 → ¬ r3P (I 118) c q d → ¬ r4P (I 118) c q d → ¬ r5P (I 118) c q d → r6P (I 118) c q d → RF I c q d = 6 := fun w w2 w3 w4 w5 w6 => by unfold RF rfS rf7; rw [sel_neg (fun g => g w), sel_neg (by omega), sel_neg w3, sel_neg w4, sel_neg w5, sel_pos w6]
  have v7 : inM I c → c0S q d + lnS c ≤ 9 → ¬ r3P (I 118) c q d → ¬ r4P (I 118) c q d → ¬ r5P (I 118) c q d → ¬ r6P (I 118) c q d → r7P (I 118) (inM I) c q d → RF I c q d = 7 := fun w w2 w3 w4 w5 w6 w7 => by unfold RF rfS rf7; rw [sel_neg (fun g => g w), sel_neg (by omega), sel_neg w3, sel_neg w4, sel_neg w5, sel_neg w6, sel_pos w7]
  have v8 : inM I c → c0S q d + lnS c ≤ 9 → ¬ r3P (I 118) c q d → ¬ r4P (I 118) c q d → ¬ r5P (I 118) c q d → ¬ r6P (I 118) c q d → ¬ r7P (I 118) (inM I) c q d → RF I c q d = sel (r8P (I 118) (rkZ (I 118) (I 118 106)) c q d) 8 0 := fun w w2 w3 w4 w5 w6 w7 => by unfold RF rfS rf7; rw [sel_neg (fun g => g w), sel_neg (by omega), sel_neg w3, sel_neg w4, sel_neg w5, sel_neg w6, sel_neg w7]
  generalize RF I c q d = T at *
  have hat := fun (k : Int) (a : 0 ≤ k) (b : k < lnS c) (h9 : c0S q d + lnS c ≤ 9) => at_in (k := k) r3 r4 hd (by omega) (by omega)
  have hao := fun (k : Int) (a : 0 ≤ k) (b : k < lnS c) (h9 : c0S q d + lnS c ≤ 9) => (show aoS q d k = atS q d k by unfold aoS; rw [if_pos (by omega)])
  have hil := fun (k : Int) (a : 0 ≤ k) (b : k < lnS c) (h9 : c0S q d + lnS c ≤ 9) => lf_in (b := I 118) (k := k) hd r3 r4 (by omega) (by omega)
  refine XRa.of (by decide) (Nat.le_of_ble_eq_true rfl) ?_
  -- the rack
  have E : inM I c → c0S q d + lnS c ≤ 9 → T = sel (r8P (I 118) (rkZ (I 118) (I 118 106)) c q d) 8 0 → ∀ (m : Nat) (l : Int), l + m = 9 → 1 ≤ l → (∀ j, 1 ≤ j → j < l → nwS (I 118) c q d j ≤ rkZ (I 118) (I 118 106) j) → XE mL_reason (some (.inl T)) (hN I) 230 [(9, .inl l), (4, .inl (lnS c)), (3, .inl d), (2, .inl q), (1, .inl c), (0, .inr 3)] [.inl 9, .inl l] (hN I) := by
    intro w h9 vT m
    induction m with
    | zero =>
      intro l e1 e2 e3
      have e : l = 9 := by clear e3; omega
      refine x_le rfl (by clear e3; omega) (by omega) (fun _ => ?_) (fun g => absurd (by clear e3; omega) g)
      repeat refine x_step rfl ?_
      refine x_iret rfl rfl ?_ rfl
      rw [vT, sel_neg]
      rintro ⟨j, j1, j2, j3⟩
      have := e3 j j1 (by clear e3; omega)
      omega
    | succ m ih =>
      intro l e1 e2 e3
      have el : l ≤ 8 := by clear e3; omega
      have inner : ∀ (n k : Nat), (k : Int) + n = lnS c → XE mL_reason (some (.inl T)) (hN I) 243 [(11, .inl (k : Int)), (10, .inl (nwF (I 118) c q d l k)), (9, .inl l), (4, .inl (lnS c)), (3, .inl d), (2, .inl q), (1, .inl c), (0, .inr 3)] [.inl (lnS c), .inl (k : Int)] (hN I) := by
        intro n
        induction n with
        | zero =>
          intro k g1
          have hnR := nwF_R (I 118) c q d l k
          have hrk := h.1.2.rz htu l e2 el
          have ek : nwF (I 118) c q d l k = nwS (I 118) c q d l := by unfold nwS; rw [show (lnS c).toNat = k by clear e3; omega]
          refine x_le rfl (by clear e3; omega) (by clear e3; omega) (fun _ => ?_) (fun g => absurd (by clear e3; omega) g)
          repeat refine x_step rfl ?_
          refine x_call rfl (B_count6 h) ?_
          repeat refine x_step rfl ?_
          refine x_call rfl (B_tiles h (I 118 106) l (by clear e3; omega) (by clear e3; omega) e2 el) ?_
          show XE mL_reason (some (.inl T)) (hN I) 301 _ [.inl (rkZ (I 118) (I 118 106) l), .inl (nwF (I 118) c q d l k)] (hN I)
          refine x_le rfl (by clear e3; omega) (by clear e3; omega) (fun g => ?_) (fun g => ?_)
          · repeat refine x_step rfl ?_
            refine x_loc (by exact ⟨rfl, rfl, rfl, rfl, rfl, rfl, trivial⟩) (ih (l + 1) (by clear e3; omega) (by clear e3; omega) (fun j j1 j2 => ?_))
            by_cases g2 : j = l
            · rw [g2, ← ek]; exact g
            · exact e3 j j1 (by clear e3; omega)
          · repeat refine x_step rfl ?_
            exact x_iret rfl rfl (by rw [vT, sel_pos ⟨l, e2, el, by rw [← ek]; clear e3; omega⟩]) rfl
        | succ n ih2 =>
          intro k g1
          have g2 : ((k + 1 : Nat) : Int) + n = lnS c := by clear e3; omega
          have kn : (k : Int) < lnS c := by clear e3; omega
          have k0 : (0 : Int) ≤ k := by clear e3; omega
          have a1 := hat k k0 kn h9
          have a2 := hao k k0 kn h9
          have a3 := hil k k0 kn h9
          have hl := hlf k
          have hw := wlS_R r2 k0 kn
          have es := nwF_s (I 118) c q d l k
          refine x_le rfl (by clear e3; omega) (by clear e3; omega) (fun g => absurd g (by clear e3; omega)) (fun _ => ?_)
          repeat refine x_step rfl ?_
          refine x_call rfl (cL_further _ q d k r3 r4 hd (by clear e3; omega)) ?_
          rw [a2]
          refine x_call rfl (B_tile h _ a1.1 a1.2.1) ?_
          rw [a3]
          refine x_eq rfl (by clear e3; omega) (by omega) (fun g => ?_) (fun g => ?_)
          · repeat refine x_step rfl ?_
            refine x_call rfl (cL_letter _ c k r2 r1 k0 kn) ?_
            repeat refine x_step rfl ?_
            refine x_eq rfl (by clear e3; omega) (by clear e3; omega) (fun g3 => ?_) (fun g3 => ?_)
            · rw [if_pos ⟨g3, g⟩] at es
              repeat refine x_step rfl ?_
              exact x_loc (by exact ⟨rfl, xsi es.symm, rfl, rfl, rfl, rfl, rfl, rfl, trivial⟩) (ih2 (k + 1) g2)
            · rw [if_neg (fun v => g3 v.1)] at es
              repeat refine x_step rfl ?_
              exact x_loc (by exact ⟨rfl, xsi es.symm, rfl, rfl, rfl, rfl, rfl, rfl, trivial⟩) (ih2 (k + 1) g2)
          · rw [if_neg (fun v => g v.2)] at es
            repeat refine x_step rfl ?_
            exact x_loc (by exact ⟨rfl, xsi es.symm, rfl, rfl, rfl, rfl, rfl, rfl, trivial⟩) (ih2 (k + 1) g2)
      refine x_le rfl (by clear e3; omega) (by omega) (fun g => absurd g (by clear e3; omega)) (fun _ => ?_)
      repeat refine x_step rfl ?_
      exact x_loc (by exact ⟨rfl, rfl, rfl, rfl, rfl, rfl, rfl, rfl, trivial⟩) (inner (lnS c).toNat 0 (by clear e3; omega))
  -- behind the squares
  have F : inM I c → c0S q d + lnS c ≤ 9 → ¬ r3P (I 118) c q d → ∀ (a al : Int), (a = 0 ∨ a = 1) → (al = 0 ∨ al = 1) → (a = 0 ↔ r6P (I 118) c q d) → (al = 0 ↔ r7P (I 118) (inM I) c q d) → XE mL_reason (some (.inl T)) (hN I) 166 [(8, .inl al), (7, .inl a), (6, .inl (neF (I 118) q d (lnS c).toNat)), (4, .inl (lnS c)), (3, .inl d), (2, .inl q), (1, .inl c), (0, .inr 3)] [.inl (neF (I 118) q d (lnS c).toNat)] (hN I) := by
    intro w h9 n3 a al ha hal ea eal
    have hneR := neF_R (I 118) q d (lnS c).toNat
    have hne0 := neF_0 (I 118) q d (lnS c).toNat
    have e4 : r4P (I 118) c q d ↔ neF (I 118) q d (lnS c).toNat = 0 := by
      rw [hne0]
      unfold r4P
      constructor
      · intro h i a b; exact h i a (by omega)
      · intro h i a b; exact h i a (by omega)
    have hm1 := hlf (-1)
    have hn1 := hlf (lnS c)
    clear hne0
    refine x_eq rfl (by omega) (by omega) (fun g4 => ?_) (fun g4 => ?_)
    · repeat refine x_step rfl ?_
      exact x_iret rfl rfl (v4 w h9 n3 (e4.mpr g4)).symm rfl
    · have n4 : ¬ r4P (I 118) c q d := fun g => g4 (e4.mp g)
      clear e4
      have five : ∀ L : XL, r5P (I 118) c q d → XE mL_reason (some (.inl T)) (hN I) 198 L [] (hN I) := by
        intro L g
        repeat refine x_step rfl ?_
        exact x_iret rfl rfl (v5 w h9 n3 n4 g).symm rfl
      repeat refine x_step rfl ?_
      refine x_call rfl (cL_further _ q d (-1) r3 r4 hd (by omega)) ?_
      refine x_call rfl (cL_far h q d (-1) r3 r4 hd) ?_
      refine x_lt rfl (by omega) (by omega) (fun g => five _ (Or.inl (by omega))) (fun g => ?_)
      repeat refine x_step rfl ?_
      refine x_call rfl (cL_further _ q d (lnS c) r3 r4 hd (by omega)) ?_
      refine x_call rfl (cL_far h q d (lnS c) r3 r4 hd) ?_
      refine x_le rfl (by omega) (by omega) (fun g5 => ?_) (fun g5 => five _ (Or.inr (by omega)))
      have n5 : ¬ r5P (I 118) c q d := fun v => v.elim (fun u => u (by omega)) (fun u => u (by omega))
      repeat refine x_step rfl ?_
      refine x_eq rfl (by omega) (by omega) (fun g6 => ?_) (fun g6 => ?_)
      · repeat refine x_step rfl ?_
        refine x_eq rfl (by omega) (by omega) (fun g7 => ?_) (fun g7 => absurd g6 g7)
        repeat refine x_step rfl ?_
        exact x_iret rfl rfl (v6 w h9 n3 n4 n5 (ea.mp g6)).symm rfl
      · have n6 : ¬ r6P (I 118) c q d := fun v => g6 (ea.mpr v)
        repeat refine x_step rfl ?_
        refine x_eq rfl (by omega) (by omega) (fun g7 => ?_) (fun g7 => ?_)
        · repeat refine x_step rfl ?_
          refine x_eq rfl (by omega) (by omega) (fun g8 => absurd g8 g6) (fun g8 => ?_)
          repeat refine x_step rfl ?_
          exact x_iret rfl rfl (v7 w h9 n3 n4 n5 n6 (eal.mp g7)).symm rfl
        · have n7 : ¬ r7P (I 118) (inM I) c q d := fun v => g7 (eal.mpr v)
          repeat refine x_step rfl ?_
          exact x_loc (by exact ⟨rfl, rfl, rfl, rfl, rfl, rfl, trivial⟩) (E w h9 (v8 w h9 n3 n4 n5 n6 n7) 8 1 (by omega) (by omega) (fun j j1 j2 => by omega))
  -- the squares
  have D : inM I c → c0S q d + lnS c ≤ 9 → ∀ (n i : Nat) (a al : Int), i + n = (lnS c).toNat → (a = 0 ∨ a = 1) → (al = 0 ∨ al = 1) → ¬ oQ (I 118) c q d i → (a = 0 ↔ aQ (I 118) q d i) → (al = 0 ↔ lQ (I 118) (inM I) c q d i) → XE mL_reason (some (.inl T)) (hN I) 50 [(9, .inl (i : Int)), (8, .inl al), (7, .inl a), (6, .inl (neF (I 118) q d i)), (4, .inl (lnS c)), (3, .inl d), (2, .inl q), (1, .inl c), (0, .inr 3)] [.inl (lnS c), .inl (i : Int)] (hN I) := by
    intro w h9 n
    induction n with
    | zero =>
      intro i a al hi ha hal eo ea eal
      have ei : i = (lnS c).toNat := by clear eo ea eal; omega
      subst ei
      have en : ((lnS c).toNat : Int) = lnS c := by clear eo ea eal; omega
      refine x_le rfl (by clear eo ea eal; omega) (by clear eo ea eal; omega) (fun _ => ?_) (fun hc => absurd (by clear eo ea eal; omega) hc)
      repeat refine x_step rfl ?_
      refine x_loc (by exact ⟨rfl, rfl, rfl, rfl, rfl, rfl, rfl, rfl, trivial⟩) (F w h9 ?_ a al ha hal ?_ ?_)
      · rintro ⟨j, a1, a2, a3⟩
        exact eo ⟨j, a1, by clear eo ea eal; omega, a3⟩
      · rw [ea]
        clear eo ea eal
        unfold r6P aQ
        constructor
        · intro h j a1 a2; exact h j a1 (by omega)
        · intro h j a1 a2; exact h j a1 (by omega)
      · rw [eal]
        clear eo ea eal
        unfold r7P lQ
        constructor
        · rintro ⟨j, a1, a2, a3⟩; exact ⟨j, a1, by omega, a3⟩
        · rintro ⟨j, a1, a2, a3⟩; exact ⟨j, a1, by omega, a3⟩
    | succ n ih =>
      intro i a al hi ha hal eo ea eal
      have kn : (i : Int) < lnS c := by clear eo ea eal ih; omega
      have k0 : (0 : Int) ≤ i := by clear eo ea eal ih; omega
      have a1 := hat i k0 kn h9
      have a2 := hao i k0 kn h9
      have a3 := hil i k0 kn h9
      have hl := hlf i
      have hw := wlS_R r2 k0 kn
      have hneR := neF_R (I 118) q d i
      have eN : neF (I 118) q d (i + 1) = neF (I 118) q d i + (if lfS (I 118) q d i = 0 then 1 else 0) := rfl
      have nx := fun (ae ale ne2 : Int) (hne2 : ne2 = neF (I 118) q d (i + 1)) (ha2 : ae = 0 ∨ ae = 1) (hal2 : ale = 0 ∨ ale = 1) (eo2 : ¬ (lfS (I 118) q d i ≠ 0 ∧ lfS (I 118) q d i ≠ wlS c i)) (ea2 : ae = 0 ↔ (a = 0 ∧ anS (I 118) (atS q d i) = 0)) (eal2 : ale = 0 ↔ (al = 0 ∨ (lfS (I 118) q d i = 0 ∧ ¬ alP (I 118) (inM I) (atS q d i) d (wlS c i)))) => (show XE mL_reason (some (.inl T)) (hN I) 50 [(9, .inl ((i : Int) + 1)), (8, .inl ale), (7, .inl ae), (6, .inl ne2), (4, .inl (lnS c)), (3, .inl d), (2, .inl q), (1, .inl c), (0, .inr 3)] [.inl (lnS c), .inl ((i : Int) + 1)] (hN I) from by
        subst hne2
        refine ih (i + 1) ae ale (by clear eo ea eal eo2 ea2 eal2 ih; omega) ha2 hal2 ?_ ?_ ?_
        · rintro ⟨j, b1, b2, b3⟩
          by_cases e : j = i
          · rw [e] at b3; exact eo2 b3
          · exact eo ⟨j, b1, by clear eo ea eal eo2 ea2 eal2 ih; omega, b3⟩
        · rw [ea2, ea]
          clear eo ea eal eo2 ea2 eal2 ih
          unfold aQ
          constructor
          · rintro ⟨h1, h2⟩ j a1 a2
            by_cases e : j = i
            · rw [e]; exact h2
            · exact h1 j a1 (by omega)
          · intro h
            exact ⟨fun j a1 a2 => h j a1 (by omega), h i (by omega) (by omega)⟩
        · rw [eal2, eal]
          clear eo ea eal eo2 ea2 eal2 ih
          unfold lQ
          constructor
          · rintro (⟨j, a1, a2, a3⟩ | h)
            · exact ⟨j, a1, by omega, a3⟩
            · exact ⟨i, by omega, by omega, h⟩
          · rintro ⟨j, a1, a2, a3⟩
            by_cases e : j = i
            · rw [e] at a3; exact Or.inr a3
            · exact Or.inl ⟨j, a1, by omega, a3⟩)
      have n3 : ¬ r3P (I 118) c q d → ¬ (lfS (I 118) q d i ≠ 0 ∧ lfS (I 118) q d i ≠ wlS c i) := fun g v => g ⟨i, k0, kn, v⟩
      have y3 : (lfS (I 118) q d i ≠ 0 ∧ lfS (I 118) q d i ≠ wlS c i) → T = 3 := fun g => v3 w h9 ⟨i, k0, kn, g⟩
      clear n3 eo ea eal ih E F v1 v2 v3 v4 v5 v6 v7 v8
      have hbit := csF_bit (alP (I 118) (inM I) (atS q d i) d) (wlS c i) hw.1 hw.2
      have han := anS01 (I 118) (atS q d i)
      -- a new tile, the anchor known
      have J2 : lfS (I 118) q d i = 0 → ∀ (ae : Int) (L : XL), (ae = 0 ∨ ae = 1) → (ae = 0 ↔ (a = 0 ∧ anS (I 118) (atS q d i) = 0)) → xsub L [(7, .inl ae), (10, .inl (atS q d i)), (9, .inl (i : Int)), (8, .inl al), (6, .inl (neF (I 118) q d i + 1)), (4, .inl (lnS c)), (3, .inl d), (2, .inl q), (1, .inl c), (0, .inr 3)] → XE mL_reason (some (.inl T)) (hN I) 126 L [.inl al] (hN I) := by
        intro hz0 ae L ha2 ea2 hL
        refine x_loc hL ?_
        refine x_eq rfl (by omega) (by omega) (fun hq => ?_) (fun hq => ?_)
        · repeat refine x_step rfl ?_
          exact x_loc (by exact ⟨rfl, rfl, rfl, rfl, rfl, rfl, rfl, rfl, rfl, trivial⟩) (nx ae 0 (neF (I 118) q d i + 1) (by rw [eN, if_pos hz0]) ha2 (Or.inl rfl) (fun v => v.1 hz0) ea2 ⟨fun _ => Or.inl hq, fun _ => rfl⟩)
        · repeat refine x_step rfl ?_
          refine x_call rfl (cL_crossCheck h (atS q d i) d a1.1 a1.2.1 hd) ?_
          repeat refine x_step rfl ?_
          refine x_call rfl (cL_letter _ c i r2 r1 k0 kn) ?_
          repeat refine x_step rfl ?_
          refine x_ishr rfl hbit.2.1 hbit.2.2 (by omega) (by omega) ?_
          repeat refine x_step rfl ?_
          refine x_iand1 rfl ?_
          repeat refine x_step rfl ?_
          refine x_eq rfl (by omega) (by omega) (fun hq2 => ?_) (fun hq2 => ?_)
          · repeat refine x_step rfl ?_
            exact x_loc (by exact ⟨rfl, rfl, rfl, rfl, rfl, rfl, rfl, rfl, rfl, trivial⟩) (nx ae 1 (neF (I 118) q d i + 1) (by rw [eN, if_pos hz0]) ha2 (Or.inr rfl) (fun v => v.1 hz0) ea2 ⟨fun v => absurd v (by omega), fun v => v.elim (fun u => absurd u hq) (fun u => absurd (hbit.1.mp hq2) u.2)⟩)
          · repeat refine x_step rfl ?_
            exact x_loc (by exact ⟨rfl, rfl, rfl, rfl, rfl, rfl, rfl, rfl, rfl, trivial⟩) (nx ae 0 (neF (I 118) q d i + 1) (by rw [eN, if_pos hz0]) ha2 (Or.inl rfl) (fun v => v.1 hz0) ea2 ⟨fun _ => Or.inr ⟨hz0, fun v => hq2 (hbit.1.mpr v)⟩, fun _ => rfl⟩)
      have ean : lfS (I 118) q d i ≠ 0 → anS (I 118) (atS q d i) = 0 := fun hz0 => by
        unfold anS
        rw [if_neg]
        intro v
        rw [a3] at v
        exact hz0 v.1
      have mid : ∀ L : XL, ¬ (lfS (I 118) q d i ≠ 0 ∧ lfS (I 118) q d i ≠ wlS c i) → xsub L [(10, .inl (atS q d i)), (9, .inl (i : Int)), (8, .inl al), (7, .inl a), (6, .inl (neF (I 118) q d i)), (4, .inl (lnS c)), (3, .inl d), (2, .inl q), (1, .inl c), (0, .inr 3)] → XE mL_reason (some (.inl T)) (hN I) 88 L [] (hN I) := by
        intro L g hL
        refine x_loc hL ?_
        repeat refine x_step rfl ?_
        refine x_call rfl (B_tile h _ a1.1 a1.2.1) ?_
        rw [a3]
        refine x_le rfl (by omega) (by omega) (fun hz => ?_) (fun hz => ?_)
        · have hz0 : lfS (I 118) q d i = 0 := by omega
          repeat refine x_step rfl ?_
          refine x_eq rfl (by omega) (by omega) (fun hq => ?_) (fun hq => ?_)
          · repeat refine x_step rfl ?_
            refine x_call rfl (cL_isAnchor h _ a1.1 a1.2.1) ?_
            refine x_eq rfl (by omega) (by omega) (fun hq2 => ?_) (fun hq2 => ?_)
            · repeat refine x_step rfl ?_
              exact J2 hz0 0 _ (Or.inl rfl) ⟨fun _ => ⟨hq, hq2⟩, fun _ => rfl⟩ (by exact ⟨rfl, rfl, rfl, rfl, rfl, rfl, rfl, rfl, rfl, rfl, trivial⟩)
            · repeat refine x_step rfl ?_
              exact J2 hz0 1 _ (Or.inr rfl) ⟨fun v => absurd v (by omega), fun v => absurd v.2 hq2⟩ (by exact ⟨rfl, rfl, rfl, rfl, rfl, rfl, rfl, rfl, rfl, rfl, trivial⟩)
          · repeat refine x_step rfl ?_
            exact J2 hz0 1 _ (Or.inr rfl) ⟨fun v => absurd v (by omega), fun v => absurd v.1 hq⟩ (by exact ⟨rfl, rfl, rfl, rfl, rfl, rfl, rfl, rfl, rfl, rfl, trivial⟩)
        · have hz0 : lfS (I 118) q d i ≠ 0 := by omega
          repeat refine x_step rfl ?_
          exact x_loc (by exact ⟨rfl, rfl, rfl, rfl, rfl, rfl, rfl, rfl, rfl, trivial⟩) (nx a al (neF (I 118) q d i) (by rw [eN, if_neg hz0]; omega) ha hal g ⟨fun v => ⟨v, ean hz0⟩, fun v => v.1⟩ ⟨fun v => Or.inl v, fun v => v.elim id (fun u => absurd u.1 hz0)⟩)
      refine x_le rfl (by omega) (by omega) (fun g => absurd g (by omega)) (fun _ => ?_)
      repeat refine x_step rfl ?_
      refine x_call rfl (cL_further _ q d i r3 r4 hd (by omega)) ?_
      rw [a2]
      repeat refine x_step rfl ?_
      refine x_call rfl (B_tile h _ a1.1 a1.2.1) ?_
      rw [a3]
      refine x_le rfl (by omega) (by omega) (fun hz => ?_) (fun hz => ?_)
      · exact mid _ (fun v => v.1 (by omega)) (by exact ⟨rfl, rfl, rfl, rfl, rfl, rfl, rfl, rfl, rfl, rfl, trivial⟩)
      · repeat refine x_step rfl ?_
        refine x_call rfl (B_tile h _ a1.1 a1.2.1) ?_
        rw [a3]
        repeat refine x_step rfl ?_
        refine x_call rfl (cL_letter _ c i r2 r1 k0 kn) ?_
        refine x_eq rfl (by omega) (by omega) (fun hz2 => ?_) (fun hz2 => ?_)
        · exact mid _ (fun v => v.2 hz2) (by exact ⟨rfl, rfl, rfl, rfl, rfl, rfl, rfl, rfl, rfl, rfl, trivial⟩)
        · repeat refine x_step rfl ?_
          exact x_iret rfl rfl (y3 ⟨by omega, hz2⟩).symm rfl
  repeat refine x_step rfl ?_
  refine x_call rfl (cL_size _ c l1 r1) ?_
  rw [l5]
  repeat refine x_step rfl ?_
  refine x_call rfl (cL_further _ q d (lnS c - 1) r3 r4 hd (by omega)) ?_
  have hrl := aoS_R (k := lnS c - 1) r3 r4 hd
  repeat refine x_step rfl ?_
  refine x_call rfl (cL_isInList h c r1) ?_
  by_cases w : inM I c
  · rw [sel_pos w]
    refine x_eq rfl (by omega) (by omega) (fun g => absurd g (by omega)) (fun _ => ?_)
    repeat refine x_step rfl ?_
    refine x_le rfl (by omega) (by omega) (fun g => ?_) (fun g => ?_)
    · have h9 : c0S q d + lnS c ≤ 9 := by
        by_cases g2 : 0 ≤ c0S q d + (lnS c - 1) ∧ c0S q d + (lnS c - 1) ≤ 8
        · omega
        · unfold aoS at g
          rw [if_neg g2] at g
          omega
      repeat refine x_step rfl ?_
      exact x_loc (by exact ⟨rfl, rfl, rfl, rfl, rfl, rfl, rfl, rfl, rfl, trivial⟩) (D w h9 (lnS c).toNat 0 0 1 (by omega) (Or.inl rfl) (Or.inr rfl) (fun ⟨j, a1, a2, _⟩ => by omega) ⟨fun _ j a1 a2 => by omega, fun _ => rfl⟩ ⟨fun v => absurd v (by omega), fun ⟨j, a1, a2, _⟩ => by omega⟩)
    · have h9 : 9 < c0S q d + lnS c := by
        by_cases g2 : 0 ≤ c0S q d + (lnS c - 1) ∧ c0S q d + (lnS c - 1) ≤ 8
        · have := at_in (k := lnS c - 1) r3 r4 hd g2.1 g2.2
          unfold aoS at g
          rw [if_pos g2] at g
          omega
        · omega
      repeat refine x_step rfl ?_
      exact x_iret rfl rfl (v2 w h9).symm rfl
  · rw [sel_neg w]
    refine x_eq rfl (by omega) (by omega) (fun _ => ?_) (fun g => absurd rfl g)
    repeat refine x_step rfl ?_
    exact x_iret rfl rfl (v1 w).symm rfl
end LAW3
