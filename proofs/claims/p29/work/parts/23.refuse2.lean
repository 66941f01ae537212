/-! the class's refusal -/
/-- how many new tiles in all -/
def neF (b : Int → Int) (q d : Int) (n : Nat) : Int := xsm (fun i => if lfS b q d i = 0 then 1 else 0) n
theorem neF_R (b : Int → Int) (q d : Int) (n : Nat) : 0 ≤ neF b q d n ∧ neF b q d n ≤ n := xsm_01 _ (fun j => by show (if lfS b q d j = 0 then (1 : Int) else 0) = 0 ∨ (if lfS b q d j = 0 then (1 : Int) else 0) = 1; exact if01) n
theorem neF_0 (b : Int → Int) (q d : Int) : ∀ (n : Nat), (neF b q d n = 0 ↔ ∀ i, 0 ≤ i → i < (n : Int) → lfS b q d i ≠ 0) := by
  intro n
  induction n with
  | zero => exact ⟨fun _ i a b => by omega, fun _ => rfl⟩
  | succ n ih =>
    have hR := neF_R b q d n
    have e : neF b q d (n + 1) = neF b q d n + (if lfS b q d n = 0 then 1 else 0) := rfl
    rw [e]
    constructor
    · intro h i a b
      by_cases hi : i = n
      · rw [hi]
        intro w
        rw [if_pos w] at h
        omega
      · refine ih.mp ?_ i a (by omega)
        split at h <;> omega
    · intro h
      rw [if_neg (h n (by omega) (by omega)), ih.mpr (fun i a b => h i a (by omega))]
      rfl
theorem cG_refusal (I : Nat → Int → Int) (P A : Nat) (c q d : Int) (hP : plP P A) (hp : PL I P A c q d) (hr : plR c q d) (hb : bdR (I 8)) (hw : wdR I) (ht : I 4 7 = 0 ∨ I 4 7 = 1) (hk : amR (I (rkA (I 4 7)))) : XR mG_refusal [.inr 4, .inr P] (hN I) (some (.inl (rfS (I 8) (inC I) (I (rkA (I 4 7))) c q d))) (hN I) := by
  refine XRa.of (by decide) (Nat.le_of_ble_eq_true rfl) ?_
  have hPP := hP
  obtain ⟨r1, r2, r3, r4, hd⟩ := id hr
  obtain ⟨p1, p2, p3, p4, p5⟩ := id hp
  have hl := lnS_le c
  have hc0 := c0_R (d := d) r3 r4
  have hno := no_in hw.1 c
  have hnoR := noS_R I hw.1 hw.2.1 c
  have hw2 := hw.2.1
  unfold rfS rf7
  -- the end: the rack
  have E8 : ∀ (L : XL), xsub L [(0, .inr 4), (1, .inr P)] → c0S q d + lnS c ≤ 9 → XE mG_refusal (some (.inl (sel (r8P (I 8) (I (rkA (I 4 7))) c q d) 8 0))) (hN I) 151 L [] (hN I) := by
    intro L hL h9
    refine x_loc hL ?_
    have hT : tsP (if I 4 7 = 0 then 9 else 11) (rkA (I 4 7)) := by unfold tsP rkA; rcases ht with e | e <;> simp [e]
    repeat refine x_step rfl ?_
    refine x_call rfl (cG_rackOf I _ ht) ?_
    repeat refine x_step rfl ?_
    refine x_call rfl (cG_hasTiles I P A c q d _ _ hT hPP hp hr hb hk h9) ?_
    by_cases h8 : r8P (I 8) (I (rkA (I 4 7))) c q d
    · rw [sel_pos h8, sel_pos h8]
      refine x_eq rfl (by omega) (by omega) (fun hz => ?_) (fun hz => absurd rfl hz)
      repeat refine x_step rfl ?_
      exact x_iret rfl rfl rfl rfl
    · rw [sel_neg h8, sel_neg h8]
      refine x_eq rfl (by omega) (by omega) (fun hz => absurd hz (by omega)) (fun hz => ?_)
      repeat refine x_step rfl ?_
      exact x_iret rfl rfl rfl rfl
  have E6 : ∀ (L : XL), xsub L [(0, .inr 4), (1, .inr P)] → c0S q d + lnS c ≤ 9 → XE mG_refusal (some (.inl (sel (r6P (I 8) c q d) 6 (sel (r7P (I 8) (inC I) c q d) 7 (sel (r8P (I 8) (I (rkA (I 4 7))) c q d) 8 0))))) (hN I) 129 L [] (hN I) := by
    intro L hL h9
    refine x_loc hL ?_
    repeat refine x_step rfl ?_
    refine x_call (by rcases hP with ⟨rfl, rfl⟩ | ⟨rfl, rfl⟩ <;> rfl) (cG_hasAnchor I P A c q d hPP hp hr hb h9) ?_
    by_cases h6 : r6P (I 8) c q d
    · rw [sel_pos h6, sel_pos h6]
      refine x_eq rfl (by omega) (by omega) (fun hz => ?_) (fun hz => absurd rfl hz)
      repeat refine x_step rfl ?_
      exact x_iret rfl rfl rfl rfl
    · rw [sel_neg h6, sel_neg h6]
      refine x_eq rfl (by omega) (by omega) (fun hz => absurd hz (by omega)) (fun hz => ?_)
      repeat refine x_step rfl ?_
      refine x_call (by rcases hP with ⟨rfl, rfl⟩ | ⟨rfl, rfl⟩ <;> rfl) (cG_hasRightCrossings I P A c q d hPP hp hr hb hw h9) ?_
      by_cases h7 : r7P (I 8) (inC I) c q d
      · rw [sel_pos h7, sel_pos h7]
        refine x_eq rfl (by omega) (by omega) (fun hz => ?_) (fun hz => absurd rfl hz)
        repeat refine x_step rfl ?_
        exact x_iret rfl rfl rfl rfl
      · rw [sel_neg h7, sel_neg h7]
        refine x_eq rfl (by omega) (by omega) (fun hz => absurd hz (by omega)) (fun hz => ?_)
        exact E8 _ (by exact ⟨rfl, rfl, trivial⟩) h9
  have E4 : ∀ (L : XL) (ne : Int), ne = neF (I 8) q d (lnS c).toNat → xsub L [(0, .inr 4), (1, .inr P)] → c0S q d + lnS c ≤ 9 → XE mG_refusal (some (.inl (sel (r4P (I 8) c q d) 4 (sel (r5P (I 8) c q d) 5 (sel (r6P (I 8) c q d) 6 (sel (r7P (I 8) (inC I) c q d) 7 (sel (r8P (I 8) (I (rkA (I 4 7))) c q d) 8 0))))))) (hN I) 81 L [.inl ne] (hN I) := by
    intro L ne hne hL h9
    refine x_loc hL ?_
    have hneR := neF_R (I 8) q d (lnS c).toNat
    have hne0 := neF_0 (I 8) q d (lnS c).toNat
    rw [← hne] at hneR hne0
    have e4 : r4P (I 8) c q d ↔ ne = 0 := by
      rw [hne0]
      unfold r4P
      constructor
      · intro h i a b; exact h i a (by omega)
      · intro h i a b; exact h i a (by omega)
    have l1 := lfS_R hb q d (-1)
    have l2 := lfS_R hb q d (lnS c)
    refine x_eq rfl (by omega) (by omega) (fun hz => ?_) (fun hz => ?_)
    · rw [sel_pos (e4.mpr hz)]
      repeat refine x_step rfl ?_
      exact x_iret rfl rfl rfl rfl
    · rw [sel_neg (fun w => hz (e4.mp w))]
      rcases hP with ⟨rfl, rfl⟩ | ⟨rfl, rfl⟩
      all_goals
        repeat refine x_step rfl ?_
        rw [p3, p4]
        refine x_call rfl (cS_letterFrom I q d (-1) r3 r4 hd (by omega)) ?_
        refine x_eq rfl (by omega) (by omega) (fun h5 => ?_) (fun h5 => ?_)
        · repeat refine x_step rfl ?_
          rw [p3, p4, p2]
          refine x_call rfl (cS_letterFrom I q d (lnS c) r3 r4 hd (by omega)) ?_
          refine x_eq rfl (by omega) (by omega) (fun h6 => ?_) (fun h6 => ?_)
          · rw [sel_neg (show ¬ r5P (I 8) c q d from fun w => w.elim (fun u => u h5) (fun u => u h6))]
            exact E6 _ (by exact ⟨rfl, rfl, trivial⟩) h9
          · rw [sel_pos (show r5P (I 8) c q d from Or.inr h6)]
            repeat refine x_step rfl ?_
            exact x_iret rfl rfl rfl rfl
        · rw [sel_pos (show r5P (I 8) c q d from Or.inl h5)]
          repeat refine x_step rfl ?_
          exact x_iret rfl rfl rfl rfl
  have E3 : ∀ (n : Nat) (i : Nat), i + n = (lnS c).toNat → c0S q d + lnS c ≤ 9 → (∀ j : Int, 0 ≤ j → j < i → lfS (I 8) q d j = 0 ∨ lfS (I 8) q d j = wlS c j) → XE mG_refusal (some (.inl (sel (r3P (I 8) c q d) 3 (sel (r4P (I 8) c q d) 4 (sel (r5P (I 8) c q d) 5 (sel (r6P (I 8) c q d) 6 (sel (r7P (I 8) (inC I) c q d) 7 (sel (r8P (I 8) (I (rkA (I 4 7))) c q d) 8 0)))))))) (hN I) 34 [(3, .inl i), (2, .inl (neF (I 8) q d i)), (0, .inr 4), (1, .inr P)] [.inl (lnS c), .inl i] (hN I) := by
    intro n
    induction n with
    | zero =>
      intro i hi h9 hj
      refine x_le rfl (by omega) (by omega) (fun hc => ?_) (fun hc => absurd (by omega) hc)
      rw [sel_neg (show ¬ r3P (I 8) c q d from by
        rintro ⟨j, a1, a2, a3, a4⟩
        rcases hj j a1 (by omega) with w | w
        · exact a3 w
        · exact a4 w)]
      repeat refine x_step rfl ?_
      exact E4 _ _ (by rw [show (lnS c).toNat = i by omega]) (by exact ⟨rfl, rfl, trivial⟩) h9
    | succ n ih =>
      intro i hi h9 hj
      have ha := at_in (k := i) r3 r4 hd (by omega) (by omega)
      have hlf := lf_in (b := I 8) (k := i) hd r3 r4 (by omega) (by omega)
      have hlr := lfS_R hb q d i
      have hwl := wlS_R r2 (show (0 : Int) ≤ i by omega) (show (i : Int) < lnS c by omega)
      have hneR := neF_R (I 8) q d i
      have nextE : ∀ (u : Int), u = neF (I 8) q d (i + 1) → (lfS (I 8) q d i = 0 ∨ lfS (I 8) q d i = wlS c i) → XE mG_refusal (some (.inl (sel (r3P (I 8) c q d) 3 (sel (r4P (I 8) c q d) 4 (sel (r5P (I 8) c q d) 5 (sel (r6P (I 8) c q d) 6 (sel (r7P (I 8) (inC I) c q d) 7 (sel (r8P (I 8) (I (rkA (I 4 7))) c q d) 8 0)))))))) (hN I) 34 [(3, .inl ((i : Int) + 1)), (2, .inl u), (0, .inr 4), (1, .inr P)] [.inl (lnS c), .inl ((i : Int) + 1)] (hN I) := fun u hu hm => by
        rw [hu]
        exact ih (i + 1) (by omega) h9 (fun j a b => by
          by_cases e : j = i
          · rw [e]; exact hm
          · exact hj j a (by omega))
      have eN : neF (I 8) q d (i + 1) = neF (I 8) q d i + (if lfS (I 8) q d i = 0 then 1 else 0) := rfl
      rcases hP with ⟨rfl, rfl⟩ | ⟨rfl, rfl⟩
      all_goals
        refine x_le rfl (by omega) (by omega) (fun hc => absurd hc (by omega)) (fun hc => ?_)
        repeat refine x_step rfl ?_
        refine x_call rfl (cP_squareOf I _ _ hPP c q d hp hr i) ?_
        refine x_call rfl (cS_letterOn I _ ha.1 ha.2.1) ?_
        rw [hlf]
        repeat refine x_step rfl ?_
        refine x_eq rfl (by omega) (by omega) (fun hz => ?_) (fun hz => ?_)
        · repeat refine x_step rfl ?_
          rw [p2]
          exact x_loc (by exact ⟨rfl, rfl, rfl, rfl, trivial⟩) (nextE _ (by rw [eN, if_pos hz]) (Or.inl hz))
        · repeat refine x_step rfl ?_
          refine x_call rfl (cP_letterOf I _ _ hPP c q d hp i (by omega) (by omega)) ?_
          refine x_eq rfl (by omega) (by omega) (fun hz2 => ?_) (fun hz2 => ?_)
          · repeat refine x_step rfl ?_
            rw [p2]
            exact x_loc (by exact ⟨rfl, rfl, rfl, rfl, trivial⟩) (nextE _ (by rw [eN, if_neg hz]; omega) (Or.inr hz2))
          · rw [sel_pos (show r3P (I 8) c q d from ⟨i, by omega, by omega, hz, hz2⟩)]
            repeat refine x_step rfl ?_
            exact x_iret rfl rfl rfl rfl
  have fin := E3 (lnS c).toNat 0 (by omega)
  rcases hP with ⟨rfl, rfl⟩ | ⟨rfl, rfl⟩
  all_goals
    repeat refine x_step rfl ?_
    rw [p1]
    refine x_call rfl (cW_no I hw c r1) ?_
    refine x_le rfl (by omega) (by omega) (fun h1 => ?_) (fun h1 => ?_)
    · rw [sel_neg (show ¬ ¬ inC I c from fun w => w (hno.mp h1))]
      repeat refine x_step rfl ?_
      refine x_call rfl (cP_isOnBoard I _ _ hPP c q d hp hr) ?_
      by_cases h9 : c0S q d + lnS c ≤ 9
      · rw [if_pos h9, sel_neg (by omega)]
        refine x_eq rfl (by omega) (by omega) (fun hz => absurd hz (by omega)) (fun hz => ?_)
        repeat refine x_step rfl ?_
        rw [p2]
        exact x_loc (by exact ⟨rfl, rfl, rfl, rfl, trivial⟩) (fin h9 (fun j a b => by omega))
      · rw [if_neg h9, sel_pos (by omega)]
        refine x_eq rfl (by omega) (by omega) (fun hz => ?_) (fun hz => absurd rfl hz)
        repeat refine x_step rfl ?_
        exact x_iret rfl rfl rfl rfl
    · rw [sel_pos (show ¬ inC I c from fun w => h1 (hno.mpr w))]
      repeat refine x_step rfl ?_
      exact x_iret rfl rfl rfl rfl
