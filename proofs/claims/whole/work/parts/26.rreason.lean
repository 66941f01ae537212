theorem rf7_c (b : Int → Int) (W : Int → Prop) (c q d : Int) : (2 ≤ rf7 b W c q d 0 ∧ rf7 b W c q d 0 ≤ 7 ∧ ∀ z, rf7 b W c q d z = rf7 b W c q d 0) ∨ (c0S q d + lnS c ≤ 9 ∧ rf7 b W c q d 0 = 0 ∧ ∀ z, rf7 b W c q d z = z) := by
  unfold rf7
  by_cases h2 : 9 < c0S q d + lnS c
  · rw [sel_pos h2]; exact Or.inl ⟨by omega, by omega, fun z => by rw [sel_pos h2]⟩
  · rw [sel_neg h2]
    by_cases h3 : r3P b c q d
    · rw [sel_pos h3]; exact Or.inl ⟨by omega, by omega, fun z => by rw [sel_neg h2, sel_pos h3]⟩
    · rw [sel_neg h3]
      by_cases h4 : r4P b c q d
      · rw [sel_pos h4]; exact Or.inl ⟨by omega, by omega, fun z => by rw [sel_neg h2, sel_neg h3, sel_pos h4]⟩
      · rw [sel_neg h4]
        by_cases h5 : r5P b c q d
        · rw [sel_pos h5]; exact Or.inl ⟨by omega, by omega, fun z => by rw [sel_neg h2, sel_neg h3, sel_neg h4, sel_pos h5]⟩
        · rw [sel_neg h5]
          by_cases h6 : r6P b c q d
          · rw [sel_pos h6]; exact Or.inl ⟨by omega, by omega, fun z => by rw [sel_neg h2, sel_neg h3, sel_neg h4, sel_neg h5, sel_pos h6]⟩
          · rw [sel_neg h6]
            by_cases h7 : r7P b W c q d
            · rw [sel_pos h7]; exact Or.inl ⟨by omega, by omega, fun z => by rw [sel_neg h2, sel_neg h3, sel_neg h4, sel_neg h5, sel_neg h6, sel_pos h7]⟩
            · rw [sel_neg h7]; exact Or.inr ⟨by omega, rfl, fun z => by rw [sel_neg h2, sel_neg h3, sel_neg h4, sel_neg h5, sel_neg h6, sel_neg h7]⟩
theorem rfS_R (b : Int → Int) (W : Int → Prop) (rk : Int → Int) (c q d : Int) : 0 ≤ rfS b W rk c q d ∧ rfS b W rk c q d ≤ 8 := by
  unfold rfS
  by_cases h : W c
  · rw [sel_neg (fun w => w h)]
    rcases rf7_c b W c q d with ⟨h1, h2, h3⟩ | ⟨h1, h2, h3⟩
    · rw [h3]; omega
    · rw [h3]
      rcases sel01 (p := r8P b rk c q d) (a := 8) (b := 0) with e | e <;> omega
  · rw [sel_pos h]; omega
/-- the heap behind reasonOf -/
noncomputable def roH (I : Nat → Int → Int) (c q d : Int) : Nat → Int → Int := @ite _ (inM I c) (Classical.propDecidable _) (wyH I c q d) I
theorem wyH_ne {I : Nat → Int → Int} {c q d : Int} {a : Nat} (h : a ≠ 122) (h2 : a ≠ 123) : wyH I c q d a = I a := by
  unfold wyH
  split
  · rw [xset_ne h]
  · show xset (xset I 122 (wrS (I 122) c 0)) 123 _ a = I a
    rw [xset_ne h2, xset_ne h]
theorem roH_ne {I : Nat → Int → Int} {c q d : Int} {a : Nat} (h : a ≠ 122) (h2 : a ≠ 123) : roH I c q d a = I a := by
  unfold roH
  split
  · exact wyH_ne h h2
  · rfl
theorem cM_reasonOf (I : Nat → Int → Int) (c q d : Int) (hr : plR c q d) (hb : bdR (I 118)) (hw : wdM I) (ht : I 118 106 = 0 ∨ I 118 106 = 1) (hk : amR (rkZ (I 118) (I 118 106))) : XR mM_reasonOf [.inr 117, .inl c, .inl q, .inl d] (hN I) (some (.inl (rfS (I 118) (inM I) (rkZ (I 118) (I 118 106)) c q d))) (hN (roH I c q d)) := by
  refine XRa.of (by decide) (Nat.le_of_ble_eq_true rfl) ?_
  obtain ⟨r1, r2, r3, r4, hd⟩ := id hr
  have hl := lnS_le c
  have hnoR := noM_R I hw.1 hw.2.1 c
  have hno := noM_in hw.1 c
  have hw2 := hw.2.1
  -- out at once
  have out : ∀ (v : Int) (J : Nat → Int → Int) (L : XL), 1 ≤ v → v ≤ 7 → xsub L [(4, .inl v)] → XE mM_reasonOf (some (.inl v)) (hN J) 28 ((5, .inl 1) :: L) [.inl 8, .inl 1] (hN J) := by
    intro v J L h1 h2 hL
    refine x_loc (L' := [(5, .inl 1), (4, .inl v)]) (by refine ⟨rfl, ?_, trivial⟩; exact hL.1) ?_
    refine x_lt rfl (by omega) (by omega) (fun hc => absurd hc (by omega)) (fun hc => ?_)
    repeat refine x_step rfl ?_
    refine x_eq rfl (by omega) (by omega) (fun hc => absurd hc (by omega)) (fun hc => ?_)
    repeat refine x_step rfl ?_
    refine x_eq rfl (by omega) (by omega) (fun hc => absurd hc (by omega)) (fun hc => ?_)
    repeat refine x_step rfl ?_
    exact x_iret rfl rfl rfl rfl
  have loop : c0S q d + lnS c ≤ 9 → ∀ (n : Nat) (k v : Int), k + n = 9 → 1 ≤ k → (v = 0 ∨ v = 8) → (v = 8 ↔ ∃ l, 1 ≤ l ∧ l < k ∧ rkZ (I 118) (I 118 106) l < nwS (I 118) c q d l) → XE mM_reasonOf (some (.inl (sel (r8P (I 118) (rkZ (I 118) (I 118 106)) c q d) 8 0))) (hN (wyH I c q d)) 28 [(5, .inl k), (4, .inl v), (0, .inr 117)] [.inl 8, .inl k] (hN (wyH I c q d)) := by
    intro h9 n
    have eH : wyH I c q d = wyK I c (wnF I c q d (lnS c).toNat) := by unfold wyH; rw [if_neg (by omega)]
    have e118 : wyH I c q d 118 = I 118 := wyH_ne (by omega) (by omega)
    have e123 : ∀ l, 1 ≤ l → l ≤ 8 → wyH I c q d 123 l = nwS (I 118) c q d l := fun l a b => by
      rw [eH]
      show wnF I c q d (lnS c).toNat l = _
      unfold wnF
      rw [if_pos ⟨a, b⟩]
      rfl
    induction n with
    | zero =>
      intro k v h1 h2 hv ev
      refine x_lt rfl (by omega) (by omega) (fun hc => ?_) (fun hc => absurd (by clear ev; omega) hc)
      repeat refine x_step rfl ?_
      refine x_iret rfl rfl ?_ rfl
      by_cases h8 : r8P (I 118) (rkZ (I 118) (I 118 106)) c q d
      · rw [sel_pos h8, ev]
        obtain ⟨l, a1, a2, a3⟩ := h8
        exact ⟨l, a1, by clear ev; omega, a3⟩
      · rw [sel_neg h8]
        rcases hv with hv | hv
        · exact hv
        · obtain ⟨l, a1, a2, a3⟩ := ev.mp hv
          exact absurd ⟨l, a1, by clear ev; omega, a3⟩ h8
    | succ n ih =>
      intro k v h1 h2 hv ev
      have hnw := nwF_R (I 118) c q d k (lnS c).toNat
      have hkk := hk k h2 (by clear ev; omega)
      have body : XE mM_reasonOf (some (.inl (sel (r8P (I 118) (rkZ (I 118) (I 118 106)) c q d) 8 0))) (hN (wyH I c q d)) 43 [(5, .inl k), (4, .inl v), (0, .inr 117)] [] (hN (wyH I c q d)) := by
        have nx : ∀ v2 : Int, (v2 = 0 ∨ v2 = 8) → (v2 = 8 ↔ (v = 8 ∨ rkZ (I 118) (I 118 106) k < nwS (I 118) c q d k)) → XE mM_reasonOf (some (.inl (sel (r8P (I 118) (rkZ (I 118) (I 118 106)) c q d) 8 0))) (hN (wyH I c q d)) 28 [(5, .inl (k + 1)), (4, .inl v2), (0, .inr 117)] [.inl 8, .inl (k + 1)] (hN (wyH I c q d)) := fun v2 hv2 ev2 => by
          refine ih (k + 1) v2 (by clear ev; omega) (by clear ev; omega) hv2 ?_
          rw [ev2, ev]
          clear ev ev2
          constructor
          · rintro (⟨l, a1, a2, a3⟩ | h)
            · exact ⟨l, a1, by omega, a3⟩
            · exact ⟨k, h2, by omega, h⟩
          · rintro ⟨l, a1, a2, a3⟩
            by_cases e : l = k
            · rw [e] at a3; exact Or.inr a3
            · exact Or.inl ⟨l, a1, by omega, a3⟩
        have hnwk : nwS (I 118) c q d k = nwF (I 118) c q d k (lnS c).toNat := rfl
        have hln : ((lnS c).toNat : Int) ≤ 7 := by clear ev; omega
        clear ev ih
        repeat refine x_step rfl ?_
        refine x_ald (len := 8) rfl (by omega) (by omega) ?_
        rw [e123 k h2 (by omega)]
        repeat refine x_step rfl ?_
        refine x_ald (len := 132) rfl (by omega) (by omega) ?_
        rw [e118]
        refine x_call rfl (cM_rackOf _ _) ?_
        repeat refine x_step rfl ?_
        refine x_ald (len := 132) rfl (by omega) (by omega) ?_
        rw [e118, show I 118 (81 + 8 * I 118 106 + k - 1) = rkZ (I 118) (I 118 106) k by unfold rkZ; rw [show 81 + 8 * I 118 106 + k - 1 = 80 + 8 * I 118 106 + k by omega]]
        refine x_le rfl (by omega) (by omega) (fun hc => ?_) (fun hc => ?_)
        · repeat refine x_step rfl ?_
          exact x_loc (by exact ⟨rfl, rfl, rfl, trivial⟩) (nx v hv ⟨fun w => Or.inl w, fun w => w.elim id (fun u => by omega)⟩)
        · repeat refine x_step rfl ?_
          exact x_loc (by exact ⟨rfl, rfl, rfl, trivial⟩) (nx 8 (Or.inr rfl) ⟨fun _ => Or.inr (by omega), fun _ => rfl⟩)
      clear ev ih
      refine x_lt rfl (by omega) (by omega) (fun hc => absurd hc (by omega)) (fun hc => ?_)
      repeat refine x_step rfl ?_
      refine x_eq rfl (by omega) (by omega) (fun hc => body) (fun hc => ?_)
      repeat refine x_step rfl ?_
      refine x_eq rfl (by omega) (by omega) (fun hc => body) (fun hc => absurd hv (by omega))
  unfold rfS roH
  repeat refine x_step rfl ?_
  refine x_call rfl (cM_find I hw c r1) ?_
  refine x_le rfl (by omega) (by omega) (fun h1 => ?_) (fun h1 => ?_)
  · have hin := hno.mp h1
    rw [sel_neg (show ¬ ¬ inM I c from fun w => w hin), if_pos hin]
    repeat refine x_step rfl ?_
    refine x_call rfl (cM_whyNot I c q d hr hb hw) ?_
    repeat refine x_step rfl ?_
    rcases rf7_c (I 118) (inM I) c q d with ⟨g1, g2, g3⟩ | ⟨g1, g2, g3⟩
    · rw [g3]
      exact out _ _ _ (by omega) g2 (by exact ⟨rfl, trivial⟩)
    · rw [g3, g2]
      exact x_loc (by exact ⟨rfl, rfl, rfl, trivial⟩) (loop g1 8 1 0 (by omega) (by omega) (Or.inl rfl) ⟨fun w => by omega, fun ⟨l, a1, a2, _⟩ => by omega⟩)
  · have hin : ¬ inM I c := fun w => h1 (hno.mpr w)
    rw [sel_pos hin, if_neg hin]
    repeat refine x_step rfl ?_
    exact out 1 I _ (by omega) (by omega) (by exact ⟨rfl, trivial⟩)
