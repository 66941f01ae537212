/-! the reference's reasons -/
theorem lf_shift {b : Int → Int} {q d k s : Int} (hd : d = 0 ∨ d = 1) (h0 : 0 ≤ q) (h1 : q ≤ 80) (hi : 0 ≤ c0S q d + k) (hi2 : c0S q d + k ≤ 8) : lfS b (atS q d k) d s = lfS b q d (k + s) := by
  have ha := at_in h0 h1 hd hi hi2
  rw [lf_at hd ha.1 ha.2.1, lf_at hd h0 h1, ha.2.2, show c0S q d + k + s = c0S q d + (k + s) by omega]
  have e : atS (atS q d k) d s = atS q d (k + s) := by
    rcases hd with rfl | rfl
    · simp only [at_0]; omega
    · simp only [at_1]; omega
  rw [e]
def wnF (I : Nat → Int → Int) (c q d : Int) (i : Nat) : Int → Int := fun l => if 1 ≤ l ∧ l ≤ 8 then nwF (I 118) c q d l i else I 123 l
abbrev wyK (I : Nat → Int → Int) (c : Int) (g : Int → Int) : Nat → Int → Int := xset (xset I 122 (wrS (I 122) c 0)) 123 g
/-- the heap behind whyNot -/
def wyH (I : Nat → Int → Int) (c q d : Int) : Nat → Int → Int := if 9 < c0S q d + lnS c then xset I 122 (wrS (I 122) c 0) else wyK I c (wnF I c q d (lnS c).toNat)
def oQ (b : Int → Int) (c q d : Int) (i : Nat) : Prop := ∃ j : Int, 0 ≤ j ∧ j < i ∧ lfS b q d j ≠ 0 ∧ lfS b q d j ≠ wlS c j
def aQ (b : Int → Int) (q d : Int) (i : Nat) : Prop := ∀ j : Int, 0 ≤ j → j < i → anS b (atS q d j) = 0
def lQ (b : Int → Int) (W : Int → Prop) (c q d : Int) (i : Nat) : Prop := ∃ j : Int, 0 ≤ j ∧ j < i ∧ lfS b q d j = 0 ∧ ¬ alP b W (atS q d j) d (wlS c j)
set_option maxRecDepth 20000 in
set_option maxHeartbeats 4000000 in
theorem cM_whyNot (I : Nat → Int → Int) (c q d : Int) (hr : plR c q d) (hb : bdR (I 118)) (hw : wdM I) : XR mM_whyNot [.inr 117, .inl c, .inl q, .inl d] (hN I) (some (.inl (rf7 (I 118) (inM I) c q d 0))) (hN (wyH I c q d)) := by
  refine XRa.of (by decide) (Nat.le_of_ble_eq_true rfl) ?_
  obtain ⟨r1, r2, r3, r4, hd⟩ := id hr
  have hl := lnS_le c
  have hc0 := c0_R (d := d) r3 r4
  have eL : ∀ (g : Int → Int) (i : Int), 0 ≤ i → i < lnS c → wyK I c g 122 i = wlS c i := fun g i a b => by
    show (if 0 ≤ i ∧ i < lnS c then wlS c i else I 122 i) = wlS c i
    rw [if_pos ⟨a, b⟩]
  have e118 : ∀ (g : Int → Int), wyK I c g 118 = I 118 := fun g => rfl
  have e123 : ∀ (g : Int → Int), wyK I c g 123 = g := fun g => xset_at
  have cA : ∀ (g : Int → Int) (a : Int), 0 ≤ a → a ≤ 80 → XR mM_isAnchor [.inr 117, .inl a] (hN (wyK I c g)) (some (.inl (anS (I 118) a))) (hN (wyK I c g)) := fun g a h0 h1 => cM_isAnchor (wyK I c g) hb a h0 h1
  have cC : ∀ (g : Int → Int) (a : Int), 0 ≤ a → a ≤ 80 → XR mM_crossSet [.inr 117, .inl a, .inl d] (hN (wyK I c g)) (some (.inl (csF (alP (I 118) (inM I) a d) 8))) (hN (wyK I c g)) := fun g a h0 h1 => cM_crossSet (wyK I c g) hb hw a d h0 h1 hd
  have cN : ∀ (g : Int → Int) (a k : Int), 0 ≤ a → a ≤ 80 → XR mM_hasTile [.inr 117, .inl (bsS a d k)] (hN (wyK I c g)) (some (.inl (if lfS (I 118) a d k = 0 then 0 else 1))) (hN (wyK I c g)) := fun g a k h0 h1 => cM_near (wyK I c g) hb a d k h0 h1 hd
  have main : ∀ (st : Int), (∀ k, q + st * k = atS q d k) → XE mM_whyNot (some (.inl (rf7 (I 118) (inM I) c q d 0))) (hN (wyH I c q d)) 39 [(5, .inl st), (4, .inl (lnS c)), (3, .inl d), (2, .inl q), (1, .inl c), (0, .inr 117)] [.inl 9, .inl (c0S q d + lnS c)] (hN (xset I 122 (wrS (I 122) c 0))) := by
    intro st est
    unfold rf7
    have eH : c0S q d + lnS c ≤ 9 → wyH I c q d = wyK I c (wnF I c q d (lnS c).toNat) := fun h9 => by unfold wyH; rw [if_neg (by omega)]
    -- the end, the flags being known
    have fin : c0S q d + lnS c ≤ 9 → ∀ (o a al : Int), (o = 0 ∨ o = 1) → (a = 0 ∨ a = 1) → (al = 0 ∨ al = 1) → (o = 1 ↔ r3P (I 118) c q d) → (a = 0 ↔ r6P (I 118) c q d) → (al = 0 ↔ r7P (I 118) (inM I) c q d) → XE mM_whyNot (some (.inl (sel (r3P (I 118) c q d) 3 (sel (r4P (I 118) c q d) 4 (sel (r5P (I 118) c q d) 5 (sel (r6P (I 118) c q d) 6 (sel (r7P (I 118) (inM I) c q d) 7 0))))))) (hN (wyK I c (wnF I c q d (lnS c).toNat))) 226 [(9, .inl (neF (I 118) q d (lnS c).toNat)), (8, .inl al), (7, .inl a), (6, .inl o), (5, .inl st), (4, .inl (lnS c)), (3, .inl d), (2, .inl q), (1, .inl c), (0, .inr 117)] [.inl (-1), .inl d, .inl q, .inr 117] (hN (wyK I c (wnF I c q d (lnS c).toNat))) := by
      intro h9 o a al ho ha hal eo ea eal
      have hneR := neF_R (I 118) q d (lnS c).toNat
      have hne0 := neF_0 (I 118) q d (lnS c).toNat
      have e4 : r4P (I 118) c q d ↔ neF (I 118) q d (lnS c).toNat = 0 := by
        rw [hne0]
        unfold r4P
        constructor
        · intro h i a b; exact h i a (by omega)
        · intro h i a b; exact h i a (by omega)
      have J : ∀ (u : Int) (L : XL), (u = 0 ∨ u = 1) → (u = 1 ↔ r5P (I 118) c q d) → xsub L [(10, .inl u), (9, .inl (neF (I 118) q d (lnS c).toNat)), (8, .inl al), (7, .inl a), (6, .inl o)] → XE mM_whyNot (some (.inl (sel (r3P (I 118) c q d) 3 (sel (r4P (I 118) c q d) 4 (sel (r5P (I 118) c q d) 5 (sel (r6P (I 118) c q d) 6 (sel (r7P (I 118) (inM I) c q d) 7 0))))))) (hN (wyK I c (wnF I c q d (lnS c).toNat))) 265 L [.inl o] (hN (wyK I c (wnF I c q d (lnS c).toNat))) := by
        intro u L hu eu hL
        refine x_loc hL ?_
        refine x_eq rfl (by omega) (by omega) (fun hz => ?_) (fun hz => ?_)
        · rw [sel_neg (show ¬ r3P (I 118) c q d from fun w => by have := eo.mpr w; omega)]
          repeat refine x_step rfl ?_
          refine x_eq rfl (by omega) (by omega) (fun hz => ?_) (fun hz => ?_)
          · rw [sel_pos (e4.mpr hz)]
            repeat refine x_step rfl ?_
            exact x_iret rfl rfl rfl rfl
          · rw [sel_neg (fun w => hz (e4.mp w))]
            repeat refine x_step rfl ?_
            refine x_eq rfl (by omega) (by omega) (fun hz => ?_) (fun hz => ?_)
            · rw [sel_neg (show ¬ r5P (I 118) c q d from fun w => by have := eu.mpr w; omega)]
              repeat refine x_step rfl ?_
              refine x_eq rfl (by omega) (by omega) (fun hz => ?_) (fun hz => ?_)
              · rw [sel_pos (ea.mp hz)]
                repeat refine x_step rfl ?_
                exact x_iret rfl rfl rfl rfl
              · rw [sel_neg (fun w => hz (ea.mpr w))]
                repeat refine x_step rfl ?_
                refine x_eq rfl (by omega) (by omega) (fun hz => ?_) (fun hz => ?_)
                · rw [sel_pos (eal.mp hz)]
                  repeat refine x_step rfl ?_
                  exact x_iret rfl rfl rfl rfl
                · rw [sel_neg (fun w => hz (eal.mpr w))]
                  repeat refine x_step rfl ?_
                  exact x_iret rfl rfl rfl rfl
            · rw [sel_pos (eu.mp (by omega))]
              repeat refine x_step rfl ?_
              exact x_iret rfl rfl rfl rfl
        · rw [sel_pos (eo.mp (by omega))]
          repeat refine x_step rfl ?_
          exact x_iret rfl rfl rfl rfl
      refine x_call rfl (cM_beside _ q d (-1) r3 r4 hd (by omega)) ?_
      refine x_call rfl (cN _ q (-1) r3 r4) ?_
      by_cases h5 : lfS (I 118) q d (-1) = 0
      · rw [if_pos h5]
        refine x_eq rfl (by omega) (by omega) (fun hz => ?_) (fun hz => absurd rfl hz)
        repeat refine x_step rfl ?_
        rw [est (lnS c - 1)]
        have hat := at_in (k := lnS c - 1) r3 r4 hd (by omega) (by omega)
        refine x_call rfl (cM_beside _ (atS q d (lnS c - 1)) d 1 hat.1 hat.2.1 hd (by omega)) ?_
        refine x_call rfl (cN _ (atS q d (lnS c - 1)) 1 hat.1 hat.2.1) ?_
        rw [lf_shift hd r3 r4 (by omega) (by omega), show lnS c - 1 + 1 = lnS c by omega]
        by_cases h6 : lfS (I 118) q d (lnS c) = 0
        · rw [if_pos h6]
          refine x_eq rfl (by omega) (by omega) (fun hz => ?_) (fun hz => absurd rfl hz)
          repeat refine x_step rfl ?_
          exact J 0 _ (Or.inl rfl) ⟨fun w => by omega, fun w => w.elim (fun u => absurd h5 u) (fun u => absurd h6 u)⟩ (by exact ⟨rfl, rfl, rfl, rfl, rfl, trivial⟩)
        · rw [if_neg h6]
          refine x_eq rfl (by omega) (by omega) (fun hz => absurd hz (by omega)) (fun hz => ?_)
          repeat refine x_step rfl ?_
          exact J 1 _ (Or.inr rfl) ⟨fun w => Or.inr h6, fun w => rfl⟩ (by exact ⟨rfl, rfl, rfl, rfl, rfl, trivial⟩)
      · rw [if_neg h5]
        refine x_eq rfl (by omega) (by omega) (fun hz => absurd hz (by omega)) (fun hz => ?_)
        repeat refine x_step rfl ?_
        exact J 1 _ (Or.inr rfl) ⟨fun w => Or.inl h5, fun w => rfl⟩ (by exact ⟨rfl, rfl, rfl, rfl, rfl, trivial⟩)
    have loop : c0S q d + lnS c ≤ 9 → ∀ (n : Nat) (i : Nat) (o a al : Int), i + n = (lnS c).toNat → (o = 0 ∨ o = 1) → (a = 0 ∨ a = 1) → (al = 0 ∨ al = 1) → (o = 1 ↔ oQ (I 118) c q d i) → (a = 0 ↔ aQ (I 118) q d i) → (al = 0 ↔ lQ (I 118) (inM I) c q d i) → XE mM_whyNot (some (.inl (sel (r3P (I 118) c q d) 3 (sel (r4P (I 118) c q d) 4 (sel (r5P (I 118) c q d) 5 (sel (r6P (I 118) c q d) 6 (sel (r7P (I 118) (inM I) c q d) 7 0))))))) (hN (wyK I c (wnF I c q d (lnS c).toNat))) 87 [(10, .inl i), (9, .inl (neF (I 118) q d i)), (8, .inl al), (7, .inl a), (6, .inl o), (5, .inl st), (4, .inl (lnS c)), (3, .inl d), (2, .inl q), (1, .inl c), (0, .inr 117)] [.inl (lnS c), .inl i] (hN (wyK I c (wnF I c q d i))) := by
      intro h9 n
      induction n with
      | zero =>
        intro i o a al hi ho ha hal eo ea eal
        have ei : i = (lnS c).toNat := by omega
        subst ei
        refine x_le rfl (by omega) (by omega) (fun hc => ?_) (fun hc => absurd (by omega) hc)
        repeat refine x_step rfl ?_
        refine x_loc (by exact ⟨rfl, rfl, rfl, rfl, rfl, rfl, rfl, rfl, rfl, rfl, trivial⟩) (fin h9 o a al ho ha hal ?_ ?_ ?_)
        · rw [eo]
          clear eo ea eal
          unfold r3P oQ
          constructor
          · rintro ⟨j, a1, a2, a3⟩; exact ⟨j, a1, by omega, a3⟩
          · rintro ⟨j, a1, a2, a3⟩; exact ⟨j, a1, by omega, a3⟩
        · rw [ea]
          clear eo ea eal
          unfold r6P aQ
          constructor
          · intro h j a1 a2; exact h j a1 (by omega)
          · intro h j a1 a2; exact h j a1 (by omega)
        · rw [eal]
          clear eo ea eal
          unfold r7P lQ
          constructor
          · rintro ⟨j, a1, a2, a3⟩; exact ⟨j, a1, by omega, a3⟩
          · rintro ⟨j, a1, a2, a3⟩; exact ⟨j, a1, by omega, a3⟩
      | succ n ih =>
        intro i o a al hi ho ha hal eo ea eal
        have hat := at_in (k := i) r3 r4 hd (by omega) (by omega)
        have hlf := lf_in (b := I 118) (k := i) hd r3 r4 (by omega) (by omega)
        have hlr := lfS_R hb q d i
        have hwl := wlS_R r2 (show (0 : Int) ≤ i by omega) (show (i : Int) < lnS c by omega)
        have hneR := neF_R (I 118) q d i
        have eN : neF (I 118) q d (i + 1) = neF (I 118) q d i + (if lfS (I 118) q d i = 0 then 1 else 0) := rfl
        have hl0 : ∀ j : Int, (0 ≤ j ∧ j < ((i + 1 : Nat) : Int)) ↔ (0 ≤ j ∧ j < (i : Int)) ∨ j = i := fun j => by omega
        have next := fun (o2 a2 al2 ne2 : Int) (g2 : Int → Int) (hg : g2 = wnF I c q d (i + 1)) (hne2 : ne2 = neF (I 118) q d (i + 1)) (ho2 : o2 = 0 ∨ o2 = 1) (ha2 : a2 = 0 ∨ a2 = 1) (hal2 : al2 = 0 ∨ al2 = 1) (eo2 : o2 = 1 ↔ (o = 1 ∨ (lfS (I 118) q d i ≠ 0 ∧ lfS (I 118) q d i ≠ wlS c i))) (ea2 : a2 = 0 ↔ (a = 0 ∧ anS (I 118) (atS q d i) = 0)) (eal2 : al2 = 0 ↔ (al = 0 ∨ (lfS (I 118) q d i = 0 ∧ ¬ alP (I 118) (inM I) (atS q d i) d (wlS c i)))) => (show XE mM_whyNot (some (.inl (sel (r3P (I 118) c q d) 3 (sel (r4P (I 118) c q d) 4 (sel (r5P (I 118) c q d) 5 (sel (r6P (I 118) c q d) 6 (sel (r7P (I 118) (inM I) c q d) 7 0))))))) (hN (wyK I c (wnF I c q d (lnS c).toNat))) 87 [(10, .inl ((i : Int) + 1)), (9, .inl ne2), (8, .inl al2), (7, .inl a2), (6, .inl o2), (5, .inl st), (4, .inl (lnS c)), (3, .inl d), (2, .inl q), (1, .inl c), (0, .inr 117)] [.inl (lnS c), .inl ((i : Int) + 1)] (hN (wyK I c g2)) from by
          subst hg
          subst hne2
          refine ih (i + 1) o2 a2 al2 (by omega) ho2 ha2 hal2 ?_ ?_ ?_
          · rw [eo2, eo]
            clear eo ea eal eo2 ea2 eal2
            unfold oQ
            constructor
            · rintro (⟨j, a1, a2, a3⟩ | h)
              · exact ⟨j, a1, by omega, a3⟩
              · exact ⟨i, by omega, by omega, h⟩
            · rintro ⟨j, a1, a2, a3⟩
              by_cases e : j = i
              · rw [e] at a3; exact Or.inr a3
              · exact Or.inl ⟨j, a1, by omega, a3⟩
          · rw [ea2, ea]
            clear eo ea eal eo2 ea2 eal2
            unfold aQ
            constructor
            · rintro ⟨h1, h2⟩ j a1 a2
              by_cases e : j = i
              · rw [e]; exact h2
              · exact h1 j a1 (by omega)
            · intro h
              exact ⟨fun j a1 a2 => h j a1 (by omega), h i (by omega) (by omega)⟩
          · rw [eal2, eal]
            clear eo ea eal eo2 ea2 eal2
            unfold lQ
            constructor
            · rintro (⟨j, a1, a2, a3⟩ | h)
              · exact ⟨j, a1, by omega, a3⟩
              · exact ⟨i, by omega, by omega, h⟩
            · rintro ⟨j, a1, a2, a3⟩
              by_cases e : j = i
              · rw [e] at a3; exact Or.inr a3
              · exact Or.inl ⟨j, a1, by omega, a3⟩)
        refine x_le rfl (by omega) (by omega) (fun hc => absurd hc (by omega)) (fun hc => ?_)
        repeat refine x_step rfl ?_
        rw [est i]
        refine x_ald (len := 132) rfl (by omega) (by omega) ?_
        rw [e118, hlf]
        refine x_le rfl (by omega) (by omega) (fun hz => ?_) (fun hz => ?_)
        · -- a new tile
          have hz0 : lfS (I 118) q d i = 0 := by omega
          have han := anS01 (I 118) (atS q d i)
          have hgn : xup (wyK I c (wnF I c q d i)) 123 (wlS c i) (wyK I c (wnF I c q d i) 123 (wlS c i) + 1) = wyK I c (wnF I c q d (i + 1)) := by
            rw [e123, xup_xset]
            refine xset_congr (fun l => ?_)
            unfold wnF
            have eF : nwF (I 118) c q d l (i + 1) = nwF (I 118) c q d l i + (if wlS c i = l ∧ lfS (I 118) q d i = 0 then 1 else 0) := rfl
            by_cases hl2 : l = wlS c i
            · rw [if_pos hl2, if_pos (by omega), if_pos (by omega), eF, if_pos ⟨hl2.symm, hz0⟩, hl2]
            · rw [if_neg hl2]
              by_cases hl3 : 1 ≤ l ∧ l ≤ 8
              · rw [if_pos hl3, if_pos hl3, eF, if_neg (fun w => hl2 w.1.symm)]; omega
              · rw [if_neg hl3, if_neg hl3]
          have J2 : ∀ (a2 : Int) (L : XL), (a2 = 0 ∨ a2 = 1) → (a2 = 0 ↔ (a = 0 ∧ anS (I 118) (atS q d i) = 0)) → xsub L [(7, .inl a2), (11, .inl (atS q d i)), (10, .inl i), (9, .inl (neF (I 118) q d i + 1)), (8, .inl al), (6, .inl o), (5, .inl st), (4, .inl (lnS c)), (3, .inl d), (2, .inl q), (1, .inl c), (0, .inr 117)] → XE mM_whyNot (some (.inl (sel (r3P (I 118) c q d) 3 (sel (r4P (I 118) c q d) 4 (sel (r5P (I 118) c q d) 5 (sel (r6P (I 118) c q d) 6 (sel (r7P (I 118) (inM I) c q d) 7 0))))))) (hN (wyK I c (wnF I c q d (lnS c).toNat))) 183 L [.inl al] (hN (wyK I c (wnF I c q d (i + 1)))) := by
            intro a2 L ha2 ea2 hL
            refine x_loc hL ?_
            refine x_eq rfl (by omega) (by omega) (fun hq => ?_) (fun hq => ?_)
            · repeat refine x_step rfl ?_
              exact x_loc (by exact ⟨rfl, rfl, rfl, rfl, rfl, rfl, rfl, rfl, rfl, rfl, rfl, trivial⟩) (next o a2 0 (neF (I 118) q d i + 1) _ rfl (by rw [eN, if_pos hz0]) ho ha2 (Or.inl rfl) ⟨fun w => Or.inl w, fun w => w.elim id (fun u => absurd hz0 u.1)⟩ ea2 ⟨fun _ => Or.inl hq, fun _ => rfl⟩)
            · repeat refine x_step rfl ?_
              refine x_call rfl (cC _ (atS q d i) hat.1 hat.2.1) ?_
              repeat refine x_step rfl ?_
              refine x_ald (len := 6) rfl (by omega) (by omega) ?_
              rw [eL _ i (by omega) (by omega)]
              have hbit := csF_bit (alP (I 118) (inM I) (atS q d i) d) (wlS c i) hwl.1 hwl.2
              repeat refine x_step rfl ?_
              refine x_ishr rfl hbit.2.1 hbit.2.2 (by omega) (by omega) ?_
              repeat refine x_step rfl ?_
              refine x_iand1 rfl ?_
              repeat refine x_step rfl ?_
              refine x_eq rfl (by omega) (by omega) (fun hq2 => ?_) (fun hq2 => ?_)
              · repeat refine x_step rfl ?_
                exact x_loc (by exact ⟨rfl, rfl, rfl, rfl, rfl, rfl, rfl, rfl, rfl, rfl, rfl, trivial⟩) (next o a2 1 (neF (I 118) q d i + 1) _ rfl (by rw [eN, if_pos hz0]) ho ha2 (Or.inr rfl) ⟨fun w => Or.inl w, fun w => w.elim id (fun u => absurd hz0 u.1)⟩ ea2 ⟨fun w => absurd w (by omega), fun w => w.elim (fun u => absurd u hq) (fun u => absurd (hbit.1.mp hq2) u.2)⟩)
              · repeat refine x_step rfl ?_
                exact x_loc (by exact ⟨rfl, rfl, rfl, rfl, rfl, rfl, rfl, rfl, rfl, rfl, rfl, trivial⟩) (next o a2 0 (neF (I 118) q d i + 1) _ rfl (by rw [eN, if_pos hz0]) ho ha2 (Or.inl rfl) ⟨fun w => Or.inl w, fun w => w.elim id (fun u => absurd hz0 u.1)⟩ ea2 ⟨fun _ => Or.inr ⟨hz0, fun w => hq2 (hbit.1.mpr w)⟩, fun _ => rfl⟩)
          repeat refine x_step rfl ?_
          refine x_ald (len := 6) rfl (by omega) (by omega) ?_
          rw [eL _ i (by omega) (by omega)]
          repeat refine x_step rfl ?_
          refine x_ald (len := 8) rfl (by omega) (by omega) ?_
          repeat refine x_step rfl ?_
          refine x_ast (len := 8) rfl (by omega) (by omega) ?_
          rw [hgn]
          repeat refine x_step rfl ?_
          refine x_eq rfl (by omega) (by omega) (fun hq => ?_) (fun hq => ?_)
          · repeat refine x_step rfl ?_
            refine x_call rfl (cA _ (atS q d i) hat.1 hat.2.1) ?_
            refine x_eq rfl (by omega) (by omega) (fun hq2 => ?_) (fun hq2 => ?_)
            · repeat refine x_step rfl ?_
              exact J2 0 _ (Or.inl rfl) ⟨fun _ => ⟨hq, hq2⟩, fun _ => rfl⟩ (by exact ⟨rfl, rfl, rfl, rfl, rfl, rfl, rfl, rfl, rfl, rfl, rfl, rfl, trivial⟩)
            · repeat refine x_step rfl ?_
              exact J2 1 _ (Or.inr rfl) ⟨fun w => absurd w (by omega), fun w => absurd w.2 hq2⟩ (by exact ⟨rfl, rfl, rfl, rfl, rfl, rfl, rfl, rfl, rfl, rfl, rfl, rfl, trivial⟩)
          · repeat refine x_step rfl ?_
            exact J2 1 _ (Or.inr rfl) ⟨fun w => absurd w (by omega), fun w => absurd w.1 hq⟩ (by exact ⟨rfl, rfl, rfl, rfl, rfl, rfl, rfl, rfl, rfl, rfl, rfl, rfl, trivial⟩)
        · -- a tile is there
          have hz0 : lfS (I 118) q d i ≠ 0 := by omega
          have ean : anS (I 118) (atS q d i) = 0 := by
            unfold anS
            rw [if_neg]
            intro w
            rw [hlf] at w
            exact hz0 w.1
          have hgn : wnF I c q d i = wnF I c q d (i + 1) := by
            funext l
            unfold wnF
            have eF : nwF (I 118) c q d l (i + 1) = nwF (I 118) c q d l i + (if wlS c i = l ∧ lfS (I 118) q d i = 0 then 1 else 0) := rfl
            rw [eF, if_neg (show ¬ (wlS c i = l ∧ lfS (I 118) q d i = 0) from fun w => hz0 w.2)]
            simp
          have hne2 : neF (I 118) q d i = neF (I 118) q d (i + 1) := by rw [eN, if_neg hz0]; omega
          repeat refine x_step rfl ?_
          refine x_eq rfl (by omega) (by omega) (fun hq => ?_) (fun hq => ?_)
          · repeat refine x_step rfl ?_
            refine x_ald (len := 132) rfl (by omega) (by omega) ?_
            rw [e118, hlf]
            repeat refine x_step rfl ?_
            refine x_ald (len := 6) rfl (by omega) (by omega) ?_
            rw [eL _ i (by omega) (by omega)]
            refine x_eq rfl (by omega) (by omega) (fun hq2 => ?_) (fun hq2 => ?_)
            · repeat refine x_step rfl ?_
              exact x_loc (by exact ⟨rfl, rfl, rfl, rfl, rfl, rfl, rfl, rfl, rfl, rfl, rfl, trivial⟩) (next 0 a al _ _ hgn hne2 (Or.inl rfl) ha hal ⟨fun w => absurd w (by omega), fun w => w.elim (fun u => absurd u (by omega)) (fun u => absurd hq2 u.2)⟩ ⟨fun w => ⟨w, ean⟩, fun w => w.1⟩ ⟨fun w => Or.inl w, fun w => w.elim id (fun u => absurd u.1 hz0)⟩)
            · repeat refine x_step rfl ?_
              exact x_loc (by exact ⟨rfl, rfl, rfl, rfl, rfl, rfl, rfl, rfl, rfl, rfl, rfl, trivial⟩) (next 1 a al _ _ hgn hne2 (Or.inr rfl) ha hal ⟨fun _ => Or.inr ⟨hz0, hq2⟩, fun _ => rfl⟩ ⟨fun w => ⟨w, ean⟩, fun w => w.1⟩ ⟨fun w => Or.inl w, fun w => w.elim id (fun u => absurd u.1 hz0)⟩)
          · repeat refine x_step rfl ?_
            exact x_loc (by exact ⟨rfl, rfl, rfl, rfl, rfl, rfl, rfl, rfl, rfl, rfl, rfl, trivial⟩) (next 1 a al _ _ hgn hne2 (Or.inr rfl) ha hal ⟨fun _ => Or.inl (by omega), fun _ => rfl⟩ ⟨fun w => ⟨w, ean⟩, fun w => w.1⟩ ⟨fun w => Or.inl w, fun w => w.elim id (fun u => absurd u.1 hz0)⟩)
    -- the row of wanted letters is emptied
    have zero : c0S q d + lnS c ≤ 9 → ∀ (n : Nat) (k : Int), k + n = 9 → 1 ≤ k → XE mM_whyNot (some (.inl (sel (r3P (I 118) c q d) 3 (sel (r4P (I 118) c q d) 4 (sel (r5P (I 118) c q d) 5 (sel (r6P (I 118) c q d) 6 (sel (r7P (I 118) (inM I) c q d) 7 0))))))) (hN (wyK I c (wnF I c q d (lnS c).toNat))) 51 [(6, .inl k), (5, .inl st), (4, .inl (lnS c)), (3, .inl d), (2, .inl q), (1, .inl c), (0, .inr 117)] [.inl 8, .inl k] (hN (wyK I c (fun l => if 1 ≤ l ∧ l < k then 0 else I 123 l))) := by
      intro h9 n
      induction n with
      | zero =>
        intro k hk hk2
        refine x_lt rfl (by omega) (by omega) (fun hc => ?_) (fun hc => absurd (by omega) hc)
        repeat refine x_step rfl ?_
        have e : (fun l : Int => if 1 ≤ l ∧ l < k then (0 : Int) else I 123 l) = wnF I c q d 0 := by
          funext l
          unfold wnF
          by_cases hl3 : 1 ≤ l ∧ l ≤ 8
          · rw [if_pos (by omega), if_pos hl3]; rfl
          · rw [if_neg (by omega), if_neg hl3]
        rw [e]
        exact x_loc (by exact ⟨rfl, rfl, rfl, rfl, rfl, rfl, rfl, rfl, rfl, rfl, rfl, trivial⟩) (loop h9 (lnS c).toNat 0 0 0 1 (by omega) (Or.inl rfl) (Or.inl rfl) (Or.inr rfl) ⟨fun w => absurd w (by omega), fun ⟨j, a1, a2, _⟩ => by omega⟩ ⟨fun _ j a1 a2 => by omega, fun _ => rfl⟩ ⟨fun w => absurd w (by omega), fun ⟨j, a1, a2, _⟩ => by omega⟩)
      | succ n ih =>
        intro k hk hk2
        refine x_lt rfl (by omega) (by omega) (fun hc => absurd hc (by omega)) (fun hc => ?_)
        repeat refine x_step rfl ?_
        refine x_ast (len := 8) rfl (by omega) (by omega) ?_
        have e : xup (wyK I c (fun l => if 1 ≤ l ∧ l < k then 0 else I 123 l)) 123 k 0 = wyK I c (fun l => if 1 ≤ l ∧ l < k + 1 then 0 else I 123 l) := by
          rw [xup_xset]
          refine xset_congr (fun l => ?_)
          by_cases hl : l = k
          · rw [if_pos hl, if_pos (by omega)]
          · rw [if_neg hl]
            by_cases hl2 : 1 ≤ l ∧ l < k
            · rw [if_pos hl2, if_pos (by omega)]
            · rw [if_neg hl2, if_neg (by omega)]
        rw [e]
        repeat refine x_step rfl ?_
        exact x_loc (by exact ⟨rfl, rfl, rfl, rfl, rfl, rfl, rfl, trivial⟩) (ih (k + 1) (by omega) (by omega))
    refine x_le rfl (by omega) (by omega) (fun h9 => ?_) (fun h9 => ?_)
    · rw [sel_neg (by omega), eH h9]
      have e : xset I 122 (wrS (I 122) c 0) = wyK I c (fun l => if 1 ≤ l ∧ l < 1 then 0 else I 123 l) := by
        have : (fun l : Int => if 1 ≤ l ∧ l < 1 then (0 : Int) else I 123 l) = xset I 122 (wrS (I 122) c 0) 123 := by
          funext l
          rw [if_neg (by omega), xset_ne (by omega)]
        rw [this]
        exact xset_self.symm
      rw [e]
      repeat refine x_step rfl ?_
      exact x_loc (by exact ⟨rfl, rfl, rfl, rfl, rfl, rfl, rfl, trivial⟩) (zero h9 8 1 (by omega) (by omega))
    · rw [sel_pos (by omega)]
      have e : wyH I c q d = xset I 122 (wrS (I 122) c 0) := by unfold wyH; rw [if_pos (by omega)]
      rw [e]
      repeat refine x_step rfl ?_
      exact x_iret rfl rfl rfl rfl
  repeat refine x_step rfl ?_
  refine x_call rfl (cM_spell I c r1 r2) ?_
  repeat refine x_step rfl ?_
  rcases hd with rfl | rfl
  · refine x_eq rfl (by omega) (by omega) (fun hz => ?_) (fun hz => absurd rfl hz)
    repeat refine x_step rfl ?_
    refine x_eq rfl (by omega) (by omega) (fun hz => ?_) (fun hz => absurd rfl hz)
    repeat refine x_step rfl ?_
    refine x_rem rfl (by omega) (by omega) (by omega) (by omega) ?_
    repeat refine x_step rfl ?_
    have := main 1 (fun k => by rw [at_0]; omega)
    rw [c0_0] at this
    exact x_loc (by exact ⟨rfl, rfl, rfl, rfl, rfl, rfl, trivial⟩) this
  · refine x_eq rfl (by omega) (by omega) (fun hz => absurd hz (by omega)) (fun hz => ?_)
    repeat refine x_step rfl ?_
    refine x_eq rfl (by omega) (by omega) (fun hz => absurd hz (by omega)) (fun hz => ?_)
    repeat refine x_step rfl ?_
    refine x_div rfl (by omega) (by omega) (by omega) (by omega) ?_
    repeat refine x_step rfl ?_
    have := main 9 (fun k => by rw [at_1])
    rw [c0_1] at this
    exact x_loc (by exact ⟨rfl, rfl, rfl, rfl, rfl, rfl, trivial⟩) this
