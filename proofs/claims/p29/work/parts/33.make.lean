/-! a play is made: the class -/
def plB (b : Int → Int) (c q d : Int) : Nat → Int → Int
  | 0 => b
  | n + 1 => if lfS b q d n = 0 then upF (plB b c q d n) (atS q d n) (wlS c n) else plB b c q d n
def plK (b rk : Int → Int) (c q d : Int) (n : Nat) : Int → Int := fun l => if 1 ≤ l ∧ l ≤ 8 then rk l - nwF b c q d l n else rk l
theorem plB_0 {b : Int → Int} {c q d : Int} {n : Nat} (h : lfS b q d n = 0) : plB b c q d (n + 1) = upF (plB b c q d n) (atS q d n) (wlS c n) := by
  rw [plB, if_pos h]
theorem plB_1 {b : Int → Int} {c q d : Int} {n : Nat} (h : lfS b q d n ≠ 0) : plB b c q d (n + 1) = plB b c q d n := by
  rw [plB, if_neg h]
theorem atS_inj {q d i k : Int} (h : atS q d i = atS q d k) : i = k := by
  unfold atS at h
  split at h <;> omega
theorem plB_at {b : Int → Int} {c q d : Int} : ∀ (n : Nat) (k : Int), (n : Int) ≤ k → plB b c q d n (atS q d k) = b (atS q d k) := by
  intro n
  induction n with
  | zero => intro k _; rfl
  | succ n ih =>
    intro k h
    by_cases hz : lfS b q d n = 0
    · rw [plB_0 hz]
      unfold upF
      rw [if_neg (fun w => by have := atS_inj w; omega)]
      exact ih k (by omega)
    · rw [plB_1 hz]
      exact ih k (by omega)
theorem nwF_s (b : Int → Int) (c q d l : Int) (n : Nat) : nwF b c q d l (n + 1) = nwF b c q d l n + (if wlS c n = l ∧ lfS b q d n = 0 then 1 else 0) := rfl
theorem plK_0 {b rk : Int → Int} {c q d : Int} {n : Nat} (h : lfS b q d n = 0) (hw : 1 ≤ wlS c n ∧ wlS c n ≤ 8) : upF (plK b rk c q d n) (wlS c n) (plK b rk c q d n (wlS c n) + -1) = plK b rk c q d (n + 1) := by
  funext l
  unfold upF plK
  by_cases e : l = wlS c n
  · rw [if_pos e, if_pos hw, if_pos (by omega), nwF_s, if_pos ⟨e.symm, h⟩, e]
    omega
  · rw [if_neg e, nwF_s, if_neg (show ¬ (wlS c n = l ∧ lfS b q d n = 0) from fun w => e w.1.symm), Int.add_zero]
theorem plK_1 {b rk : Int → Int} {c q d : Int} {n : Nat} (h : lfS b q d n ≠ 0) : plK b rk c q d (n + 1) = plK b rk c q d n := by
  funext l
  unfold plK
  rw [nwF_s, if_neg (show ¬ (wlS c n = l ∧ lfS b q d n = 0) from fun w => h w.2), Int.add_zero]
theorem plK_z {b rk : Int → Int} {c q d : Int} : plK b rk c q d 0 = rk := by
  funext l
  unfold plK
  have : nwF b c q d l 0 = 0 := rfl
  rw [this, Int.sub_zero]
  split <;> rfl
def plH (I : Nat → Int → Int) (R : Nat) (c q d : Int) (n : Nat) : Nat → Int → Int := xset (xset I 8 (plB (I 8) c q d n)) R (plK (I 8) (I R) c q d n)
theorem plH_8 {I : Nat → Int → Int} {R : Nat} {c q d : Int} {n : Nat} (h : R ≠ 8) : plH I R c q d n 8 = plB (I 8) c q d n := by unfold plH; rw [xset_ne (Ne.symm h), xset_at]
theorem plH_R {I : Nat → Int → Int} {R : Nat} {c q d : Int} {n : Nat} : plH I R c q d n R = plK (I 8) (I R) c q d n := by unfold plH; rw [xset_at]
theorem plH_ne {I : Nat → Int → Int} {R : Nat} {c q d : Int} {n a : Nat} (h : a ≠ 8) (h2 : a ≠ R) : plH I R c q d n a = I a := by unfold plH; rw [xset_ne h2, xset_ne h]
theorem plH_0 {I : Nat → Int → Int} {R : Nat} {c q d : Int} : plH I R c q d 0 = I := by
  unfold plH
  rw [plK_z]
  show xset (xset I 8 (I 8)) R (I R) = I
  rw [xset_self, xset_self]
theorem plH_s0 {I : Nat → Int → Int} {R : Nat} {c q d : Int} {n : Nat} (hR : R ≠ 8) (h : lfS (I 8) q d n = 0) (hw : 1 ≤ wlS c n ∧ wlS c n ≤ 8) : xup (xup (plH I R c q d n) 8 (atS q d n) (wlS c n)) R (wlS c n) (plH I R c q d n R (wlS c n) + -1) = plH I R c q d (n + 1) := by
  funext a j
  by_cases h1 : a = R
  · subst h1
    rw [xup_at, xup_ne hR, plH_R, plH_R, ← plK_0 h hw]
    rfl
  · rw [xup_ne h1]
    by_cases h2 : a = 8
    · subst h2
      rw [xup_at, plH_8 hR, plH_8 hR, plB_0 h]
      rfl
    · rw [xup_ne h2, plH_ne h2 h1, plH_ne h2 h1]
theorem plH_s1 {I : Nat → Int → Int} {R : Nat} {c q d : Int} {n : Nat} (h : lfS (I 8) q d n ≠ 0) : plH I R c q d (n + 1) = plH I R c q d n := by
  unfold plH
  rw [plK_1 h, plB_1 h]
/-- the heap behind a play -/
def mpK (I : Nat → Int → Int) (R : Nat) (c q d : Int) : Nat → Int → Int :=
  xup (plH I R c q d (lnS c).toNat) 4 (8 + I 4 7) (I 4 (8 + I 4 7) + woS (I 8) c q d)
def mpF (I : Nat → Int → Int) (R : Nat) (c q d : Int) : Nat → Int → Int :=
  fiH (mpK I R c q d) R (fiT (6 - ttS (mpK I R c q d R)).toNat (mpK I R c q d 4 6, mpK I R c q d 14, mpK I R c q d R))
def mpH (I : Nat → Int → Int) (R : Nat) (c q d : Int) : Nat → Int → Int := xup (xup (mpF I R c q d) 4 10 (I 4 10 + 1)) 4 7 (1 - I 4 7)
theorem mpK_R {I : Nat → Int → Int} {R : Nat} {c q d : Int} (hR : R ≠ 4) : mpK I R c q d R = plK (I 8) (I R) c q d (lnS c).toNat := by
  unfold mpK
  rw [xup_ne hR, plH_R]
theorem mpF_4 {I : Nat → Int → Int} {R : Nat} {c q d f : Int} (hR : R = 10 ∨ R = 12) (hf : f ≠ 6) (hf2 : f ≠ 8 + I 4 7) : mpF I R c q d 4 f = I 4 f := by
  unfold mpF fiH
  rw [xset_ne (by omega), xset_ne (by omega), xup_at, if_neg hf]
  unfold mpK
  rw [xup_at, if_neg hf2, plH_ne (by omega) (by omega)]
theorem cG_makePlay (I : Nat → Int → Int) (c q d : Int) (hp : PL I 112 113 c q d) (hr : plR c q d) (hb : bdR (I 8)) (hw : wdR I) (ht : I 4 7 = 0 ∨ I 4 7 = 1) (hk : amR (I (rkA (I 4 7)))) (hst : 0 ≤ I 4 6 ∧ I 4 6 ≤ 65536 ∧ amR (I 14)) (h6 : ttS (I (rkA (I 4 7))) ≤ 6) : XR mG_makePlay [.inr 4, .inr 112] (hN I) (some (.inl (if rfS (I 8) (inC I) (I (rkA (I 4 7))) c q d = 0 then woS (I 8) c q d else -10 - rfS (I 8) (inC I) (I (rkA (I 4 7))) c q d))) (hN (if rfS (I 8) (inC I) (I (rkA (I 4 7))) c q d = 0 then mpH I (rkA (I 4 7)) c q d else I)) := by
  refine XRa.of (by decide) (Nat.le_of_ble_eq_true rfl) ?_
  obtain ⟨r1, r2, r3, r4, hd⟩ := id hr
  obtain ⟨p1, p2, p3, p4, p5⟩ := id hp
  have hl := lnS_le c
  have hc0 := c0_R (d := d) r3 r4
  have hP : plP 112 113 := Or.inl ⟨rfl, rfl⟩
  have hfR := rfS_R (I 8) (inC I) (I (rkA (I 4 7))) c q d
  repeat refine x_step rfl ?_
  refine x_call rfl (cG_refusal I 112 113 c q d hP hp hr hb hw ht hk) ?_
  repeat refine x_step rfl ?_
  refine x_eq rfl (by omega) (by omega) (fun hz => ?_) (fun hz => ?_)
  · rw [if_pos hz, if_pos hz]
    -- none of the reasons
    have h9 : c0S q d + lnS c ≤ 9 := by
      unfold rfS at hz
      by_cases hW : inC I c
      · rw [sel_neg (fun w => w hW)] at hz
        rcases rf7_c (I 8) (inC I) c q d with ⟨g1, g2, g3⟩ | ⟨g1, g2, g3⟩
        · rw [g3] at hz; omega
        · exact g1
      · rw [sel_pos hW] at hz; omega
    have h8 : ¬ r8P (I 8) (I (rkA (I 4 7))) c q d := by
      intro w
      unfold rfS at hz
      by_cases hW : inC I c
      · rw [sel_neg (fun w => w hW), sel_pos w] at hz
        rcases rf7_c (I 8) (inC I) c q d with ⟨g1, g2, g3⟩ | ⟨g1, g2, g3⟩
        · rw [g3] at hz; omega
        · rw [g3] at hz; omega
      · rw [sel_pos hW] at hz; omega
    have main : ∀ (T R : Nat), (T = 9 ∧ R = 10) ∨ (T = 11 ∧ R = 12) → R = rkA (I 4 7) → XE mG_makePlay (some (.inl (woS (I 8) c q d))) (hN (mpH I R c q d)) 29 [(3, .inl (woS (I 8) c q d)), (1, .inr 112), (0, .inr 4)] [.inr T] (hN I) := by
      intro T R hT hRe
      rw [← hRe] at hk h8 h6
      have hT2 := hT
      have hR8 : R ≠ 8 := by omega
      have hR4 : R ≠ 4 := by omega
      have hTs : tsP T R := by unfold tsP; omega
      -- the tiles are down
      have fin : ∀ (L : XL), xsub L [(4, .inr T), (3, .inl (woS (I 8) c q d)), (0, .inr 4)] → XE mG_makePlay (some (.inl (woS (I 8) c q d))) (hN (mpH I R c q d)) 129 L [.inr T, .inr 4] (hN (mpK I R c q d)) := by
        intro L hL
        refine x_loc hL ?_
        have eR := mpK_R (I := I) (c := c) (q := q) (d := d) hR4
        have hge : 0 ≤ ttS (mpK I R c q d R) ∧ ttS (mpK I R c q d R) ≤ 6 := by
          rw [eR]
          have hh : ∀ l : Int, 1 ≤ l → l ≤ 8 → 0 ≤ plK (I 8) (I R) c q d (lnS c).toNat l ∧ plK (I 8) (I R) c q d (lnS c).toNat l ≤ I R l := fun l a b => by
            have h3 := nwF_R (I 8) c q d l (lnS c).toNat
            have h4 : nwF (I 8) c q d l (lnS c).toNat ≤ I R l := by
              by_cases w : nwF (I 8) c q d l (lnS c).toNat ≤ I R l
              · exact w
              · exact absurd ⟨l, a, b, by unfold nwS; omega⟩ h8
            unfold plK
            rw [if_pos ⟨a, b⟩]
            omega
          have := hh 1 (by omega) (by omega); have := hh 2 (by omega) (by omega); have := hh 3 (by omega) (by omega); have := hh 4 (by omega) (by omega)
          have := hh 5 (by omega) (by omega); have := hh 6 (by omega) (by omega); have := hh 7 (by omega) (by omega); have := hh 8 (by omega) (by omega)
          unfold ttS at h6 ⊢
          omega
        have e14 : mpK I R c q d 14 = I 14 := by unfold mpK; rw [xup_ne (by omega), plH_ne (by omega) (by omega)]
        have e46 : mpK I R c q d 4 6 = I 4 6 := by unfold mpK; rw [xup_at, if_neg (by omega), plH_ne (by omega) (by omega)]
        have hs2 : tsR (mpK I R c q d 4 6, mpK I R c q d 14, mpK I R c q d R) := by
          rw [e14, e46]
          exact ⟨hst.1, hst.2.1, hst.2.2⟩
        have hf1 : mpF I R c q d 4 10 = I 4 10 := mpF_4 (by omega) (by omega) (by omega)
        have hf2 : mpF I R c q d 4 7 = I 4 7 := mpF_4 (by omega) (by omega) (by omega)
        rcases hT with ⟨rfl, rfl⟩ | ⟨rfl, rfl⟩
        all_goals
          refine x_callv rfl (cG_fill _ (by omega) _ _ _ hT2 hs2 hge.1 hge.2) ?_
          show XEa mG_makePlay 0 0 0 0 _ _ _ _ _ (hN (mpF I _ c q d))
          repeat refine x_step rfl ?_
          refine x_iret rfl rfl rfl ?_
          rw [hf1, xup_at, if_neg (by omega), hf2]
          rfl
      have loop : ∀ (n i : Nat), (i : Int) + n = lnS c → XE mG_makePlay (some (.inl (woS (I 8) c q d))) (hN (mpH I R c q d)) 40 [(5, .inl (i : Int)), (4, .inr T), (3, .inl (woS (I 8) c q d)), (1, .inr 112), (0, .inr 4)] [.inl (lnS c), .inl (i : Int)] (hN (plH I R c q d i)) := by
        intro n
        induction n with
        | zero =>
          intro i h1
          have ei : i = (lnS c).toNat := by omega
          have e47 : plH I R c q d i 4 = I 4 := plH_ne (by omega) (by omega)
          refine x_le rfl (by omega) (by omega) (fun hc => ?_) (fun hc => absurd (by omega) hc)
          repeat refine x_step rfl ?_
          rw [e47]
          refine x_eq rfl (by omega) (by omega) (fun hz => ?_) (fun hz => ?_)
          · repeat refine x_step rfl ?_
            rw [e47, show xup (plH I R c q d i) 4 8 (I 4 8 + woS (I 8) c q d) = mpK I R c q d by unfold mpK; rw [hz, ei]; rfl]
            refine fin _ ?_
            exact ⟨rfl, rfl, rfl, trivial⟩
          · have hz1 : I 4 7 = 1 := by omega
            repeat refine x_step rfl ?_
            rw [e47, show xup (plH I R c q d i) 4 9 (I 4 9 + woS (I 8) c q d) = mpK I R c q d by unfold mpK; rw [hz1, ei]; rfl]
            refine fin _ ?_
            exact ⟨rfl, rfl, rfl, trivial⟩
        | succ n ih =>
          intro i h1
          have ha := at_in (k := i) r3 r4 hd (by omega) (by omega)
          have hwl := wlS_R (i := i) r2 (by omega) (by omega)
          have hlf := lf_in (b := I 8) (k := i) hd r3 r4 (by omega) (by omega)
          have hlR := lfS_R hb q d i
          have next := ih (i + 1) (by omega)
          have ei : ((i + 1 : Nat) : Int) = (i : Int) + 1 := by omega
          rw [ei] at next
          have e112 : plH I R c q d i 112 = I 112 := plH_ne (by omega) (by omega)
          have e113 : plH I R c q d i 113 = I 113 := plH_ne (by omega) (by omega)
          have hpJ : PL (plH I R c q d i) 112 113 c q d := by unfold PL; rw [e112, e113]; exact hp
          have e8 : plH I R c q d i 8 (atS q d i) = lfS (I 8) q d i := by rw [plH_8 hR8, plB_at i i (by omega), hlf]
          clear ih
          refine x_le rfl (by omega) (by omega) (fun hc => absurd hc (by omega)) (fun hc => ?_)
          repeat refine x_step rfl ?_
          refine x_call rfl (cP_squareOf _ 112 113 hP c q d hpJ hr i) ?_
          repeat refine x_step rfl ?_
          refine x_call rfl (cS_letterOn _ _ ha.1 ha.2.1) ?_
          rw [e8]
          refine x_eq rfl (by omega) (by omega) (fun hz => ?_) (fun hz => ?_)
          · repeat refine x_step rfl ?_
            refine x_call rfl (cP_letterOf _ 112 113 hP c q d hpJ i (by omega) (by omega)) ?_
            refine x_callv rfl (cS_put _ _ _ ha.1 ha.2.1) ?_
            have hp3 : PL (xup (plH I R c q d i) 8 (atS q d i) (wlS c i)) 112 113 c q d := by
              unfold PL
              rw [xup_ne (by omega), xup_ne (by omega)]
              exact hpJ
            have es := plH_s0 hR8 hz hwl
            have h112 : plH I R c q d (i + 1) 112 = I 112 := plH_ne (by omega) (by omega)
            rcases hT with ⟨rfl, rfl⟩ | ⟨rfl, rfl⟩
            all_goals
              repeat refine x_step rfl ?_
              refine x_call rfl (cP_letterOf _ 112 113 hP c q d hp3 i (by omega) (by omega)) ?_
              repeat refine x_step rfl ?_
              refine x_callv rfl (cT_change _ (by omega) _ _ _ hTs _ _ hwl.1 hwl.2) ?_
              rw [xup_ne hR8, es]
              repeat refine x_step rfl ?_
              rw [h112, p2]
              exact x_loc (by exact ⟨rfl, rfl, rfl, rfl, rfl, trivial⟩) next
          · rw [plH_s1 hz] at next
            repeat refine x_step rfl ?_
            rw [e112, p2]
            exact x_loc (by exact ⟨rfl, rfl, rfl, rfl, rfl, trivial⟩) next
      have go := loop (lnS c).toNat 0 (by omega)
      rw [plH_0] at go
      repeat refine x_step rfl ?_
      rw [p2]
      exact x_loc (by exact ⟨rfl, rfl, rfl, rfl, rfl, trivial⟩) go
    repeat refine x_step rfl ?_
    refine x_call rfl (cG_worthOf I 112 113 c q d hP hp hr hb h9) ?_
    repeat refine x_step rfl ?_
    refine x_call rfl (cG_rackOf I _ ht) ?_
    rcases ht with ht | ht
    · have := main 9 10 (by omega) (by unfold rkA; rw [if_pos ht])
      rw [if_pos ht, show rkA (I 4 7) = 10 by unfold rkA; rw [if_pos ht]]
      exact x_loc (by exact ⟨rfl, rfl, rfl, trivial⟩) this
    · have := main 11 12 (by omega) (by unfold rkA; rw [if_neg (by omega)])
      rw [if_neg (show ¬ I 4 7 = 0 by omega), show rkA (I 4 7) = 12 by unfold rkA; rw [if_neg (by omega)]]
      exact x_loc (by exact ⟨rfl, rfl, rfl, trivial⟩) this
  · rw [if_neg hz, if_neg hz]
    repeat refine x_step rfl ?_
    exact x_iret rfl rfl rfl rfl
