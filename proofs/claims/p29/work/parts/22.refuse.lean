/-! why a play is refused -/
noncomputable def sel (p : Prop) (a b : Int) : Int := @ite Int p (Classical.propDecidable p) a b
theorem sel_pos {p : Prop} {a b : Int} (h : p) : sel p a b = a := by unfold sel; rw [if_pos h]
theorem sel_neg {p : Prop} {a b : Int} (h : ¬ p) : sel p a b = b := by unfold sel; rw [if_neg h]
theorem sel01 {p : Prop} {a b : Int} : sel p a b = a ∨ sel p a b = b := by
  by_cases h : p
  · exact Or.inl (sel_pos h)
  · exact Or.inr (sel_neg h)
theorem sel_congr {p p' : Prop} {a b b' : Int} (h : p ↔ p') (hb : ¬ p → b = b') : sel p a b = sel p' a b' := by
  by_cases hp : p
  · rw [sel_pos hp, sel_pos (h.mp hp)]
  · rw [sel_neg hp, sel_neg (fun w => hp (h.mpr w)), hb hp]
def r3P (b : Int → Int) (c q d : Int) : Prop := ∃ i, 0 ≤ i ∧ i < lnS c ∧ lfS b q d i ≠ 0 ∧ lfS b q d i ≠ wlS c i
def r4P (b : Int → Int) (c q d : Int) : Prop := ∀ i, 0 ≤ i → i < lnS c → lfS b q d i ≠ 0
def r5P (b : Int → Int) (c q d : Int) : Prop := lfS b q d (-1) ≠ 0 ∨ lfS b q d (lnS c) ≠ 0
def r6P (b : Int → Int) (c q d : Int) : Prop := ∀ i, 0 ≤ i → i < lnS c → anS b (atS q d i) = 0
def alP (b : Int → Int) (W : Int → Prop) (q d x : Int) : Prop := rnS b q (1 - d) x = 0 ∨ W (rnS b q (1 - d) x)
def r7P (b : Int → Int) (W : Int → Prop) (c q d : Int) : Prop := ∃ i, 0 ≤ i ∧ i < lnS c ∧ lfS b q d i = 0 ∧ ¬ alP b W (atS q d i) d (wlS c i)
/-- how many new tiles of a letter among the first squares -/
def nwF (b : Int → Int) (c q d l : Int) (n : Nat) : Int := xsm (fun i => if wlS c i = l ∧ lfS b q d i = 0 then 1 else 0) n
def nwS (b : Int → Int) (c q d l : Int) : Int := nwF b c q d l (lnS c).toNat
def r8P (b : Int → Int) (rk : Int → Int) (c q d : Int) : Prop := ∃ l, 1 ≤ l ∧ l ≤ 8 ∧ rk l < nwS b c q d l
noncomputable def rf7 (b : Int → Int) (W : Int → Prop) (c q d : Int) (z : Int) : Int := sel (9 < c0S q d + lnS c) 2 (sel (r3P b c q d) 3 (sel (r4P b c q d) 4 (sel (r5P b c q d) 5 (sel (r6P b c q d) 6 (sel (r7P b W c q d) 7 z)))))
noncomputable def rfS (b : Int → Int) (W : Int → Prop) (rk : Int → Int) (c q d : Int) : Int := sel (¬ W c) 1 (rf7 b W c q d (sel (r8P b rk c q d) 8 0))
theorem lf_in {b : Int → Int} {q d k : Int} (hd : d = 0 ∨ d = 1) (h0 : 0 ≤ q) (h1 : q ≤ 80) (hi : 0 ≤ c0S q d + k) (hi2 : c0S q d + k ≤ 8) : b (atS q d k) = lfS b q d k := by
  rw [lf_at hd h0 h1, if_pos ⟨hi, hi2⟩]
/-- the words of the class, as a set -/
def inC (I : Nat → Int → Int) (c : Int) : Prop := ∃ k, 0 ≤ k ∧ k < I 5 1 ∧ I 6 k = c
theorem no_in {I : Nat → Int → Int} (hm : 0 ≤ I 5 1) (c : Int) : (0 ≤ noS I c ↔ inC I c) := by
  unfold noS inC
  rcases fiS_spec (I 6) c (I 5 1).toNat 0 with ⟨h1, h2⟩ | ⟨h1, h2, h3⟩
  · rw [h1]
    constructor
    · intro h; omega
    · rintro ⟨k, a1, a2, a3⟩
      exact absurd a3 (h2 k a1 (by omega))
  · constructor
    · intro _
      exact ⟨_, h1, by omega, h3⟩
    · intro _; exact h1
section RF
variable (I : Nat → Int → Int) (P A : Nat) (hP : plP P A) (c q d : Int) (hp : PL I P A c q d) (hr : plR c q d) (hb : bdR (I 8)) (hw : wdR I)
theorem cG_hasAnchor (hP : plP P A) (hp : PL I P A c q d) (hr : plR c q d) (hb : bdR (I 8)) (h9 : c0S q d + lnS c ≤ 9) : XR mG_hasAnchor [.inr 4, .inr P] (hN I) (some (.inl (sel (r6P (I 8) c q d) 0 1))) (hN I) := by
  refine XRa.of (by decide) (Nat.le_of_ble_eq_true rfl) ?_
  have hPP := hP
  obtain ⟨r1, r2, r3, r4, hd⟩ := id hr
  have hl := lnS_le c
  have hc0 := c0_R (d := d) r3 r4
  have hp2 := hp.2.1
  have loop : ∀ (n : Nat) (i : Int), i + n = lnS c → 0 ≤ i → (∀ j, 0 ≤ j → j < i → anS (I 8) (atS q d j) = 0) → XE mG_hasAnchor (some (.inl (sel (r6P (I 8) c q d) 0 1))) (hN I) 7 [(2, .inl i), (1, .inr P), (0, .inr 4)] [.inl (lnS c), .inl i] (hN I) := by
    intro n
    induction n with
    | zero =>
      intro i h1 h2 h3
      refine x_le rfl (by omega) (by omega) (fun hc => ?_) (fun hc => absurd (by omega) hc)
      repeat refine x_step rfl ?_
      exact x_zret rfl rfl (sel_pos (fun j a b => h3 j a (by omega))).symm (Or.inl rfl) rfl
    | succ n ih =>
      intro i h1 h2 h3
      have ha := at_in (k := i) r3 r4 hd (by omega) (by omega)
      have h01 := anS01 (I 8) (atS q d i)
      have next : ∀ (h : anS (I 8) (atS q d i) = 0), XE mG_hasAnchor (some (.inl (sel (r6P (I 8) c q d) 0 1))) (hN I) 7 [(2, .inl (i + 1)), (1, .inr P), (0, .inr 4)] [.inl (lnS c), .inl (i + 1)] (hN I) := fun h => ih (i + 1) (by omega) (by omega) (fun j a b => by
        by_cases e : j = i
        · rw [e]; exact h
        · exact h3 j a (by omega))
      rcases hP with ⟨rfl, rfl⟩ | ⟨rfl, rfl⟩
      all_goals
        refine x_le rfl (by omega) (by omega) (fun hc => absurd hc (by omega)) (fun hc => ?_)
        repeat refine x_step rfl ?_
        refine x_call rfl (cP_squareOf I _ _ hPP c q d hp hr i) ?_
        refine x_call rfl (cS_isAnchor I hb _ ha.1 ha.2.1) ?_
        refine x_eq rfl (by omega) (by omega) (fun hz => ?_) (fun hz => ?_)
        · repeat refine x_step rfl ?_
          rw [hp2]
          exact x_loc (by exact ⟨rfl, rfl, rfl, trivial⟩) (next hz)
        · repeat refine x_step rfl ?_
          exact x_zret rfl rfl (sel_neg (fun w => hz (w i h2 (by omega)))).symm (Or.inr rfl) rfl
  have fin := loop (lnS c).toNat 0 (by omega) (by omega) (fun j a b => by omega)
  rcases hP with ⟨rfl, rfl⟩ | ⟨rfl, rfl⟩
  all_goals
    repeat refine x_step rfl ?_
    rw [hp2]
    exact x_loc (by exact ⟨rfl, rfl, rfl, trivial⟩) fin
theorem cG_hasRightCrossings (hP : plP P A) (hp : PL I P A c q d) (hr : plR c q d) (hb : bdR (I 8)) (hw : wdR I) (h9 : c0S q d + lnS c ≤ 9) : XR mG_hasRightCrossings [.inr 4, .inr P] (hN I) (some (.inl (sel (r7P (I 8) (inC I) c q d) 0 1))) (hN I) := by
  refine XRa.of (by decide) (Nat.le_of_ble_eq_true rfl) ?_
  have hPP := hP
  obtain ⟨r1, r2, r3, r4, hd⟩ := id hr
  have hl := lnS_le c
  have hc0 := c0_R (d := d) r3 r4
  have hp2 := hp.2.1
  have hp4 := hp.2.2.2.1
  have hd1 : 1 - d = 0 ∨ 1 - d = 1 := by omega
  have loop : ∀ (n : Nat) (i : Int), i + n = lnS c → 0 ≤ i → (∀ j, 0 ≤ j → j < i → lfS (I 8) q d j = 0 → alP (I 8) (inC I) (atS q d j) d (wlS c j)) → XE mG_hasRightCrossings (some (.inl (sel (r7P (I 8) (inC I) c q d) 0 1))) (hN I) 7 [(2, .inl i), (1, .inr P), (0, .inr 4)] [.inl (lnS c), .inl i] (hN I) := by
    intro n
    induction n with
    | zero =>
      intro i h1 h2 h3
      refine x_le rfl (by omega) (by omega) (fun hc => ?_) (fun hc => absurd (by omega) hc)
      repeat refine x_step rfl ?_
      refine x_zret rfl rfl (sel_neg ?_).symm (Or.inr rfl) rfl
      rintro ⟨j, a1, a2, a3, a4⟩
      exact a4 (h3 j a1 (by omega) a3)
    | succ n ih =>
      intro i h1 h2 h3
      have ha := at_in (k := i) r3 r4 hd (by omega) (by omega)
      have hlf := lf_in (b := I 8) (k := i) hd r3 r4 (by omega) (by omega)
      have hlr := lfS_R hb q d i
      have hwl := wlS_R r2 h2 (show i < lnS c by omega)
      have hrn := rnS_R hb ha.1 ha.2.1 hd1 (x := wlS c i) (by omega)
      have hno := no_in hw.1 (rnS (I 8) (atS q d i) (1 - d) (wlS c i))
      have hnoR := noS_R I hw.1 hw.2.1 (rnS (I 8) (atS q d i) (1 - d) (wlS c i))
      have hw2 := hw.2.1
      have next : (lfS (I 8) q d i = 0 → alP (I 8) (inC I) (atS q d i) d (wlS c i)) → XE mG_hasRightCrossings (some (.inl (sel (r7P (I 8) (inC I) c q d) 0 1))) (hN I) 7 [(2, .inl (i + 1)), (1, .inr P), (0, .inr 4)] [.inl (lnS c), .inl (i + 1)] (hN I) := fun h => ih (i + 1) (by omega) (by omega) (fun j a b e0 => by
        by_cases e : j = i
        · rw [e] at e0 ⊢; exact h e0
        · exact h3 j a (by omega) e0)
      have J : lfS (I 8) q d i = 0 → XE mG_hasRightCrossings (some (.inl (sel (r7P (I 8) (inC I) c q d) 0 1))) (hN I) 46 [(2, .inl i), (1, .inr P), (0, .inr 4)] [.inl i, .inr P, .inl (1 - d), .inl (atS q d i), .inr 7] (hN I) := by
        intro h0
        rcases hP with ⟨rfl, rfl⟩ | ⟨rfl, rfl⟩
        all_goals
          refine x_call rfl (cP_letterOf I _ _ hPP c q d hp i h2 (by omega)) ?_
          refine x_call rfl (cS_runThrough I hb _ _ _ ha.1 ha.2.1 hd1 (by omega)) ?_
          repeat refine x_step rfl ?_
          refine x_eq rfl (by omega) (by omega) (fun hz => ?_) (fun hz => ?_)
          · repeat refine x_step rfl ?_
            rw [hp2]
            exact x_loc (by exact ⟨rfl, rfl, rfl, trivial⟩) (next (fun _ => Or.inl hz))
          · repeat refine x_step rfl ?_
            refine x_call rfl (cW_no I hw _ (by omega)) ?_
            refine x_le rfl (by omega) (by omega) (fun hz2 => ?_) (fun hz2 => ?_)
            · repeat refine x_step rfl ?_
              rw [hp2]
              exact x_loc (by exact ⟨rfl, rfl, rfl, trivial⟩) (next (fun _ => Or.inr (hno.mp hz2)))
            · repeat refine x_step rfl ?_
              refine x_zret rfl rfl (sel_pos ⟨i, h2, by omega, h0, ?_⟩).symm (Or.inl rfl) rfl
              rintro (w | w)
              · exact hz w
              · exact hz2 (hno.mpr w)
      rcases hP with ⟨rfl, rfl⟩ | ⟨rfl, rfl⟩
      all_goals
        refine x_le rfl (by omega) (by omega) (fun hc => absurd hc (by omega)) (fun hc => ?_)
        repeat refine x_step rfl ?_
        refine x_call rfl (cP_squareOf I _ _ hPP c q d hp hr i) ?_
        repeat refine x_step rfl ?_
        refine x_call rfl (cS_letterOn I _ ha.1 ha.2.1) ?_
        rw [hlf]
        refine x_eq rfl (by omega) (by omega) (fun hz => ?_) (fun hz => ?_)
        · repeat refine x_step rfl ?_
          rw [hp4]
          refine x_eq rfl (by omega) (by omega) (fun hz2 => ?_) (fun hz2 => ?_)
          · repeat refine x_step rfl ?_
            have := J hz
            rw [show 1 - d = 1 by omega] at this
            exact x_loc (by exact ⟨rfl, rfl, rfl, trivial⟩) this
          · repeat refine x_step rfl ?_
            have := J hz
            rw [show 1 - d = 0 by omega] at this
            exact x_loc (by exact ⟨rfl, rfl, rfl, trivial⟩) this
        · repeat refine x_step rfl ?_
          rw [hp2]
          exact x_loc (by exact ⟨rfl, rfl, rfl, trivial⟩) (next (fun w => absurd w hz))
  have fin := loop (lnS c).toNat 0 (by omega) (by omega) (fun j a b => by omega)
  rcases hP with ⟨rfl, rfl⟩ | ⟨rfl, rfl⟩
  all_goals
    repeat refine x_step rfl ?_
    rw [hp2]
    exact x_loc (by exact ⟨rfl, rfl, rfl, trivial⟩) fin
theorem nwF_R (b : Int → Int) (c q d l : Int) (n : Nat) : 0 ≤ nwF b c q d l n ∧ nwF b c q d l n ≤ n := xsm_01 _ (fun j => by show (if wlS c j = l ∧ lfS b q d j = 0 then (1 : Int) else 0) = 0 ∨ (if wlS c j = l ∧ lfS b q d j = 0 then (1 : Int) else 0) = 1; exact if01) n
theorem cG_hasTiles (T AT : Nat) (hT : tsP T AT) (hP : plP P A) (hp : PL I P A c q d) (hr : plR c q d) (hb : bdR (I 8)) (hk : amR (I AT)) (h9 : c0S q d + lnS c ≤ 9) : XR mG_hasTiles [.inr 4, .inr T, .inr P] (hN I) (some (.inl (sel (r8P (I 8) (I AT) c q d) 0 1))) (hN I) := by
  refine XRa.of (by decide) (Nat.le_of_ble_eq_true rfl) ?_
  have hPP := hP
  have hTT := hT
  obtain ⟨r1, r2, r3, r4, hd⟩ := id hr
  have hl := lnS_le c
  have hc0 := c0_R (d := d) r3 r4
  have hp2 := hp.2.1
  have loop : ∀ (n : Nat) (l : Int), l + n = 9 → 1 ≤ l → (∀ j, 1 ≤ j → j < l → nwS (I 8) c q d j ≤ I AT j) → XE mG_hasTiles (some (.inl (sel (r8P (I 8) (I AT) c q d) 0 1))) (hN I) 5 [(3, .inl l), (2, .inr P), (1, .inr T), (0, .inr 4)] [.inl 8, .inl l] (hN I) := by
    intro n
    induction n with
    | zero =>
      intro l h1 h2 h3
      refine x_lt rfl (by omega) (by omega) (fun hc => ?_) (fun hc => absurd (by omega) hc)
      repeat refine x_step rfl ?_
      refine x_zret rfl rfl (sel_neg ?_).symm (Or.inr rfl) rfl
      rintro ⟨j, a1, a2, a3⟩
      have := h3 j a1 (by omega)
      omega
    | succ n ih =>
      intro l h1 h2 h3
      have hkl := hk l h2 (by omega)
      have inner : ∀ (m : Nat) (i : Nat), i + m = (lnS c).toNat → XE mG_hasTiles (some (.inl (sel (r8P (I 8) (I AT) c q d) 0 1))) (hN I) 20 [(5, .inl i), (4, .inl (nwF (I 8) c q d l i)), (3, .inl l), (2, .inr P), (1, .inr T), (0, .inr 4)] [.inl (lnS c), .inl i] (hN I) := by
        intro m
        induction m with
        | zero =>
          intro i hi
          have hnw := nwF_R (I 8) c q d l i
          have e : nwF (I 8) c q d l i = nwS (I 8) c q d l := by unfold nwS; rw [show (lnS c).toNat = i by omega]
          rcases hP with ⟨rfl, rfl⟩ | ⟨rfl, rfl⟩
          all_goals
            refine x_le rfl (by omega) (by omega) (fun hc => ?_) (fun hc => absurd (by omega) hc)
            repeat refine x_step rfl ?_
            refine x_call (by rcases hT with ⟨rfl, rfl⟩ | ⟨rfl, rfl⟩ | ⟨rfl, rfl⟩ | ⟨rfl, rfl⟩ <;> rfl) (cT_of I T AT hTT l h2 (by omega)) ?_
            repeat refine x_step rfl ?_
            refine x_le rfl (by omega) (by omega) (fun hz => ?_) (fun hz => ?_)
            · repeat refine x_step rfl ?_
              exact x_loc (by exact ⟨rfl, rfl, rfl, rfl, trivial⟩) (ih (l + 1) (by omega) (by omega) (fun j a b => by
                by_cases e2 : j = l
                · rw [e2]; omega
                · exact h3 j a (by omega)))
            · repeat refine x_step rfl ?_
              exact x_zret rfl rfl (sel_pos ⟨l, h2, by omega, by omega⟩).symm (Or.inl rfl) rfl
        | succ m im =>
          intro i hi
          have ha := at_in (k := i) r3 r4 hd (by omega) (by omega)
          have hlf := lf_in (b := I 8) (k := i) hd r3 r4 (by omega) (by omega)
          have hlr := lfS_R hb q d i
          have hwl := wlS_R r2 (show (0 : Int) ≤ i by omega) (show (i : Int) < lnS c by omega)
          have hnw := nwF_R (I 8) c q d l i
          have nextE : ∀ (u : Int), u = nwF (I 8) c q d l (i + 1) → XE mG_hasTiles (some (.inl (sel (r8P (I 8) (I AT) c q d) 0 1))) (hN I) 20 [(5, .inl ((i : Int) + 1)), (4, .inl u), (3, .inl l), (2, .inr P), (1, .inr T), (0, .inr 4)] [.inl (lnS c), .inl ((i : Int) + 1)] (hN I) := fun u hu => by
            rw [hu]
            exact im (i + 1) (by omega)
          have eN : nwF (I 8) c q d l (i + 1) = nwF (I 8) c q d l i + (if wlS c i = l ∧ lfS (I 8) q d i = 0 then 1 else 0) := rfl
          rcases hP with ⟨rfl, rfl⟩ | ⟨rfl, rfl⟩
          all_goals
            refine x_le rfl (by omega) (by omega) (fun hc => absurd hc (by omega)) (fun hc => ?_)
            repeat refine x_step rfl ?_
            refine x_call rfl (cP_letterOf I _ _ hPP c q d hp i (by omega) (by omega)) ?_
            repeat refine x_step rfl ?_
            refine x_eq rfl (by omega) (by omega) (fun hz => ?_) (fun hz => ?_)
            · repeat refine x_step rfl ?_
              refine x_call rfl (cP_squareOf I _ _ hPP c q d hp hr i) ?_
              refine x_call rfl (cS_letterOn I _ ha.1 ha.2.1) ?_
              rw [hlf]
              refine x_eq rfl (by omega) (by omega) (fun hz2 => ?_) (fun hz2 => ?_)
              · repeat refine x_step rfl ?_
                rw [hp2]
                exact x_loc (by exact ⟨rfl, rfl, rfl, rfl, rfl, rfl, trivial⟩) (nextE _ (by rw [eN, if_pos ⟨hz, hz2⟩]))
              · repeat refine x_step rfl ?_
                rw [hp2]
                exact x_loc (by exact ⟨rfl, rfl, rfl, rfl, rfl, rfl, trivial⟩) (nextE _ (by rw [eN, if_neg (fun w => hz2 w.2)]; omega))
            · repeat refine x_step rfl ?_
              rw [hp2]
              exact x_loc (by exact ⟨rfl, rfl, rfl, rfl, rfl, rfl, trivial⟩) (nextE _ (by rw [eN, if_neg (fun w => hz w.1)]; omega))
      have fin := inner (lnS c).toNat 0 (by omega)
      rcases hP with ⟨rfl, rfl⟩ | ⟨rfl, rfl⟩
      all_goals
        refine x_lt rfl (by omega) (by omega) (fun hc => absurd hc (by omega)) (fun hc => ?_)
        repeat refine x_step rfl ?_
        rw [hp2]
        exact x_loc (by exact ⟨rfl, rfl, rfl, rfl, rfl, rfl, trivial⟩) fin
  repeat refine x_step rfl ?_
  exact x_loc (by exact ⟨rfl, rfl, rfl, rfl, trivial⟩) (loop 8 1 (by omega) (by omega) (fun j a b => by omega))
end RF
