/-! tiles: 9 and 11 the racks, 13 the bag, 15 what is put aside; their rows 10, 12, 14, 16 -/
def tsP (T A : Nat) : Prop := (T = 9 ∧ A = 10) ∨ (T = 11 ∧ A = 12) ∨ (T = 13 ∧ A = 14) ∨ (T = 15 ∧ A = 16)
def ttS (f : Int → Int) : Int := f 1 + f 2 + f 3 + f 4 + f 5 + f 6 + f 7 + f 8
theorem ttS_xsm (f : Int → Int) : xsm (fun j => f (j + 1)) 8 = ttS f := by
  simp [xsm, ttS]
/-- the letter of the tile with an index -/
def laT (f : Int → Int) : Nat → Int → Int → Int
  | 0, _, _ => 0
  | n + 1, k, r => if r < f k then k else laT f n (k + 1) (r - f k)
theorem laT_spec (f : Int → Int) (hf : ∀ k : Int, 1 ≤ k → k ≤ 8 → 0 ≤ f k) : ∀ (n : Nat) (k r : Int), k + n = 9 → 1 ≤ k → 0 ≤ r → r < xsm (fun j => f (j + k)) n → k ≤ laT f n k r ∧ laT f n k r ≤ 8 ∧ 1 ≤ f (laT f n k r) := by
  intro n
  induction n with
  | zero => intro k r h1 h2 h3 h4; unfold xsm at h4; omega
  | succ n ih =>
    intro k r h1 h2 h3 h4
    unfold laT
    by_cases h : r < f k
    · rw [if_pos h]
      have := hf k h2 (by omega)
      omega
    · rw [if_neg h]
      have e : ∀ m : Nat, xsm (fun j => f (j + k)) (m + 1) = f k + xsm (fun j => f (j + (k + 1))) m := by
        intro m
        induction m with
        | zero => simp [xsm]
        | succ m im =>
          rw [show xsm (fun j => f (j + k)) (m + 1 + 1) = xsm (fun j => f (j + k)) (m + 1) + f (((m + 1 : Nat) : Int) + k) from rfl, im]
          rw [show xsm (fun j => f (j + (k + 1))) (m + 1) = xsm (fun j => f (j + (k + 1))) m + f ((m : Int) + (k + 1)) from rfl]
          rw [show ((m + 1 : Nat) : Int) + k = (m : Int) + (k + 1) by omega]
          omega
      rw [e] at h4
      have := ih (k + 1) (r - f k) (by omega) (by omega) (by omega) (by omega)
      omega
theorem laT_congr {f g : Int → Int} (h : ∀ k : Int, 1 ≤ k → k ≤ 8 → f k = g k) : ∀ (n : Nat) (k r : Int), k + n = 9 → 1 ≤ k → laT f n k r = laT g n k r := by
  intro n
  induction n with
  | zero => intro k r h1 h2; rfl
  | succ n ih =>
    intro k r h1 h2
    unfold laT
    rw [h k h2 (by omega), ih (k + 1) _ (by omega) (by omega)]
abbrev amR (f : Int → Int) : Prop := ∀ k : Int, 1 ≤ k → k ≤ 8 → 0 ≤ f k ∧ f k ≤ 100
theorem cT_of (I : Nat → Int → Int) (T A : Nat) (hT : tsP T A) (x : Int) (h0 : 1 ≤ x) (h1 : x ≤ 8) : XR mT_of [.inr T, .inl x] (hN I) (some (.inl (I A x))) (hN I) := by
  refine XRa.of (by decide) (Nat.le_of_ble_eq_true rfl) ?_
  rcases hT with ⟨rfl, rfl⟩ | ⟨rfl, rfl⟩ | ⟨rfl, rfl⟩ | ⟨rfl, rfl⟩
  all_goals
    repeat refine x_step rfl ?_
    refine x_lt rfl (by omega) (by omega) (fun h1 => absurd h1 (by omega)) (fun h1 => ?_)
    repeat refine x_step rfl ?_
    refine x_lt rfl (by omega) (by omega) (fun h2 => absurd h2 (by omega)) (fun h2 => ?_)
    repeat refine x_step rfl ?_
    refine x_ald (len := 8) rfl (by omega) (by omega) ?_
    repeat refine x_step rfl ?_
    exact x_iret rfl rfl rfl rfl
theorem cT_change (n : Nat) (hn : n = 117) (I : Nat → Int → Int) (T A : Nat) (hT : tsP T A) (x v : Int) (h0 : 1 ≤ x) (h1 : x ≤ 8) : XR mT_change [.inr T, .inl x, .inl v] (n, xRf, I) none (n, xRf, xup I A x (I A x + v)) := by
  refine XRa.of (by decide) (Nat.le_of_ble_eq_true rfl) ?_
  rcases hT with ⟨rfl, rfl⟩ | ⟨rfl, rfl⟩ | ⟨rfl, rfl⟩ | ⟨rfl, rfl⟩ <;> rcases hn with rfl | rfl
  all_goals
    repeat refine x_step rfl ?_
    refine x_lt rfl (by omega) (by omega) (fun h1 => absurd h1 (by omega)) (fun h1 => ?_)
    repeat refine x_step rfl ?_
    refine x_lt rfl (by omega) (by omega) (fun h2 => absurd h2 (by omega)) (fun h2 => ?_)
    repeat refine x_step rfl ?_
    refine x_ald (len := 8) rfl (by omega) (by omega) ?_
    repeat refine x_step rfl ?_
    refine x_ast (len := 8) rfl (by omega) (by omega) ?_
    exact x_vret rfl rfl rfl
theorem cT_total (n : Nat) (hn : n = 117) (I : Nat → Int → Int) (T A : Nat) (hT : tsP T A) : XR mT_total [.inr T] (n, xRf, I) (some (.inl (ttS (I A)))) (n, xRf, I) := by
  refine XRa.of (by decide) (Nat.le_of_ble_eq_true rfl) ?_
  have loop : ∀ (d i : Nat) (w s : Int), i + d = 8 → s = xsm (fun j => I A (j + 1)) i → w = xsm (fun j => I A (j + 1)) 8 → XE mT_total (some (.inl w)) (n, xRf, I) 7 [(2, .inl (i + 1)), (1, .inl s), (0, .inr T)] [.inl 8, .inl (i + 1)] (n, xRf, I) := by
    intro d
    induction d with
    | zero =>
      intro i w s hi hs hw
      refine x_lt rfl (by omega) (by omega) (fun hc => ?_) (fun hc => absurd (by omega) hc)
      repeat refine x_step rfl ?_
      exact x_iret rfl rfl (by rw [hs, hw, show i = 8 by omega]) rfl
    | succ d ih =>
      intro i w s hi hs hw
      rcases hT with ⟨rfl, rfl⟩ | ⟨rfl, rfl⟩ | ⟨rfl, rfl⟩ | ⟨rfl, rfl⟩ <;> rcases hn with rfl | rfl
      all_goals
        refine x_lt rfl (by omega) (by omega) (fun hc => absurd hc (by omega)) (fun hc => ?_)
        repeat refine x_step rfl ?_
        refine x_ald (len := 8) rfl (by omega) (by omega) ?_
        repeat refine x_step rfl ?_
        exact x_loc (by exact ⟨rfl, rfl, rfl, trivial⟩) (ih (i + 1) w _ (by omega) (by rw [hs]; rfl) hw)
  repeat refine x_step rfl ?_
  rw [← ttS_xsm]
  exact x_loc (by exact ⟨rfl, rfl, rfl, trivial⟩) (loop 8 0 _ 0 rfl rfl rfl)
theorem cT_letterAt (n : Nat) (hn : n = 117) (I : Nat → Int → Int) (hA : amR (I 14)) (r : Int) (h0 : 0 ≤ r) (h1 : r ≤ 1000) : XR mT_letterAt [.inr 13, .inl r] (n, xRf, I) (some (.inl (laT (I 14) 8 1 r))) (n, xRf, I) := by
  refine XRa.of (by decide) (Nat.le_of_ble_eq_true rfl) ?_
  have loop : ∀ (d : Nat) (k r2 w : Int), k + d = 9 → 1 ≤ k → 0 ≤ r2 → r2 ≤ 1000 → w = laT (I 14) d k r2 → XE mT_letterAt (some (.inl w)) (n, xRf, I) 7 [(3, .inl k), (2, .inl r2), (0, .inr 13), (1, .inl r)] [.inl 8, .inl k] (n, xRf, I) := by
    intro d
    induction d with
    | zero =>
      intro k r2 w hk hk2 h2 h3 hw
      refine x_lt rfl (by omega) (by omega) (fun hc => ?_) (fun hc => absurd (by omega) hc)
      repeat refine x_step rfl ?_
      exact x_iret rfl rfl hw.symm rfl
    | succ d ih =>
      intro k r2 w hk hk2 h2 h3 hw
      unfold laT at hw
      have hk3 := hA k (by omega) (by omega)
      rcases hn with rfl | rfl
      all_goals
        refine x_lt rfl (by omega) (by omega) (fun hc => absurd hc (by omega)) (fun hc => ?_)
        repeat refine x_step rfl ?_
        refine x_ald (len := 8) rfl (by omega) (by omega) ?_
        refine x_le rfl (by omega) (by omega) (fun hd => ?_) (fun hd => ?_)
        · rw [if_neg (by omega)] at hw
          repeat refine x_step rfl ?_
          refine x_ald (len := 8) rfl (by omega) (by omega) ?_
          repeat refine x_step rfl ?_
          exact x_loc (by exact ⟨rfl, rfl, rfl, rfl, trivial⟩) (ih (k + 1) (r2 - I 14 k) w (by omega) (by omega) (by omega) (by omega) hw)
        · rw [if_pos (by omega)] at hw
          repeat refine x_step rfl ?_
          exact x_iret rfl rfl hw.symm rfl
  repeat refine x_step rfl ?_
  exact x_loc (by exact ⟨rfl, rfl, rfl, rfl, trivial⟩) (loop 8 1 r _ (by omega) (by omega) h0 h1 rfl)
theorem cG_rackOf (I : Nat → Int → Int) (x : Int) (hx : x = 0 ∨ x = 1) : XR mG_rackOf [.inr 4, .inl x] (hN I) (some (.inr (if x = 0 then 9 else 11))) (hN I) := by
  refine XRa.of (by decide) (Nat.le_of_ble_eq_true rfl) ?_
  repeat refine x_step rfl ?_
  refine x_eq rfl (by omega) (by omega) (fun hc => ?_) (fun hc => ?_)
  · rw [if_pos hc]
    repeat refine x_step rfl ?_
    exact x_aret rfl rfl rfl rfl
  · rw [if_neg hc]
    repeat refine x_step rfl ?_
    exact x_aret rfl rfl rfl rfl
/-- one tile is drawn: the number x, the bag, the rack -/
abbrev TS3 : Type := Int × (Int → Int) × (Int → Int)
def upF (f : Int → Int) (k v : Int) : Int → Int := fun j => if j = k then v else f j
def dxS (x : Int) : Int := (x * 75 + 74) % 65537
def dlS (st : TS3) : Int := laT st.2.1 8 1 (dxS st.1 % ttS st.2.1)
def drS (st : TS3) : TS3 := (dxS st.1, upF st.2.1 (dlS st) (st.2.1 (dlS st) + -1), upF st.2.2 (dlS st) (st.2.2 (dlS st) + 1))
def fiT : Nat → TS3 → TS3
  | 0, st => st
  | n + 1, st => if ttS st.2.1 ≤ 0 then st else fiT n (drS st)
abbrev tsR (st : TS3) : Prop := 0 ≤ st.1 ∧ st.1 ≤ 65536 ∧ amR st.2.1
theorem dlS_R {st : TS3} (h : tsR st) (h2 : 0 < ttS st.2.1) : 1 ≤ dlS st ∧ dlS st ≤ 8 ∧ 1 ≤ st.2.1 (dlS st) := by
  unfold dlS
  refine laT_spec st.2.1 (fun k a b => (h.2.2 k a b).1) 8 1 _ (by omega) (by omega) (Int.emod_nonneg _ (by omega)) ?_
  rw [ttS_xsm]
  exact Int.emod_lt_of_pos _ h2
theorem drS_R {st : TS3} (h : tsR st) (h2 : 0 < ttS st.2.1) : tsR (drS st) := by
  have h3 := dlS_R h h2
  refine ⟨?_, ?_, fun k a b => ?_⟩
  · show 0 ≤ dxS st.1
    unfold dxS; omega
  · show dxS st.1 ≤ 65536
    unfold dxS; omega
  · show 0 ≤ upF st.2.1 (dlS st) (st.2.1 (dlS st) + -1) k ∧ upF st.2.1 (dlS st) (st.2.1 (dlS st) + -1) k ≤ 100
    unfold upF
    have h4 := h.2.2 k a b
    have h5 := h.2.2 (dlS st) h3.1 h3.2.1
    split <;> omega
/-- the heap of the class with these tiles -/
def fiH (I : Nat → Int → Int) (A : Nat) (st : TS3) : Nat → Int → Int := xset (xset (xup I 4 6 st.1) 14 st.2.1) A st.2.2
theorem fiH_14 {I : Nat → Int → Int} {A : Nat} {st : TS3} (hA : A ≠ 14) : fiH I A st 14 = st.2.1 := by unfold fiH; rw [xset_ne (Ne.symm hA), xset_at]
theorem fiH_A {I : Nat → Int → Int} {A : Nat} {st : TS3} : fiH I A st A = st.2.2 := by unfold fiH; rw [xset_at]
theorem fiH_x {I : Nat → Int → Int} {A : Nat} {st : TS3} (hA : A ≠ 4) : fiH I A st 4 6 = st.1 := by unfold fiH; rw [xset_ne (Ne.symm hA), xset_ne (by omega), xup_at, if_pos rfl]
theorem fiH_0 {I : Nat → Int → Int} {A : Nat} (hA : A ≠ 4 ∧ A ≠ 14) : fiH I A (I 4 6, I 14, I A) = I := by
  funext a j
  unfold fiH xset xup
  by_cases h1 : a = A
  · subst h1; simp
  · rw [if_neg h1]
    by_cases h2 : a = 14
    · subst h2; simp
    · rw [if_neg h2]
      by_cases h3 : a = 4
      · subst h3
        rw [if_pos rfl]
        by_cases h4 : j = 6
        · rw [if_pos h4, h4]
        · rw [if_neg h4]
      · rw [if_neg h3]
theorem fiH_ux {I : Nat → Int → Int} {A : Nat} {x x2 : Int} {f g : Int → Int} (hA : A ≠ 4 ∧ A ≠ 14) : xup (fiH I A (x, f, g)) 4 6 x2 = fiH I A (x2, f, g) := by
  funext a j
  unfold fiH xset xup
  by_cases h1 : a = A
  · subst h1; simp [hA.1]
  · by_cases h3 : a = 4
    · subst h3; simp [h1]; by_cases h : j = 6 <;> simp [h]
    · simp [h1, h3]
theorem fiH_ub {I : Nat → Int → Int} {A : Nat} {x k v : Int} {f g : Int → Int} (hA : A ≠ 4 ∧ A ≠ 14) : xup (fiH I A (x, f, g)) 14 k v = fiH I A (x, upF f k v, g) := by
  funext a j
  unfold fiH xset xup upF
  by_cases h1 : a = A
  · subst h1; simp [hA.2]
  · by_cases h3 : a = 14
    · subst h3; simp [h1]
    · simp [h1, h3]
theorem fiH_ur {I : Nat → Int → Int} {A : Nat} {x k v : Int} {f g : Int → Int} : xup (fiH I A (x, f, g)) A k v = fiH I A (x, f, upF g k v) := by
  funext a j
  unfold fiH xset xup upF
  by_cases h1 : a = A
  · subst h1; simp
  · simp [h1]
theorem amR_sum {f : Int → Int} (g : amR f) : 0 ≤ ttS f ∧ ttS f ≤ 800 := by
  have := g 1 (by omega) (by omega); have := g 2 (by omega) (by omega); have := g 3 (by omega) (by omega); have := g 4 (by omega) (by omega)
  have := g 5 (by omega) (by omega); have := g 6 (by omega) (by omega); have := g 7 (by omega) (by omega); have := g 8 (by omega) (by omega)
  unfold ttS; omega
theorem cG_fill (n : Nat) (hn : n = 117) (I : Nat → Int → Int) (T A : Nat) (hT : (T = 9 ∧ A = 10) ∨ (T = 11 ∧ A = 12)) (hst : tsR (I 4 6, I 14, I A)) (h0 : 0 ≤ ttS (I A)) (h6 : ttS (I A) ≤ 6) : XR mG_fill [.inr 4, .inr T] (n, xRf, I) none (n, xRf, fiH I A (fiT (6 - ttS (I A)).toNat (I 4 6, I 14, I A))) := by
  refine XRa.of (by decide) (Nat.le_of_ble_eq_true rfl) ?_
  have hTA : tsP T A := by unfold tsP; omega
  have loop : ∀ (d : Nat) (st : TS3) (J : Nat → Int → Int) (q : Int), tsR st → d ≤ 6 → q = d → J = fiH I A (fiT d st) → XE mG_fill none (n, xRf, J) 9 [(2, .inl q), (0, .inr 4), (1, .inr T)] [.inl q] (n, xRf, fiH I A st) := by
    intro d
    induction d with
    | zero =>
      intro st J q hs hd hq hJ
      refine x_le rfl (by omega) (by omega) (fun hc => ?_) (fun hc => absurd (by omega) hc)
      repeat refine x_step rfl ?_
      refine x_vret rfl rfl ?_
      rw [hJ]
      rfl
    | succ d ih =>
      intro st J q hs hd hq hJ
      unfold fiT at hJ
      obtain ⟨x, f, g⟩ := st
      have hJ : J = fiH I A (if ttS f ≤ 0 then (x, f, g) else fiT d (drS (x, f, g))) := hJ
      have hbt : 0 ≤ ttS f ∧ ttS f ≤ 800 := amR_sum hs.2.2
      have hx : 0 ≤ x ∧ x ≤ 65536 := ⟨hs.1, hs.2.1⟩
      have hdx : 0 ≤ dxS x ∧ dxS x ≤ 65536 := by unfold dxS; omega
      have edx : (x * 75 + 74) % 65537 = dxS x := rfl
      rcases hn with rfl | rfl <;> rcases hT with ⟨rfl, rfl⟩ | ⟨rfl, rfl⟩
      all_goals
        refine x_le rfl (by omega) (by omega) (fun hc => absurd hc (by omega)) (fun hc => ?_)
        repeat refine x_step rfl ?_
        refine x_call rfl (cT_total _ (by omega) _ 13 14 (by unfold tsP; omega)) ?_
        rw [fiH_14 (by omega)]
        repeat refine x_step rfl ?_
        refine x_lt rfl (by omega) (show InR (ttS f) by omega) (fun hz => ?_) (fun hz => ?_)
        · have hz : 0 < ttS f := hz
          rw [if_neg (by omega)] at hJ
          have hdl := dlS_R hs hz
          repeat refine x_step rfl ?_
          rw [fiH_x (by omega)]
          refine x_rem rfl (show 0 ≤ x * 75 + 74 by omega) (show x * 75 + 74 < 2147483648 by omega) (by omega) (by omega) ?_
          refine x_step rfl ?_
          rw [fiH_ux (by omega)]
          repeat refine x_step rfl ?_
          rw [fiH_x (by omega)]
          show XEa mG_fill 0 0 0 0 none (_, xRf, J) 51 _ [.inl (ttS f), .inl (dxS x), .inr 13] (_, xRf, fiH I _ (dxS x, f, g))
          have hm0 := Int.emod_nonneg (dxS x) (show ttS f ≠ 0 by omega)
          have hm1 := Int.emod_lt_of_pos (dxS x) hz
          refine x_rem rfl (by omega) (by omega) (by omega) (by omega) ?_
          refine x_call rfl (cT_letterAt _ (by omega) _ (by rw [fiH_14 (by omega)]; exact hs.2.2) (dxS x % ttS f) hm0 (by omega)) ?_
          rw [fiH_14 (by omega)]
          show XEa mG_fill 0 0 0 0 none (_, xRf, J) 55 _ [.inl (dlS (x, f, g))] (_, xRf, fiH I _ (dxS x, f, g))
          have e : drS (x, f, g) = (dxS x, upF f (dlS (x, f, g)) (f (dlS (x, f, g)) + -1), upF g (dlS (x, f, g)) (g (dlS (x, f, g)) + 1)) := rfl
          have hR := drS_R hs hz
          rw [e] at hJ hR
          generalize dlS (x, f, g) = lt at hdl hJ hR
          repeat refine x_step rfl ?_
          refine x_callv rfl (cT_change _ (by omega) _ 13 14 (by unfold tsP; omega) lt (-1) hdl.1 hdl.2.1) ?_
          rw [fiH_14 (by omega), fiH_ub (by omega)]
          repeat refine x_step rfl ?_
          refine x_callv rfl (cT_change _ (by omega) _ _ _ hTA lt 1 hdl.1 hdl.2.1) ?_
          rw [fiH_A, fiH_ur]
          repeat refine x_step rfl ?_
          exact x_loc (by exact ⟨rfl, rfl, rfl, trivial⟩) (ih _ J (q + -1) hR (by omega) (by omega) hJ)
        · have hz : ¬ 0 < ttS f := hz
          rw [if_pos (by omega)] at hJ
          repeat refine x_step rfl ?_
          exact x_vret rfl rfl (by rw [hJ])
  have e0 : fiH I A (I 4 6, I 14, I A) = I := fiH_0 (by omega)
  have fin := loop (6 - ttS (I A)).toNat (I 4 6, I 14, I A) _ (6 - ttS (I A)) hst (by omega) (by omega) rfl
  rw [e0] at fin
  rcases hn with rfl | rfl <;> rcases hT with ⟨rfl, rfl⟩ | ⟨rfl, rfl⟩
  all_goals
    repeat refine x_step rfl ?_
    refine x_call rfl (cT_total _ (by omega) I _ _ hTA) ?_
    repeat refine x_step rfl ?_
    exact x_loc (by exact ⟨rfl, rfl, rfl, trivial⟩) fin
