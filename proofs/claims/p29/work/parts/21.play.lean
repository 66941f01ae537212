/-! plays as objects: 112 and 115, their letters 113 and 116; the reference's letters 122 -/
def dvS : Int → Nat → Int
  | c, 0 => c
  | c, k + 1 => dvS (c / 9) k
theorem dvS_s : ∀ (k : Nat) (c : Int), dvS c (k + 1) = dvS c k / 9 := by
  intro k
  induction k with
  | zero => intro c; rfl
  | succ k ih =>
    intro c
    rw [show dvS c (k + 1 + 1) = dvS (c / 9) (k + 1) from rfl, ih (c / 9)]
    rfl
theorem dvS_R : ∀ (k : Nat) (c : Int), 0 ≤ c → 0 ≤ dvS c k ∧ dvS c k ≤ c := by
  intro k
  induction k with
  | zero => intro c h; exact ⟨h, Int.le_refl _⟩
  | succ k ih =>
    intro c h
    have := ih (c / 9) (by omega)
    rw [show dvS c (k + 1) = dvS (c / 9) k from rfl]
    omega
/-- the letter i of a word -/
def wlS (c i : Int) : Int := dvS c (lnS c - 1 - i).toNat % 9
theorem dvS_dz : ∀ (F : Nat) (c : Int) (k : Nat), dz F c = true → (k : Int) < dn F c → 1 ≤ dvS c k % 9 := by
  intro F
  induction F with
  | zero => intro c k h1 h2; unfold dn at h2; omega
  | succ F ih =>
    intro c k h1 h2
    unfold dn at h2
    unfold dz at h1
    by_cases hc : c ≤ 0
    · rw [if_pos hc] at h2; omega
    · rw [if_neg hc] at h1 h2
      rw [Bool.and_eq_true, decide_eq_true_eq] at h1
      cases k with
      | zero => show 1 ≤ c % 9; omega
      | succ k => exact ih (c / 9) k h1.2 (by omega)
theorem lnS_pos {c : Int} (h : 0 < lnS c) : 0 ≤ c ∧ dz 11 c = true ∧ 2 ≤ lnS c ∧ lnS c ≤ 7 ∧ dn 11 c = lnS c := by
  unfold lnS at h ⊢
  split at h
  · rename_i w
    rw [if_pos w]
    exact ⟨w.1, w.2.1, w.2.2.1, w.2.2.2, rfl⟩
  · omega
theorem wlS_R {c i : Int} (h : 0 < lnS c) (h0 : 0 ≤ i) (h1 : i < lnS c) : 1 ≤ wlS c i ∧ wlS c i ≤ 8 := by
  obtain ⟨w1, w2, w3, w4, w5⟩ := lnS_pos h
  unfold wlS
  have := dvS_dz 11 c (lnS c - 1 - i).toNat w2 (by omega)
  have := (dvS_R (lnS c - 1 - i).toNat c w1).1
  omega
def plP (P A : Nat) : Prop := (P = 112 ∧ A = 113) ∨ (P = 115 ∧ A = 116)
/-- the letters from i on are written -/
def wrS (f : Int → Int) (c i : Int) : Int → Int := fun j => if i ≤ j ∧ j < lnS c then wlS c j else f j
def swH (I : Nat → Int → Int) (P A : Nat) (c : Int) : Nat → Int → Int := xset (xup (xup I P 1 c) P 2 (lnS c)) A (wrS (I A) c 0)
theorem cP_setWord (I : Nat → Int → Int) (P A : Nat) (hP : plP P A) (c : Int) (hc : InR c) (hl : 0 < lnS c) : XR mP_setWord [.inr P, .inl c] (hN I) none (hN (swH I P A c)) := by
  refine XRa.of (by decide) (Nat.le_of_ble_eq_true rfl) ?_
  obtain ⟨w1, w2, w3, w4, w5⟩ := lnS_pos hl
  have loop : ∀ (n : Nat) (i r : Int) (K : Nat → Int → Int), i + 1 = n → i < lnS c → r = dvS c (lnS c - 1 - i).toNat → XE mP_setWord none (hN (xset K A (wrS (I A) c 0))) 23 [(3, .inl i), (2, .inl r), (0, .inr P), (1, .inl c)] [.inl i] (hN (xset K A (wrS (I A) c (i + 1)))) := by
    intro n
    induction n with
    | zero =>
      intro i r K h1 h2 h3
      refine x_lt rfl (by omega) (by omega) (fun hc => ?_) (fun hc => absurd (by omega) hc)
      exact x_vret rfl rfl (by rw [show i + 1 = 0 by omega])
    | succ n ih =>
      intro i r K h1 h2 h3
      have hr := dvS_R (lnS c - 1 - i).toNat c w1
      rw [← h3] at hr
      have hw : wlS c i = r % 9 := by unfold wlS; rw [h3]
      have hn : r / 9 = dvS c (lnS c - 1 - (i - 1)).toNat := by
        rw [h3, show (lnS c - 1 - (i - 1)).toNat = (lnS c - 1 - i).toNat + 1 by omega, dvS_s]
      have es : xup (xset K A (wrS (I A) c (i + 1))) A i (r % 9) = xset K A (wrS (I A) c (i - 1 + 1)) := by
        rw [xup_xset]
        refine xset_congr (fun j => ?_)
        unfold wrS
        by_cases hj : j = i
        · rw [if_pos hj, if_pos (by omega), hj, hw]
        · rw [if_neg hj]
          by_cases hj2 : i + 1 ≤ j ∧ j < lnS c
          · rw [if_pos hj2, if_pos (by omega)]
          · rw [if_neg hj2, if_neg (by omega)]
      rcases hP with ⟨rfl, rfl⟩ | ⟨rfl, rfl⟩
      all_goals
        refine x_lt rfl (by omega) (by omega) (fun hc => absurd hc (by omega)) (fun hc => ?_)
        repeat refine x_step rfl ?_
        refine x_le rfl (by omega) (by omega) (fun hc => absurd hc (by omega)) (fun hc => ?_)
        repeat refine x_step rfl ?_
        refine x_rem rfl (by omega) (by omega) (by omega) (by omega) ?_
        refine x_ast (len := 6) rfl (by omega) (by omega) ?_
        rw [es]
        repeat refine x_step rfl ?_
        refine x_div rfl (by omega) (by omega) (by omega) (by omega) ?_
        repeat refine x_step rfl ?_
        exact x_loc (by exact ⟨rfl, rfl, rfl, rfl, trivial⟩) (ih (i - 1) (r / 9) K (by omega) (by omega) hn)
  have fin := loop (lnS c).toNat (lnS c - 1) c (xup (xup I P 1 c) P 2 (lnS c)) (by omega) (by omega) (by rw [show (lnS c - 1 - (lnS c - 1)).toNat = 0 by omega]; rfl)
  have e0 : xset (xup (xup I P 1 c) P 2 (lnS c)) A (wrS (I A) c (lnS c - 1 + 1)) = xup (xup I P 1 c) P 2 (lnS c) := by
    have : wrS (I A) c (lnS c - 1 + 1) = xup (xup I P 1 c) P 2 (lnS c) A := by
      funext j
      unfold wrS
      rw [if_neg (by omega), xup_ne (by unfold plP at hP; omega), xup_ne (by unfold plP at hP; omega)]
    rw [this, xset_self]
  rw [e0] at fin
  unfold swH
  rcases hP with ⟨rfl, rfl⟩ | ⟨rfl, rfl⟩
  all_goals
    repeat refine x_step rfl ?_
    refine x_call rfl (cB_lengthOf _ c hc) ?_
    repeat refine x_step rfl ?_
    rw [xup_at, if_pos rfl]
    exact x_loc (by exact ⟨rfl, rfl, rfl, rfl, trivial⟩) fin
theorem cP_setPlace (I : Nat → Int → Int) (P A : Nat) (hP : plP P A) (q d : Int) (hd : d = 0 ∨ d = 1) : XR mP_setPlace [.inr P, .inl q, .inl d] (hN I) none (hN (xup (xup I P 3 q) P 4 d)) := by
  refine XRa.of (by decide) (Nat.le_of_ble_eq_true rfl) ?_
  rcases hP with ⟨rfl, rfl⟩ | ⟨rfl, rfl⟩
  all_goals
    repeat refine x_step rfl ?_
    refine x_putz (bi := 4) rfl rfl (by decide) hd ?_
    exact x_vret rfl rfl rfl
/-- a play object holds a play -/
def PL (I : Nat → Int → Int) (P A : Nat) (c q d : Int) : Prop := I P 1 = c ∧ I P 2 = lnS c ∧ I P 3 = q ∧ I P 4 = d ∧ (∀ j : Int, 0 ≤ j → j < lnS c → I A j = wlS c j)
abbrev plR (c q d : Int) : Prop := InR c ∧ 0 < lnS c ∧ 0 ≤ q ∧ q ≤ 80 ∧ (d = 0 ∨ d = 1)
theorem PL_set (I : Nat → Int → Int) (P A : Nat) (hP : plP P A) (c q d : Int) : PL (xup (xup (swH I P A c) P 3 q) P 4 d) P A c q d := by
  have hAP : A ≠ P := by unfold plP at hP; omega
  unfold PL swH
  refine ⟨?_, ?_, ?_, ?_, fun j h1 h2 => ?_⟩
  · rw [xup_at, if_neg (by omega), xup_at, if_neg (by omega), xset_ne (Ne.symm hAP), xup_at, if_neg (by omega), xup_at, if_pos rfl]
  · rw [xup_at, if_neg (by omega), xup_at, if_neg (by omega), xset_ne (Ne.symm hAP), xup_at, if_pos rfl]
  · rw [xup_at, if_neg (by omega), xup_at, if_pos rfl]
  · rw [xup_at, if_pos rfl]
  · rw [xup_ne hAP, xup_ne hAP, xset_at]
    unfold wrS
    rw [if_pos ⟨h1, h2⟩]
theorem cP_isOnBoard (I : Nat → Int → Int) (P A : Nat) (hP : plP P A) (c q d : Int) (hp : PL I P A c q d) (hr : plR c q d) : XR mP_isOnBoard [.inr P] (hN I) (some (.inl (if c0S q d + lnS c ≤ 9 then 1 else 0))) (hN I) := by
  refine XRa.of (by decide) (Nat.le_of_ble_eq_true rfl) ?_
  obtain ⟨p1, p2, p3, p4, p5⟩ := hp
  obtain ⟨r1, r2, r3, r4, hd⟩ := hr
  have hl := lnS_le c
  have hc0 := c0_R (d := d) r3 r4
  have fin : ∀ (x : Int), x = c0S q d → XE mP_isOnBoard (some (.inl (if c0S q d + lnS c ≤ 9 then 1 else 0))) (hN I) 33 [] [.inl 9, .inl (x + lnS c)] (hN I) := by
    intro x hx
    subst hx
    refine x_lt rfl (by omega) (by omega) (fun hc => ?_) (fun hc => ?_)
    · repeat refine x_step rfl ?_
      exact x_zret rfl rfl (by rw [if_neg (by omega)]) (Or.inl rfl) rfl
    · repeat refine x_step rfl ?_
      exact x_zret rfl rfl (by rw [if_pos (by omega)]) (Or.inr rfl) rfl
  rcases hP with ⟨rfl, rfl⟩ | ⟨rfl, rfl⟩
  all_goals
    repeat refine x_step rfl ?_
    rw [p4]
    refine x_eq rfl (by omega) (by omega) (fun hz => ?_) (fun hz => ?_)
    · repeat refine x_step rfl ?_
      rw [p3]
      refine x_rem rfl (by omega) (by omega) (by omega) (by omega) ?_
      repeat refine x_step rfl ?_
      rw [p2]
      exact x_loc (by exact trivial) (fin (q % 9) (by rw [hz, c0_0]))
    · repeat refine x_step rfl ?_
      rw [p3]
      refine x_div rfl (by omega) (by omega) (by omega) (by omega) ?_
      repeat refine x_step rfl ?_
      rw [p2]
      exact x_loc (by exact trivial) (fin (q / 9) (by rw [show d = 1 by omega, c0_1]))
theorem cP_squareOf (I : Nat → Int → Int) (P A : Nat) (hP : plP P A) (c q d : Int) (hp : PL I P A c q d) (hr : plR c q d) (i : Int) : XR mP_squareOf [.inr P, .inl i] (hN I) (some (.inl (atS q d i))) (hN I) := by
  refine XRa.of (by decide) (Nat.le_of_ble_eq_true rfl) ?_
  obtain ⟨p1, p2, p3, p4, p5⟩ := hp
  obtain ⟨r1, r2, r3, r4, hd⟩ := hr
  rcases hP with ⟨rfl, rfl⟩ | ⟨rfl, rfl⟩
  all_goals
    repeat refine x_step rfl ?_
    rw [p4]
    refine x_eq rfl (by omega) (by omega) (fun hz => ?_) (fun hz => ?_)
    · repeat refine x_step rfl ?_
      exact x_iret rfl rfl (by rw [p3, hz, at_0]; omega) rfl
    · repeat refine x_step rfl ?_
      exact x_iret rfl rfl (by rw [p3, show d = 1 by omega, at_1]; omega) rfl
theorem cP_letterOf (I : Nat → Int → Int) (P A : Nat) (hP : plP P A) (c q d : Int) (hp : PL I P A c q d) (i : Int) (h0 : 0 ≤ i) (h1 : i < lnS c) : XR mP_letterOf [.inr P, .inl i] (hN I) (some (.inl (wlS c i))) (hN I) := by
  refine XRa.of (by decide) (Nat.le_of_ble_eq_true rfl) ?_
  obtain ⟨p1, p2, p3, p4, p5⟩ := hp
  have hl := lnS_le c
  have e := p5 i h0 h1
  rcases hP with ⟨rfl, rfl⟩ | ⟨rfl, rfl⟩
  all_goals
    repeat refine x_step rfl ?_
    refine x_lt rfl (by omega) (by omega) (fun hc => absurd hc (by omega)) (fun hc => ?_)
    repeat refine x_step rfl ?_
    refine x_le rfl (by omega) (by omega) (fun hc => absurd hc (by omega)) (fun hc => ?_)
    repeat refine x_step rfl ?_
    refine x_ald (len := 6) rfl (by omega) (by omega) ?_
    repeat refine x_step rfl ?_
    exact x_iret rfl rfl e rfl