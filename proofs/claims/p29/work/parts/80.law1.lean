/-! the law's small functions -/
theorem cL_low (h : XH) (v n : Int) (hn : 0 < n) (hn2 : n < 2147483648) : XR mL_low [.inl v, .inl n] h (some (.inl (v % 2147483648 % n))) h := by
  refine XRa.of (by decide) (Nat.le_of_ble_eq_true rfl) ?_
  obtain ⟨m, r, I⟩ := h
  repeat refine x_step rfl ?_
  refine x_iandB rfl ?_
  repeat refine x_step rfl ?_
  refine x_rem rfl (by omega) (by omega) hn hn2 ?_
  exact x_iret rfl rfl rfl rfl
theorem cL_size (h : XH) (c : Int) (h0 : 0 ≤ c) (hc : InR c) : XR mL_size [.inl c] h (some (.inl (dn 11 c))) h := by
  refine XRa.of (by decide) (Nat.le_of_ble_eq_true rfl) ?_
  obtain ⟨n, r, I⟩ := h
  have loop : ∀ (F : Nat) (rest cnt w : Int), rest < p9 F → 0 ≤ rest → InR rest → 0 ≤ cnt → cnt + F ≤ 11 → w = cnt + dn F rest → XE mL_size (some (.inl w)) (n, r, I) 5 [(2, .inl rest), (1, .inl cnt)] [.inl rest] (n, r, I) := by
    intro F
    induction F with
    | zero =>
      intro rest cnt w hp hr0 hr h1 h2 hw
      have hp : rest < 1 := hp
      refine x_le rfl hr (by omega) (fun hl => ?_) (fun hl => absurd hl (by omega))
      repeat refine x_step rfl ?_
      exact x_iret rfl rfl (by rw [hw, dn_zero 0 (by omega)]; omega) rfl
    | succ F ih =>
      intro rest cnt w hp hr0 hr h1 h2 hw
      have hp : rest < 9 * p9 F := hp
      refine x_le rfl hr (by omega) (fun hl => ?_) (fun hl => ?_)
      · repeat refine x_step rfl ?_
        exact x_iret rfl rfl (by rw [hw, dn_zero _ hl]; omega) rfl
      · unfold dn at hw
        rw [if_neg hl] at hw
        repeat refine x_step rfl ?_
        refine x_div rfl (by omega) (by omega) (by omega) (by omega) ?_
        repeat refine x_step rfl ?_
        exact x_loc (by exact ⟨rfl, rfl, trivial⟩) (ih (rest / 9) (cnt + 1) w (by omega) (by omega) (by omega) (by omega) (by omega) (by omega))
  repeat refine x_step rfl ?_
  exact x_loc (by exact ⟨rfl, rfl, trivial⟩) (loop 11 c 0 _ (by simp only [p9]; omega) h0 hc (by omega) (by omega) (by omega))
theorem cL_letter (h : XH) (c k : Int) (hl : 0 < lnS c) (hc : InR c) (h0 : 0 ≤ k) (h1 : k < lnS c) : XR mL_letter [.inl c, .inl k] h (some (.inl (wlS c k))) h := by
  refine XRa.of (by decide) (Nat.le_of_ble_eq_true rfl) ?_
  obtain ⟨w1, w2, w3, w4, w5⟩ := lnS_pos hl
  obtain ⟨m, r, I⟩ := h
  have loop : ∀ (n : Nat) (i rest : Int), i = k + n → i < lnS c → rest = dvS c (lnS c - 1 - i).toNat → XE mL_letter (some (.inl (wlS c k))) (m, r, I) 11 [(3, .inl i), (2, .inl rest), (1, .inl k)] [.inl k, .inl i] (m, r, I) := by
    intro n
    induction n with
    | zero =>
      intro i rest e1 e2 e3
      have hr := dvS_R (lnS c - 1 - i).toNat c w1
      rw [← e3] at hr
      refine x_le rfl (by omega) (by omega) (fun _ => ?_) (fun w => absurd (by omega) w)
      repeat refine x_step rfl ?_
      refine x_rem rfl (by omega) (by omega) (by omega) (by omega) ?_
      exact x_iret rfl rfl (by unfold wlS; rw [e3, show i = k by omega]) rfl
    | succ n ih =>
      intro i rest e1 e2 e3
      have hr := dvS_R (lnS c - 1 - i).toNat c w1
      rw [← e3] at hr
      refine x_le rfl (by omega) (by omega) (fun w => absurd w (by omega)) (fun _ => ?_)
      repeat refine x_step rfl ?_
      refine x_div rfl (by omega) (by omega) (by omega) (by omega) ?_
      repeat refine x_step rfl ?_
      exact x_loc (by exact ⟨rfl, rfl, rfl, trivial⟩) (ih (i - 1) (rest / 9) (by omega) (by omega) (by rw [e3, show (lnS c - 1 - (i - 1)).toNat = (lnS c - 1 - i).toNat + 1 by omega, dvS_s]))
  repeat refine x_step rfl ?_
  refine x_call rfl (cL_size _ c w1 hc) ?_
  rw [w5]
  repeat refine x_step rfl ?_
  exact x_loc (by exact ⟨rfl, rfl, rfl, trivial⟩) (loop (lnS c - 1 - k).toNat (lnS c - 1) c (by omega) (by omega) (by rw [show (lnS c - 1 - (lnS c - 1)).toNat = 0 by omega]; rfl))
theorem cL_further (h : XH) (q d k : Int) (h0 : 0 ≤ q) (h1 : q ≤ 80) (hd : d = 0 ∨ d = 1) (hk : -20 ≤ k ∧ k ≤ 20) : XR mL_further [.inl q, .inl d, .inl k] h (some (.inl (aoS q d k))) h := by
  refine XRa.of (by decide) (Nat.le_of_ble_eq_true rfl) ?_
  obtain ⟨n, r, I⟩ := h
  rcases hd with rfl | rfl
  · repeat refine x_step rfl ?_
    refine x_div rfl (by omega) (by omega) (by omega) (by omega) ?_
    repeat refine x_step rfl ?_
    refine x_eq rfl (by omega) (by omega) (fun _ => ?_) (fun w => absurd rfl w)
    repeat refine x_step rfl ?_
    refine x_rem rfl (by omega) (by omega) (by omega) (by omega) ?_
    repeat refine x_step rfl ?_
    refine x_eq rfl (by omega) (by omega) (fun _ => ?_) (fun w => absurd rfl w)
    repeat refine x_step rfl ?_
    refine x_lt rfl (by omega) (by omega) (fun w => by omega) (fun _ => ?_)
    repeat refine x_step rfl ?_
    refine x_lt rfl (by omega) (by omega) (fun w => by omega) (fun _ => ?_)
    repeat refine x_step rfl ?_
    refine x_lt rfl (by omega) (by omega) (fun w => ?_) (fun w => ?_)
    · repeat refine x_step rfl ?_
      exact x_iret rfl rfl (by unfold aoS; simp only [c0_0, at_0]; rw [if_neg (by omega)]) rfl
    · repeat refine x_step rfl ?_
      refine x_le rfl (by omega) (by omega) (fun w2 => ?_) (fun w2 => ?_)
      · repeat refine x_step rfl ?_
        exact x_iret rfl rfl (by unfold aoS; simp only [c0_0, at_0]; rw [if_pos (by omega)]; omega) rfl
      · repeat refine x_step rfl ?_
        exact x_iret rfl rfl (by unfold aoS; simp only [c0_0, at_0]; rw [if_neg (by omega)]) rfl
  · repeat refine x_step rfl ?_
    refine x_div rfl (by omega) (by omega) (by omega) (by omega) ?_
    repeat refine x_step rfl ?_
    refine x_eq rfl (by omega) (by omega) (fun w => absurd w (by omega)) (fun _ => ?_)
    repeat refine x_step rfl ?_
    refine x_rem rfl (by omega) (by omega) (by omega) (by omega) ?_
    repeat refine x_step rfl ?_
    refine x_eq rfl (by omega) (by omega) (fun w => absurd w (by omega)) (fun _ => ?_)
    repeat refine x_step rfl ?_
    refine x_lt rfl (by omega) (by omega) (fun w => ?_) (fun w => ?_)
    · repeat refine x_step rfl ?_
      exact x_iret rfl rfl (by unfold aoS; simp only [c0_1, at_1]; rw [if_neg (by omega)]) rfl
    · repeat refine x_step rfl ?_
      refine x_lt rfl (by omega) (by omega) (fun w2 => ?_) (fun w2 => ?_)
      · repeat refine x_step rfl ?_
        exact x_iret rfl rfl (by unfold aoS; simp only [c0_1, at_1]; rw [if_neg (by omega)]) rfl
      · repeat refine x_step rfl ?_
        refine x_lt rfl (by omega) (by omega) (fun w => by omega) (fun _ => ?_)
        repeat refine x_step rfl ?_
        refine x_le rfl (by omega) (by omega) (fun _ => ?_) (fun w => absurd (by omega) w)
        repeat refine x_step rfl ?_
        exact x_iret rfl rfl (by unfold aoS; simp only [c0_1, at_1]; rw [if_pos (by omega)]; omega) rfl
theorem cL_square (h : XH) (x : Int) (h0 : 0 ≤ x) (h1 : x ≤ 80) : XR mL_square [.inl x] h (some (.inl (if 0 ≤ x - 4 then x - 4 else 0 - (x - 4)))) h := by
  refine XRa.of (by decide) (Nat.le_of_ble_eq_true rfl) ?_
  obtain ⟨n, r, I⟩ := h
  repeat refine x_step rfl ?_
  refine x_le rfl (by omega) (by omega) (fun hc => ?_) (fun hc => ?_)
  · repeat refine x_step rfl ?_
    exact x_iret rfl rfl (by rw [if_pos (by omega)]) rfl
  · repeat refine x_step rfl ?_
    exact x_iret rfl rfl (by rw [if_neg (by omega)]; omega) rfl
/-- 1 for a letter square, 2 for a word square -/
def kdS (q : Int) : Int := if zwsS q = 1 then 2 else if zlsS q = 1 then 1 else 0
theorem cL_kind (h : XH) (q : Int) (h0 : 0 ≤ q) (h1 : q ≤ 80) : XR mL_kind [.inl q] h (some (.inl (kdS q))) h := by
  refine XRa.of (by decide) (Nat.le_of_ble_eq_true rfl) ?_
  obtain ⟨n, r, I⟩ := h
  repeat refine x_step rfl ?_
  refine x_div rfl (by omega) (by omega) (by omega) (by omega) ?_
  refine x_call rfl (cL_square _ (q / 9) (by omega) (by omega)) ?_
  repeat refine x_step rfl ?_
  refine x_rem rfl (by omega) (by omega) (by omega) (by omega) ?_
  refine x_call rfl (cL_square _ (q % 9) (by omega) (by omega)) ?_
  have hk : kdS q = (if (if 0 ≤ q / 9 - 4 then q / 9 - 4 else 0 - (q / 9 - 4)) = (if 0 ≤ q % 9 - 4 then q % 9 - 4 else 0 - (q % 9 - 4)) ∧ 0 < (if 0 ≤ q / 9 - 4 then q / 9 - 4 else 0 - (q / 9 - 4)) then 2 else if (if 0 ≤ q / 9 - 4 then q / 9 - 4 else 0 - (q / 9 - 4)) + (if 0 ≤ q % 9 - 4 then q % 9 - 4 else 0 - (q % 9 - 4)) = 4 then 1 else 0) := by
    unfold kdS zwsS zlsS
    generalize (if 0 ≤ q / 9 - 4 then q / 9 - 4 else 0 - (q / 9 - 4)) = u
    generalize (if 0 ≤ q % 9 - 4 then q % 9 - 4 else 0 - (q % 9 - 4)) = v
    by_cases w : u = v ∧ 0 < u
    · rw [if_pos w, if_pos rfl, if_pos w]
    · rw [if_neg w, if_neg (by omega), if_neg w]
      by_cases w2 : u + v = 4
      · rw [if_pos (show u + v = 4 ∧ u ≠ 2 from ⟨w2, by omega⟩), if_pos rfl, if_pos w2]
      · rw [if_neg (show ¬ (u + v = 4 ∧ u ≠ 2) from fun g => w2 g.1), if_neg (by omega), if_neg w2]
  have u1 : 0 ≤ (if 0 ≤ q / 9 - 4 then q / 9 - 4 else 0 - (q / 9 - 4)) ∧ (if 0 ≤ q / 9 - 4 then q / 9 - 4 else 0 - (q / 9 - 4)) ≤ 80 := by split <;> omega
  have v1 : 0 ≤ (if 0 ≤ q % 9 - 4 then q % 9 - 4 else 0 - (q % 9 - 4)) ∧ (if 0 ≤ q % 9 - 4 then q % 9 - 4 else 0 - (q % 9 - 4)) ≤ 80 := by split <;> omega
  rw [hk]
  generalize (if 0 ≤ q / 9 - 4 then q / 9 - 4 else 0 - (q / 9 - 4)) = u at *
  generalize (if 0 ≤ q % 9 - 4 then q % 9 - 4 else 0 - (q % 9 - 4)) = v at *
  repeat refine x_step rfl ?_
  have low : ∀ L : XL, ¬ (u = v ∧ 0 < u) → xsub L [(1, .inl u), (2, .inl v)] → XE mL_kind (some (.inl (if u = v ∧ 0 < u then 2 else if u + v = 4 then 1 else 0))) (n, r, I) 29 L [] (n, r, I) := by
    intro L w hL
    refine x_loc hL ?_
    rw [if_neg w]
    repeat refine x_step rfl ?_
    refine x_eq rfl (by omega) (by omega) (fun w2 => ?_) (fun w2 => ?_)
    · repeat refine x_step rfl ?_
      exact x_iret rfl rfl (by rw [if_pos w2]) rfl
    · repeat refine x_step rfl ?_
      exact x_iret rfl rfl (by rw [if_neg w2]) rfl
  refine x_eq rfl (by omega) (by omega) (fun w => ?_) (fun w => low _ (fun g => w g.1) (by exact ⟨rfl, rfl, trivial⟩))
  repeat refine x_step rfl ?_
  refine x_le rfl (by omega) (by omega) (fun w2 => low _ (fun g => by omega) (by exact ⟨rfl, rfl, trivial⟩)) (fun w2 => ?_)
  repeat refine x_step rfl ?_
  exact x_iret rfl rfl (by rw [if_pos ⟨w, by omega⟩]) rfl
theorem cL_value (h : XH) (x : Int) (h1 : 1 ≤ x) (h8 : x ≤ 8) : XR mL_value [.inl x] h (some (.inl (vlS x))) h := by
  refine XRa.of (by decide) (Nat.le_of_ble_eq_true rfl) ?_
  obtain ⟨n, r, I⟩ := h
  repeat refine x_step rfl ?_
  refine x_eq rfl (by omega) (by omega) (fun w => ?_) (fun w1 => ?_)
  · repeat refine x_step rfl ?_
    exact x_iret rfl rfl (by rw [w]; decide +kernel) rfl
  · repeat refine x_step rfl ?_
    refine x_eq rfl (by omega) (by omega) (fun w => ?_) (fun w5 => ?_)
    · repeat refine x_step rfl ?_
      exact x_iret rfl rfl (by rw [w]; decide +kernel) rfl
    · repeat refine x_step rfl ?_
      refine x_eq rfl (by omega) (by omega) (fun w => ?_) (fun w2 => ?_)
      · repeat refine x_step rfl ?_
        exact x_iret rfl rfl (by rw [w]; decide +kernel) rfl
      · repeat refine x_step rfl ?_
        refine x_eq rfl (by omega) (by omega) (fun w => ?_) (fun w4 => ?_)
        · repeat refine x_step rfl ?_
          exact x_iret rfl rfl (by rw [w]; decide +kernel) rfl
        · repeat refine x_step rfl ?_
          refine x_eq rfl (by omega) (by omega) (fun w => ?_) (fun w3 => ?_)
          · repeat refine x_step rfl ?_
            exact x_iret rfl rfl (by rw [w]; decide +kernel) rfl
          · repeat refine x_step rfl ?_
            refine x_eq rfl (by omega) (by omega) (fun w => ?_) (fun w7 => ?_)
            · repeat refine x_step rfl ?_
              exact x_iret rfl rfl (by rw [w]; decide +kernel) rfl
            · repeat refine x_step rfl ?_
              have hx : x = 6 ∨ x = 8 := by omega
              rcases hx with rfl | rfl
              · exact x_iret rfl rfl (by decide +kernel) rfl
              · exact x_iret rfl rfl (by decide +kernel) rfl
section LAW1
variable {I : Nat → Int → Int}
theorem cL_tile (h : SIM I) (a : Int) (h0 : -1 ≤ a) (h1 : a ≤ 80) : XR mL_tile [.inr 3, .inl a] (hN I) (some (.inl (if a < 0 then 0 else I 118 a))) (hN I) := by
  refine XRa.of (by decide) (Nat.le_of_ble_eq_true rfl) ?_
  repeat refine x_step rfl ?_
  refine x_le rfl (by omega) (by omega) (fun w => ?_) (fun w => ?_)
  · repeat refine x_step rfl ?_
    refine x_call rfl (B_tile h a (by omega) h1) ?_
    exact x_iret rfl rfl (by rw [if_neg (by omega)]) rfl
  · repeat refine x_step rfl ?_
    exact x_iret rfl rfl (by rw [if_pos (by omega)]) rfl
theorem ao_lf {b : Int → Int} {q d k : Int} (h0 : 0 ≤ q) (h1 : q ≤ 80) (hd : d = 0 ∨ d = 1) : (if aoS q d k < 0 then 0 else b (aoS q d k)) = lfS b q d k := by
  rw [lf_at hd h0 h1]
  unfold aoS
  by_cases w : 0 ≤ c0S q d + k ∧ c0S q d + k ≤ 8
  · have h2 := at_in h0 h1 hd w.1 w.2
    rw [if_pos w, if_pos w, if_neg (by omega)]
  · rw [if_neg w, if_neg w, if_pos (by omega)]
/-- the tile that stands some steps further -/
theorem cL_far (h : SIM I) (q d k : Int) (h0 : 0 ≤ q) (h1 : q ≤ 80) (hd : d = 0 ∨ d = 1) : XR mL_tile [.inr 3, .inl (aoS q d k)] (hN I) (some (.inl (lfS (I 118) q d k))) (hN I) := by
  have r := aoS_R (k := k) h0 h1 hd
  rw [← ao_lf h0 h1 hd]
  exact cL_tile h _ r.1 r.2
def inK (I : Nat → Int → Int) (c k : Int) : Prop := ∃ j, 0 ≤ j ∧ j < k ∧ I 118 (113 + j) = c
theorem cL_isInList (h : SIM I) (c : Int) (hc : InR c) : XR mL_isInList [.inr 3, .inl c] (hN I) (some (.inl (sel (inM I c) 1 0))) (hN I) := by
  have hmn := h.1.2.mn
  have hwd := h.1.2.wd
  refine XRa.of (by decide) (Nat.le_of_ble_eq_true rfl) ?_
  have loop : ∀ (n : Nat) (k is : Int), k + n = I 118 112 → 0 ≤ k → is = sel (inK I c k) 1 0 → XE mL_isInList (some (.inl (sel (inM I c) 1 0))) (hN I) 7 [(3, .inl k), (2, .inl is), (1, .inl c), (0, .inr 3)] [.inl 0, .inr 3, .inl k] (hN I) := by
    intro n
    induction n with
    | zero =>
      intro k is e1 e2 e3
      refine x_call rfl (B_count0 h) ?_
      refine x_le rfl (by omega) (by omega) (fun _ => ?_) (fun w => absurd (by omega) w)
      repeat refine x_step rfl ?_
      have e : k = I 118 112 := by omega
      rw [e] at e3
      exact x_zret rfl rfl e3 (by rw [e3]; exact sel01.symm) rfl
    | succ n ih =>
      intro k is e1 e2 e3
      have ek : (k + 1 : Int) + n = I 118 112 := by omega
      refine x_call rfl (B_count0 h) ?_
      refine x_le rfl (by omega) (by omega) (fun w => absurd w (by omega)) (fun _ => ?_)
      repeat refine x_step rfl ?_
      by_cases hk : inK I c k
      · rw [sel_pos hk] at e3
        have hk1 : inK I c (k + 1) := by
          obtain ⟨j, j0, j1, j2⟩ := hk
          exact ⟨j, j0, by omega, j2⟩
        refine x_eq rfl (by omega) (by omega) (fun w => absurd w (by omega)) (fun _ => ?_)
        repeat refine x_step rfl ?_
        exact x_loc (by exact ⟨rfl, rfl, rfl, rfl, trivial⟩) (ih (k + 1) 1 ek (by omega) (sel_pos hk1).symm)
      · rw [sel_neg hk] at e3
        refine x_eq rfl (by omega) (by omega) (fun _ => ?_) (fun w => absurd e3 w)
        repeat refine x_step rfl ?_
        refine x_call rfl (B_word h k e2 (by omega)) ?_
        repeat refine x_step rfl ?_
        refine x_eq rfl (hwd k e2 (by omega)).2 hc (fun w => ?_) (fun w => ?_)
        · repeat refine x_step rfl ?_
          exact x_loc (by exact ⟨rfl, rfl, rfl, rfl, trivial⟩) (ih (k + 1) 1 ek (by omega) (sel_pos ⟨k, e2, by omega, w⟩).symm)
        · repeat refine x_step rfl ?_
          refine x_loc (by exact ⟨rfl, rfl, rfl, rfl, trivial⟩) (ih (k + 1) 0 ek (by omega) (sel_neg ?_).symm)
          rintro ⟨j, j0, j1, j2⟩
          by_cases g : j = k
          · rw [g] at j2
            exact w j2
          · exact hk ⟨j, j0, by omega, j2⟩
  repeat refine x_step rfl ?_
  refine x_loc (by exact ⟨rfl, rfl, rfl, rfl, trivial⟩) (loop (I 118 112).toNat 0 0 (by omega) (by omega) (sel_neg ?_).symm)
  rintro ⟨j, j0, j1, -⟩
  omega
theorem cL_isAnchor (h : SIM I) (q : Int) (h0 : 0 ≤ q) (h1 : q ≤ 80) : XR mL_isAnchor [.inr 3, .inl q] (hN I) (some (.inl (anS (I 118) q))) (hN I) := by
  have hb := h.1.2.bd
  have a0 := lfS_R hb q 0 (-1)
  have a1 := lfS_R hb q 0 1
  have a2 := lfS_R hb q 1 (-1)
  have a3 := lfS_R hb q 1 1
  have ht := toS_R (I 118)
  have hq := hb q h0 h1
  refine XRa.of (by decide) (Nat.le_of_ble_eq_true rfl) ?_
  repeat refine x_step rfl ?_
  refine x_le rfl (by omega) (by omega) (fun w => absurd w (by omega)) (fun _ => ?_)
  repeat refine x_step rfl ?_
  refine x_call rfl (cL_further _ q 1 (-1) h0 h1 (Or.inr rfl) (by omega)) ?_
  refine x_call rfl (cL_far h q 1 (-1) h0 h1 (Or.inr rfl)) ?_
  repeat refine x_step rfl ?_
  refine x_call rfl (cL_further _ q 0 (-1) h0 h1 (Or.inl rfl) (by omega)) ?_
  refine x_call rfl (cL_far h q 0 (-1) h0 h1 (Or.inl rfl)) ?_
  repeat refine x_step rfl ?_
  refine x_le rfl (by omega) (by omega) (fun w => absurd w (by omega)) (fun _ => ?_)
  repeat refine x_step rfl ?_
  refine x_call rfl (cL_further _ q 1 (-1 + 2) h0 h1 (Or.inr rfl) (by omega)) ?_
  refine x_call rfl (cL_far h q 1 (-1 + 2) h0 h1 (Or.inr rfl)) ?_
  repeat refine x_step rfl ?_
  refine x_call rfl (cL_further _ q 0 (-1 + 2) h0 h1 (Or.inl rfl) (by omega)) ?_
  refine x_call rfl (cL_far h q 0 (-1 + 2) h0 h1 (Or.inl rfl)) ?_
  rw [show (-1 : Int) + 2 = 1 by rfl]
  repeat refine x_step rfl ?_
  refine x_le rfl (by omega) (by omega) (fun _ => ?_) (fun w => absurd (by omega) w)
  repeat refine x_step rfl ?_
  refine x_call rfl (B_tile h q h0 h1) ?_
  have yes : ∀ L : XL, I 118 q = 0 → (lfS (I 118) q 0 (-1) ≠ 0 ∨ lfS (I 118) q 0 1 ≠ 0 ∨ lfS (I 118) q 1 (-1) ≠ 0 ∨ lfS (I 118) q 1 1 ≠ 0 ∨ (q = 40 ∧ toS (I 118) = 0)) → XE mL_isAnchor (some (.inl (anS (I 118) q))) (hN I) 65 L [] (hN I) := by
    intro L g1 g2
    have e : anS (I 118) q = 1 := if_pos ⟨g1, g2⟩
    rw [e]
    repeat refine x_step rfl ?_
    exact x_zret rfl rfl rfl (Or.inr rfl) rfl
  have no : ∀ L : XL, ¬ (I 118 q = 0 ∧ (lfS (I 118) q 0 (-1) ≠ 0 ∨ lfS (I 118) q 0 1 ≠ 0 ∨ lfS (I 118) q 1 (-1) ≠ 0 ∨ lfS (I 118) q 1 1 ≠ 0 ∨ (q = 40 ∧ toS (I 118) = 0))) → XE mL_isAnchor (some (.inl (anS (I 118) q))) (hN I) 69 L [] (hN I) := by
    intro L g
    have e : anS (I 118) q = 0 := if_neg g
    rw [e]
    repeat refine x_step rfl ?_
    exact x_zret rfl rfl rfl (Or.inl rfl) rfl
  refine x_eq rfl (by omega) (by omega) (fun w => ?_) (fun w => no _ (fun g => w g.1))
  repeat refine x_step rfl ?_
  refine x_lt rfl (by omega) (by omega) (fun w2 => yes _ w (by omega)) (fun w2 => ?_)
  repeat refine x_step rfl ?_
  refine x_eq rfl (by omega) (by omega) (fun w3 => ?_) (fun w3 => no _ (by omega))
  repeat refine x_step rfl ?_
  refine x_call rfl (B_count1 h) ?_
  refine x_eq rfl (by omega) (by omega) (fun w4 => ?_) (fun w4 => no _ (by omega))
  exact yes _ w (by omega)
end LAW1
