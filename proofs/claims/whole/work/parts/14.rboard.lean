/-! the reference's board: its row of numbers 118 -/
def c0S (q d : Int) : Int := if d = 0 then q % 9 else q / 9
def atS (q d k : Int) : Int := q + (if d = 0 then k else 9 * k)
theorem c0_0 (q : Int) : c0S q 0 = q % 9 := if_pos rfl
theorem c0_1 (q : Int) : c0S q 1 = q / 9 := if_neg (by omega)
theorem at_0 (q k : Int) : atS q 0 k = q + k := by unfold atS; rw [if_pos rfl]
theorem at_1 (q k : Int) : atS q 1 k = q + 9 * k := by unfold atS; rw [if_neg (by omega)]
theorem lfC {b : Int → Int} {q d k : Int} (h0 : 0 ≤ q) (h1 : q ≤ 80) (hd : d = 0 ∨ d = 1) (h : lfS b q d k ≠ 0) : 0 ≤ c0S q d + k ∧ c0S q d + k ≤ 8 := lfS_in h0 h1 hd h
def bsS (q d k : Int) : Int := if 0 ≤ c0S q d + k ∧ c0S q d + k ≤ 8 then atS q d k else -1
def htS (b : Int → Int) (a : Int) : Int := if 0 ≤ a ∧ 0 < b a then 1 else 0
theorem htS01 (b : Int → Int) (a : Int) : htS b a = 0 ∨ htS b a = 1 := if01
theorem cM_beside (h : XH) (q d k : Int) (h0 : 0 ≤ q) (h1 : q ≤ 80) (hd : d = 0 ∨ d = 1) (hk : k = -1 ∨ k = 1) : XR mM_beside [.inl q, .inl d, .inl k] h (some (.inl (bsS q d k))) h := by
  refine XRa.of (by decide) (Nat.le_of_ble_eq_true rfl) ?_
  obtain ⟨n, r, I⟩ := h
  repeat refine x_step rfl ?_
  rcases hd with rfl | rfl
  · refine x_eq rfl (by omega) (by omega) (fun hc => ?_) (fun hc => absurd rfl hc)
    repeat refine x_step rfl ?_
    refine x_rem rfl (by omega) (by omega) (by omega) (by omega) ?_
    repeat refine x_step rfl ?_
    refine x_call rfl (c_in _ (q % 9 + k) 0 8 (by omega) (by omega) (by omega)) ?_
    refine x_eq rfl (by omega) (by omega) (fun hc => ?_) (fun hc => ?_)
    · repeat refine x_step rfl ?_
      exact x_iret rfl rfl (by simp only [bsS, c0_0]; omega) rfl
    · repeat refine x_step rfl ?_
      refine x_eq rfl (by omega) (by omega) (fun hc => ?_) (fun hc => absurd rfl hc)
      repeat refine x_step rfl ?_
      exact x_iret rfl rfl (by simp only [bsS, c0_0, at_0]; omega) rfl
  · refine x_eq rfl (by omega) (by omega) (fun hc => absurd hc (by omega)) (fun hc => ?_)
    repeat refine x_step rfl ?_
    refine x_div rfl (by omega) (by omega) (by omega) (by omega) ?_
    repeat refine x_step rfl ?_
    refine x_call rfl (c_in _ (q / 9 + k) 0 8 (by omega) (by omega) (by omega)) ?_
    refine x_eq rfl (by omega) (by omega) (fun hc => ?_) (fun hc => ?_)
    · repeat refine x_step rfl ?_
      exact x_iret rfl rfl (by simp only [bsS, c0_1]; omega) rfl
    · repeat refine x_step rfl ?_
      refine x_eq rfl (by omega) (by omega) (fun hc => absurd hc (by omega)) (fun hc => ?_)
      repeat refine x_step rfl ?_
      exact x_iret rfl rfl (by simp only [bsS, c0_1, at_1]; omega) rfl
theorem cM_hasTile (I : Nat → Int → Int) (hb : bdR (I 118)) (a : Int) (h0 : -1 ≤ a) (h1 : a ≤ 80) : XR mM_hasTile [.inr 117, .inl a] (hN I) (some (.inl (htS (I 118) a))) (hN I) := by
  refine XRa.of (by decide) (Nat.le_of_ble_eq_true rfl) ?_
  repeat refine x_step rfl ?_
  refine x_lt rfl (by omega) (by omega) (fun hc => ?_) (fun hc => ?_)
  · repeat refine x_step rfl ?_
    exact x_zret rfl rfl (by unfold htS; rw [if_neg (by omega)]) (Or.inl rfl) rfl
  · repeat refine x_step rfl ?_
    refine x_ald (len := 132) rfl (by omega) (by omega) ?_
    have := hb a (by omega) (by omega)
    refine x_le rfl (by omega) (by omega) (fun hd => ?_) (fun hd => ?_)
    · repeat refine x_step rfl ?_
      exact x_zret rfl rfl (by unfold htS; rw [if_neg (by omega)]) (Or.inl rfl) rfl
    · repeat refine x_step rfl ?_
      exact x_zret rfl rfl (by unfold htS; rw [if_pos (by omega)]) (Or.inr rfl) rfl
theorem at_in {q d k : Int} (h0 : 0 ≤ q) (h1 : q ≤ 80) (hd : d = 0 ∨ d = 1) (hi : 0 ≤ c0S q d + k) (hi2 : c0S q d + k ≤ 8) : 0 ≤ atS q d k ∧ atS q d k ≤ 80 ∧ c0S (atS q d k) d = c0S q d + k := by
  rcases hd with rfl | rfl
  · simp only [c0_0, at_0] at *
    omega
  · simp only [c0_1, at_1] at *
    omega
theorem lf_at {b : Int → Int} {q d k : Int} (hd : d = 0 ∨ d = 1) (h0 : 0 ≤ q) (h1 : q ≤ 80) : lfS b q d k = if 0 ≤ c0S q d + k ∧ c0S q d + k ≤ 8 then b (atS q d k) else 0 := by
  unfold lfS
  rcases hd with rfl | rfl
  · simp only [if_true, c0_0, at_0]
    by_cases w : 0 ≤ q % 9 + k ∧ q % 9 + k ≤ 8
    · rw [if_pos w, if_pos (by omega), show 9 * (q / 9 + 0) + (q % 9 + k) = q + k by omega]
    · rw [if_neg w, if_neg (by omega)]
  · simp only [show ¬ (1 : Int) = 0 by omega, if_false, c0_1, at_1]
    by_cases w : 0 ≤ q / 9 + k ∧ q / 9 + k ≤ 8
    · rw [if_pos w, if_pos (by omega), show 9 * (q / 9 + k) + (q % 9 + 0) = q + 9 * k by omega]
    · rw [if_neg w, if_neg (by omega)]
/-- the square at an offset, -1 beyond the board -/
def aoS (q d k : Int) : Int := if 0 ≤ c0S q d + k ∧ c0S q d + k ≤ 8 then atS q d k else -1
theorem aoS_R {q d k : Int} (h0 : 0 ≤ q) (h1 : q ≤ 80) (hd : d = 0 ∨ d = 1) : -1 ≤ aoS q d k ∧ aoS q d k ≤ 80 := by
  unfold aoS
  by_cases w : 0 ≤ c0S q d + k ∧ c0S q d + k ≤ 8
  · rw [if_pos w]
    have := at_in h0 h1 hd w.1 w.2
    omega
  · rw [if_neg w]
    omega
theorem ht_ao {b : Int → Int} (hb : bdR b) {q d k : Int} (h0 : 0 ≤ q) (h1 : q ≤ 80) (hd : d = 0 ∨ d = 1) : (htS b (aoS q d k) = 0 ↔ lfS b q d k = 0) := by
  rw [lf_at hd h0 h1]
  unfold aoS htS
  by_cases w : 0 ≤ c0S q d + k ∧ c0S q d + k ≤ 8
  · rw [if_pos w, if_pos w]
    have h2 := at_in h0 h1 hd w.1 w.2
    have h3 := hb (atS q d k) h2.1 h2.2.1
    by_cases w2 : b (atS q d k) = 0
    · rw [if_neg (by omega)]
      simp [w2]
    · rw [if_pos (by omega)]
      simp [w2]
  · rw [if_neg w, if_neg w, if_neg (by omega)]
theorem bs_at {q d k s : Int} (h0 : 0 ≤ q) (h1 : q ≤ 80) (hd : d = 0 ∨ d = 1) (hi : 0 ≤ c0S q d + k) (hi2 : c0S q d + k ≤ 8) : bsS (atS q d k) d s = aoS q d (k + s) := by
  have h2 := at_in h0 h1 hd hi hi2
  unfold bsS aoS
  rw [h2.2.2, show c0S q d + k + s = c0S q d + (k + s) by omega]
  have e : atS (atS q d k) d s = atS q d (k + s) := by
    rcases hd with rfl | rfl
    · simp only [at_0]; omega
    · simp only [at_1]; omega
  rw [e]
theorem c0_R {q d : Int} (h0 : 0 ≤ q) (h1 : q ≤ 80) : 0 ≤ c0S q d ∧ c0S q d ≤ 8 := by
  unfold c0S
  split <;> omega
theorem cM_begin (I : Nat → Int → Int) (hb : bdR (I 118)) (q d : Int) (h0 : 0 ≤ q) (h1 : q ≤ 80) (hd : d = 0 ∨ d = 1) : XR mM_begin [.inr 117, .inl q, .inl d] (hN I) (some (.inl (atS q d (bkS (lfS (I 118) q d) 9 0)))) (hN I) := by
  refine XRa.of (by decide) (Nat.le_of_ble_eq_true rfl) ?_
  have hc := c0_R (d := d) h0 h1
  have loop : ∀ (n : Nat) (k w : Int), k + 9 = n → k ≤ 0 → 0 ≤ c0S q d + k → w = atS q d (bkS (lfS (I 118) q d) n k) → XE mM_begin (some (.inl w)) (hN I) 13 [(4, .inl (aoS q d (k - 1))), (3, .inl (atS q d k)), (2, .inl d), (1, .inl q), (0, .inr 117)] [.inl (aoS q d (k - 1)), .inr 117] (hN I) := by
    intro n
    induction n with
    | zero => intro k w hk hk2 hk3 hw; omega
    | succ n ih =>
      intro k w hk hk2 hk3 hw
      unfold bkS at hw
      have r1 := aoS_R (k := k - 1) h0 h1 hd
      refine x_call rfl (cM_hasTile I hb _ r1.1 r1.2) ?_
      have r2 := htS01 (I 118) (aoS q d (k - 1))
      have r3 := ht_ao hb (k := k - 1) h0 h1 hd
      refine x_eq rfl (by omega) (by omega) (fun hz => ?_) (fun hz => ?_)
      · rw [if_pos (r3.mp hz)] at hw
        repeat refine x_step rfl ?_
        exact x_iret rfl rfl hw.symm rfl
      · rw [if_neg (fun w => hz (r3.mpr w))] at hw
        have hin : lfS (I 118) q d (k - 1) ≠ 0 := fun w => hz (r3.mpr w)
        have hi := lfC h0 h1 hd hin
        have ea : aoS q d (k - 1) = atS q d (k - 1) := by unfold aoS; rw [if_pos hi]
        rw [ea]
        repeat refine x_step rfl ?_
        have r4 := at_in h0 h1 hd hi.1 hi.2
        refine x_call rfl (cM_beside _ (atS q d (k - 1)) d (-1) r4.1 r4.2.1 hd (Or.inl rfl)) ?_
        rw [bs_at h0 h1 hd hi.1 hi.2]
        repeat refine x_step rfl ?_
        exact x_loc (by exact ⟨rfl, rfl, rfl, rfl, rfl, trivial⟩) (ih (k - 1) w (by omega) (by omega) (by omega) hw)
  repeat refine x_step rfl ?_
  refine x_call rfl (cM_beside _ q d (-1) h0 h1 hd (Or.inl rfl)) ?_
  have e0 : atS q d 0 = q := by unfold atS; split <;> omega
  have e1 : bsS q d (-1) = aoS q d (0 - 1) := by
    have := bs_at (k := 0) (s := -1) h0 h1 hd (by omega) (by omega)
    rw [e0] at this
    rw [this]
    rfl
  rw [e1]
  repeat refine x_step rfl ?_
  exact x_loc (by exact ⟨rfl, xsi e0.symm, rfl, rfl, rfl, trivial⟩) (loop 9 0 _ rfl (by omega) (by omega) rfl)
theorem fwS_pos {f : Int → Int} {x : Int} (hf : ∀ k, 0 ≤ f k) (hx : 0 ≤ x) : ∀ (n : Nat) (k cd m : Int), 0 ≤ cd → (1 ≤ m → 1 ≤ cd) → 0 ≤ m → 0 ≤ (fwS f x n k cd m).2 ∧ (1 ≤ (fwS f x n k cd m).2 → 1 ≤ (fwS f x n k cd m).1) := by
  intro n
  induction n with
  | zero => intro k cd m h1 h2 h3; exact ⟨h3, h2⟩
  | succ n ih =>
    intro k cd m h1 h2 h3
    unfold fwS
    by_cases hz : (if k = 0 then x else f k) = 0
    · rw [if_pos hz]; exact ⟨h3, h2⟩
    · rw [if_neg hz]
      have hv : 0 ≤ (if k = 0 then x else f k) := by
        split
        · exact hx
        · exact hf k
      exact ih _ _ _ (by omega) (by omega) (by omega)
theorem rnF_0 {f : Int → Int} {x : Int} (hf : ∀ k, 0 ≤ f k) (hx : 0 ≤ x) (k0 : Int) : (rnF f x k0 = 0 ↔ ¬ 2 ≤ (fwS f x (9 - k0).toNat k0 0 0).2) := by
  have := fwS_pos hf hx (9 - k0).toNat k0 0 0 (by omega) (by omega) (by omega)
  unfold rnF
  split <;> omega
theorem cM_runWith (I : Nat → Int → Int) (hb : bdR (I 118)) (q d x : Int) (h0 : 0 ≤ q) (h1 : q ≤ 80) (hd : d = 0 ∨ d = 1) (hx : 1 ≤ x ∧ x ≤ 8) : XR mM_runWith [.inr 117, .inl q, .inl d, .inl x] (hN I) (some (.inl (if rnS (I 118) q d x = 0 then -5 else rnS (I 118) q d x))) (hN I) := by
  refine XRa.of (by decide) (Nat.le_of_ble_eq_true rfl) ?_
  have hc := c0_R (d := d) h0 h1
  have hlf := lfS_R hb q d
  have fin : ∀ (cd m w : Int), 0 ≤ m → m ≤ 20 → w = (if 2 ≤ m then cd else -5) → XE mM_runWith (some (.inl w)) (hN I) 72 [(5, .inl m), (4, .inl cd)] [.inl 1, .inl m] (hN I) := by
    intro cd m w h1 h2 hw
    refine x_le rfl (by omega) (by omega) (fun hl => ?_) (fun hl => ?_)
    · repeat refine x_step rfl ?_
      exact x_iret rfl rfl (by rw [hw, if_neg (by omega)]) rfl
    · repeat refine x_step rfl ?_
      exact x_iret rfl rfl (by rw [hw, if_pos (by omega)]) rfl
  have loop : ∀ (n : Nat) (k cd m w : Int), k + n = 9 → 0 ≤ c0S q d + k → c0S q d + k ≤ 9 → 0 ≤ m → m + n ≤ 20 → w = (if 2 ≤ (fwS (lfS (I 118) q d) x n k cd m).2 then (fwS (lfS (I 118) q d) x n k cd m).1 else -5) → XE mM_runWith (some (.inl w)) (hN I) 17 [(6, .inl (aoS q d k)), (5, .inl m), (4, .inl cd), (3, .inl x), (2, .inl d), (1, .inl q), (0, .inr 117)] [.inl q, .inl (aoS q d k)] (hN I) := by
    intro n
    induction n with
    | zero =>
      intro k cd m w hk hk2 hk3 hm hm2 hw
      have e : aoS q d k = -1 := by unfold aoS; rw [if_neg (by omega)]
      rw [e]
      unfold fwS at hw
      refine x_eq rfl (by omega) (by omega) (fun hc => absurd hc (by omega)) (fun hc => ?_)
      repeat refine x_step rfl ?_
      refine x_call rfl (cM_hasTile I hb (-1) (by omega) (by omega)) ?_
      have e2 : htS (I 118) (-1) = 0 := by unfold htS; rw [if_neg (by omega)]
      rw [e2]
      refine x_eq rfl (by omega) (by omega) (fun hc => ?_) (fun hc => absurd rfl hc)
      repeat refine x_step rfl ?_
      exact x_loc (by exact ⟨rfl, rfl, trivial⟩) (fin cd m w hm (by omega) hw)
    | succ n ih =>
      intro k cd m w hk hk2 hk3 hm hm2 hw
      unfold fwS at hw
      have r1 := aoS_R (k := k) h0 h1 hd
      have r2 := htS01 (I 118) (aoS q d k)
      have r3 := ht_ao hb (k := k) h0 h1 hd
      have ek : aoS q d k = q ↔ k = 0 := by
        unfold aoS
        by_cases w : 0 ≤ c0S q d + k ∧ c0S q d + k ≤ 8
        · rw [if_pos w]
          unfold atS
          split <;> omega
        · rw [if_neg w]
          omega
      -- the loop's body, the letter nx at hand
      have J : ∀ nx : Int, nx = (if k = 0 then x else lfS (I 118) q d k) → nx ≠ 0 → c0S q d + k ≤ 8 → XE mM_runWith (some (.inl w)) (hN I) 61 [(6, .inl (aoS q d k)), (5, .inl (m + 1)), (4, .inl (9 * cd + nx)), (3, .inl x), (2, .inl d), (1, .inl q), (0, .inr 117)] [.inl 1, .inl d, .inl (aoS q d k)] (hN I) := by
        intro nx hnx hnz hk4
        rw [← hnx, if_neg hnz, show cd * 9 + nx = 9 * cd + nx by omega] at hw
        have ea : aoS q d k = atS q d k := by unfold aoS; rw [if_pos ⟨hk2, hk4⟩]
        have r4 := at_in h0 h1 hd hk2 hk4
        rw [ea]
        refine x_call rfl (cM_beside _ (atS q d k) d 1 r4.1 r4.2.1 hd (Or.inr rfl)) ?_
        rw [bs_at h0 h1 hd hk2 hk4]
        repeat refine x_step rfl ?_
        exact x_loc (by exact ⟨rfl, rfl, rfl, rfl, rfl, rfl, rfl, trivial⟩) (ih (k + 1) (9 * cd + nx) (m + 1) w (by omega) (by omega) (by omega) (by omega) (by omega) hw)
      refine x_eq rfl (by omega) (by omega) (fun hz => ?_) (fun hz => ?_)
      · have hk0 := ek.mp hz
        repeat refine x_step rfl ?_
        refine x_eq rfl (by omega) (by omega) (fun hz2 => ?_) (fun hz2 => absurd hz hz2)
        repeat refine x_step rfl ?_
        exact x_loc (by exact ⟨rfl, rfl, rfl, rfl, rfl, rfl, rfl, trivial⟩) (J x (by rw [if_pos hk0]) (by omega) (by omega))
      · have hk0 : ¬ k = 0 := fun w => hz (ek.mpr w)
        rw [if_neg hk0] at hw
        repeat refine x_step rfl ?_
        refine x_call rfl (cM_hasTile I hb _ r1.1 r1.2) ?_
        refine x_eq rfl (by omega) (by omega) (fun hz2 => ?_) (fun hz2 => ?_)
        · rw [if_pos (r3.mp hz2)] at hw
          repeat refine x_step rfl ?_
          exact x_loc (by exact ⟨rfl, rfl, trivial⟩) (fin cd m w hm (by omega) hw)
        · have hnz : lfS (I 118) q d k ≠ 0 := fun w => hz2 (r3.mpr w)
          have hi := lfC h0 h1 hd hnz
          have ea : aoS q d k = atS q d k := by unfold aoS; rw [if_pos hi]
          have r4 := at_in h0 h1 hd hi.1 hi.2
          repeat refine x_step rfl ?_
          refine x_eq rfl (by omega) (by omega) (fun hz3 => absurd hz3 hz) (fun hz3 => ?_)
          repeat refine x_step rfl ?_
          refine x_ald (len := 132) rfl (by omega) (by omega) ?_
          repeat refine x_step rfl ?_
          exact x_loc (by exact ⟨rfl, rfl, xsi (by rw [lf_at hd h0 h1, if_pos hi, ea]), rfl, rfl, rfl, rfl, trivial⟩) (J (lfS (I 118) q d k) (by rw [if_neg hk0]) hnz hi.2)
  repeat refine x_step rfl ?_
  refine x_call rfl (cM_begin I hb q d h0 h1 hd) ?_
  have hin : ∀ k, lfS (I 118) q d k ≠ 0 → -(c0S q d) ≤ k := fun k hk => by
    have := lfC h0 h1 hd hk
    omega
  have hbk := bkS_ge hin 9 0 (by omega)
  have ea : atS q d (bkS (lfS (I 118) q d) 9 0) = aoS q d (bkS (lfS (I 118) q d) 9 0) := by unfold aoS; rw [if_pos (by omega)]
  rw [ea]
  repeat refine x_step rfl ?_
  refine x_loc (by exact ⟨rfl, rfl, rfl, rfl, rfl, rfl, rfl, trivial⟩) (loop (9 - bkS (lfS (I 118) q d) 9 0).toNat (bkS (lfS (I 118) q d) 9 0) 0 0 _ (by omega) (by omega) (by omega) (by omega) (by omega) ?_)
  have h3 := rnF_0 (fun k => (hlf k).1) (show 0 ≤ x by omega) (bkS (lfS (I 118) q d) 9 0)
  show (if rnF (lfS (I 118) q d) x (bkS (lfS (I 118) q d) 9 0) = 0 then -5 else rnF (lfS (I 118) q d) x (bkS (lfS (I 118) q d) 9 0)) = _
  by_cases h4 : 2 ≤ (fwS (lfS (I 118) q d) x (9 - bkS (lfS (I 118) q d) 9 0).toNat (bkS (lfS (I 118) q d) 9 0) 0 0).2
  · rw [if_neg (fun w => h3.mp w h4), if_pos h4]
    unfold rnF
    rw [if_pos h4]
  · rw [if_pos (h3.mpr h4), if_neg h4]
