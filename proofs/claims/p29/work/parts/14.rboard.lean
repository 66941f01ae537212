/-! the reference's board: its row of numbers 118 -/
def c0S (q d : Int) : Int := if d = 0 then q % 9 else q / 9
def atS (q d k : Int) : Int := q + (if d = 0 then k else 9 * k)
theorem c0_0 (q : Int) : c0S q 0 = q % 9 := if_pos rfl
theorem c0_1 (q : Int) : c0S q 1 = q / 9 := if_neg (by omega)
theorem at_0 (q k : Int) : atS q 0 k = q + k := by unfold atS; rw [if_pos rfl]
theorem at_1 (q k : Int) : atS q 1 k = q + 9 * k := by unfold atS; rw [if_neg (by omega)]
theorem lfC {b : Int → Int} {q d k : Int} (h0 : 0 ≤ q) (h1 : q ≤ 80) (hd : d = 0 ∨ d = 1) (h : lfS b q d k ≠ 0) : 0 ≤ c0S q d + k ∧ c0S q d + k ≤ 8 := lfS_in h0 h1 hd h
def bsS (q d k : Int) : Int := if 0 ≤ c0S q d + k ∧ c0S q d + k ≤ 8 then atS q d k else -1
def htS (b : Int → Int) (a : Int) : Int := if 0 ≤ a ∧ 0 < b a then 1 else 0
theorem htS01 (b : Int → Int) (a : Int) : htS b a = 0 ∨ htS b a = 1 := if01
theorem at_in {q d k : Int} (h0 : 0 ≤ q) (h1 : q ≤ 80) (hd : d = 0 ∨ d = 1) (hi : 0 ≤ c0S q d + k) (hi2 : c0S q d + k ≤ 8) : 0 ≤ atS q d k ∧ atS q d k ≤ 80 ∧ c0S (atS q d k) d = c0S q d + k := by
  rcases hd with rfl | rfl
  · simp only [c0_0, at_0] at *
    omega
  · simp only [c0_1, at_1] at *
    omega
theorem lf_at {b : Int → Int} {q d k : Int} (hd : d = 0 ∨ d = 1) (h0 : 0 ≤ q) (h1 : q ≤ 80) : lfS b q d k = if 0 ≤ c0S q d + k ∧ c0S q d + k ≤ 8 then b (atS q d k) else 0 := by
  unfold lfS
  rcases hd with rfl | rfl
  · simp only [if_true, c0_0, at_0]
    by_cases w : 0 ≤ q % 9 + k ∧ q % 9 + k ≤ 8
    · rw [if_pos w, if_pos (by omega), show 9 * (q / 9 + 0) + (q % 9 + k) = q + k by omega]
    · rw [if_neg w, if_neg (by omega)]
  · simp only [show ¬ (1 : Int) = 0 by omega, if_false, c0_1, at_1]
    by_cases w : 0 ≤ q / 9 + k ∧ q / 9 + k ≤ 8
    · rw [if_pos w, if_pos (by omega), show 9 * (q / 9 + k) + (q % 9 + 0) = q + 9 * k by omega]
    · rw [if_neg w, if_neg (by omega)]
/-- the square at an offset, -1 beyond the board -/
def aoS (q d k : Int) : Int := if 0 ≤ c0S q d + k ∧ c0S q d + k ≤ 8 then atS q d k else -1
theorem aoS_R {q d k : Int} (h0 : 0 ≤ q) (h1 : q ≤ 80) (hd : d = 0 ∨ d = 1) : -1 ≤ aoS q d k ∧ aoS q d k ≤ 80 := by
  unfold aoS
  by_cases w : 0 ≤ c0S q d + k ∧ c0S q d + k ≤ 8
  · rw [if_pos w]
    have := at_in h0 h1 hd w.1 w.2
    omega
  · rw [if_neg w]
    omega
theorem ht_ao {b : Int → Int} (hb : bdR b) {q d k : Int} (h0 : 0 ≤ q) (h1 : q ≤ 80) (hd : d = 0 ∨ d = 1) : (htS b (aoS q d k) = 0 ↔ lfS b q d k = 0) := by
  rw [lf_at hd h0 h1]
  unfold aoS htS
  by_cases w : 0 ≤ c0S q d + k ∧ c0S q d + k ≤ 8
  · rw [if_pos w, if_pos w]
    have h2 := at_in h0 h1 hd w.1 w.2
    have h3 := hb (atS q d k) h2.1 h2.2.1
    by_cases w2 : b (atS q d k) = 0
    · rw [if_neg (by omega)]
      simp [w2]
    · rw [if_pos (by omega)]
      simp [w2]
  · rw [if_neg w, if_neg w, if_neg (by omega)]
theorem bs_at {q d k s : Int} (h0 : 0 ≤ q) (h1 : q ≤ 80) (hd : d = 0 ∨ d = 1) (hi : 0 ≤ c0S q d + k) (hi2 : c0S q d + k ≤ 8) : bsS (atS q d k) d s = aoS q d (k + s) := by
  have h2 := at_in h0 h1 hd hi hi2
  unfold bsS aoS
  rw [h2.2.2, show c0S q d + k + s = c0S q d + (k + s) by omega]
  have e : atS (atS q d k) d s = atS q d (k + s) := by
    rcases hd with rfl | rfl
    · simp only [at_0]; omega
    · simp only [at_1]; omega
  rw [e]
theorem c0_R {q d : Int} (h0 : 0 ≤ q) (h1 : q ≤ 80) : 0 ≤ c0S q d ∧ c0S q d ≤ 8 := by
  unfold c0S
  split <;> omega
theorem fwS_pos {f : Int → Int} {x : Int} (hf : ∀ k, 0 ≤ f k) (hx : 0 ≤ x) : ∀ (n : Nat) (k cd m : Int), 0 ≤ cd → (1 ≤ m → 1 ≤ cd) → 0 ≤ m → 0 ≤ (fwS f x n k cd m).2 ∧ (1 ≤ (fwS f x n k cd m).2 → 1 ≤ (fwS f x n k cd m).1) := by
  intro n
  induction n with
  | zero => intro k cd m h1 h2 h3; exact ⟨h3, h2⟩
  | succ n ih =>
    intro k cd m h1 h2 h3
    unfold fwS
    by_cases hz : (if k = 0 then x else f k) = 0
    · rw [if_pos hz]; exact ⟨h3, h2⟩
    · rw [if_neg hz]
      have hv : 0 ≤ (if k = 0 then x else f k) := by
        split
        · exact hx
        · exact hf k
      exact ih _ _ _ (by omega) (by omega) (by omega)
theorem rnF_0 {f : Int → Int} {x : Int} (hf : ∀ k, 0 ≤ f k) (hx : 0 ≤ x) (k0 : Int) : (rnF f x k0 = 0 ↔ ¬ 2 ≤ (fwS f x (9 - k0).toNat k0 0 0).2) := by
  have := fwS_pos hf hx (9 - k0).toNat k0 0 0 (by omega) (by omega) (by omega)
  unfold rnF
  split <;> omega