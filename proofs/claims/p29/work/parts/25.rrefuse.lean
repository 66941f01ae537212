/-! the reference's reasons -/
theorem lf_shift {b : Int → Int} {q d k s : Int} (hd : d = 0 ∨ d = 1) (h0 : 0 ≤ q) (h1 : q ≤ 80) (hi : 0 ≤ c0S q d + k) (hi2 : c0S q d + k ≤ 8) : lfS b (atS q d k) d s = lfS b q d (k + s) := by
  have ha := at_in h0 h1 hd hi hi2
  rw [lf_at hd ha.1 ha.2.1, lf_at hd h0 h1, ha.2.2, show c0S q d + k + s = c0S q d + (k + s) by omega]
  have e : atS (atS q d k) d s = atS q d (k + s) := by
    rcases hd with rfl | rfl
    · simp only [at_0]; omega
    · simp only [at_1]; omega
  rw [e]
def oQ (b : Int → Int) (c q d : Int) (i : Nat) : Prop := ∃ j : Int, 0 ≤ j ∧ j < i ∧ lfS b q d j ≠ 0 ∧ lfS b q d j ≠ wlS c j
def aQ (b : Int → Int) (q d : Int) (i : Nat) : Prop := ∀ j : Int, 0 ≤ j → j < i → anS b (atS q d j) = 0
def lQ (b : Int → Int) (W : Int → Prop) (c q d : Int) (i : Nat) : Prop := ∃ j : Int, 0 ≤ j ∧ j < i ∧ lfS b q d j = 0 ∧ ¬ alP b W (atS q d j) d (wlS c j)