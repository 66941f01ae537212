theorem rf7_c (b : Int → Int) (W : Int → Prop) (c q d : Int) : (2 ≤ rf7 b W c q d 0 ∧ rf7 b W c q d 0 ≤ 7 ∧ ∀ z, rf7 b W c q d z = rf7 b W c q d 0) ∨ (c0S q d + lnS c ≤ 9 ∧ rf7 b W c q d 0 = 0 ∧ ∀ z, rf7 b W c q d z = z) := by
  unfold rf7
  by_cases h2 : 9 < c0S q d + lnS c
  · rw [sel_pos h2]; exact Or.inl ⟨by omega, by omega, fun z => by rw [sel_pos h2]⟩
  · rw [sel_neg h2]
    by_cases h3 : r3P b c q d
    · rw [sel_pos h3]; exact Or.inl ⟨by omega, by omega, fun z => by rw [sel_neg h2, sel_pos h3]⟩
    · rw [sel_neg h3]
      by_cases h4 : r4P b c q d
      · rw [sel_pos h4]; exact Or.inl ⟨by omega, by omega, fun z => by rw [sel_neg h2, sel_neg h3, sel_pos h4]⟩
      · rw [sel_neg h4]
        by_cases h5 : r5P b c q d
        · rw [sel_pos h5]; exact Or.inl ⟨by omega, by omega, fun z => by rw [sel_neg h2, sel_neg h3, sel_neg h4, sel_pos h5]⟩
        · rw [sel_neg h5]
          by_cases h6 : r6P b c q d
          · rw [sel_pos h6]; exact Or.inl ⟨by omega, by omega, fun z => by rw [sel_neg h2, sel_neg h3, sel_neg h4, sel_neg h5, sel_pos h6]⟩
          · rw [sel_neg h6]
            by_cases h7 : r7P b W c q d
            · rw [sel_pos h7]; exact Or.inl ⟨by omega, by omega, fun z => by rw [sel_neg h2, sel_neg h3, sel_neg h4, sel_neg h5, sel_neg h6, sel_pos h7]⟩
            · rw [sel_neg h7]; exact Or.inr ⟨by omega, rfl, fun z => by rw [sel_neg h2, sel_neg h3, sel_neg h4, sel_neg h5, sel_neg h6, sel_neg h7]⟩
theorem rfS_R (b : Int → Int) (W : Int → Prop) (rk : Int → Int) (c q d : Int) : 0 ≤ rfS b W rk c q d ∧ rfS b W rk c q d ≤ 8 := by
  unfold rfS
  by_cases h : W c
  · rw [sel_neg (fun w => w h)]
    rcases rf7_c b W c q d with ⟨h1, h2, h3⟩ | ⟨h1, h2, h3⟩
    · rw [h3]; omega
    · rw [h3]
      rcases sel01 (p := r8P b rk c q d) (a := 8) (b := 0) with e | e <;> omega
  · rw [sel_pos h]; omega