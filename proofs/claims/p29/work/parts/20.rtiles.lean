/-- the reference's row of numbers behind a draw of the player p, and behind so many -/
def bgZ (z : Int → Int) : Int → Int := fun j => z (96 + j)
def rkZ (z : Int → Int) (p : Int) : Int → Int := fun j => z (80 + 8 * p + j)
def dlZ (z : Int → Int) : Int := laT (bgZ z) 8 1 (dxS (z 105) % ttS (bgZ z))
def dzS (z : Int → Int) (p : Int) : Int → Int := fun j => if j = 105 then dxS (z 105) else if j = 96 + dlZ z then z j - 1 else if j = 80 + 8 * p + dlZ z then z j + 1 else z j
def fzS (p : Int) : Nat → (Int → Int) → (Int → Int)
  | 0, z => z
  | n + 1, z => if ttS (bgZ z) ≤ 0 then z else fzS p n (dzS z p)
abbrev tzR (z : Int → Int) : Prop := 0 ≤ z 105 ∧ z 105 ≤ 65536 ∧ amR (bgZ z)
theorem dlZ_R {z : Int → Int} (h : tzR z) (h2 : 0 < ttS (bgZ z)) : 1 ≤ dlZ z ∧ dlZ z ≤ 8 ∧ 1 ≤ bgZ z (dlZ z) := by
  unfold dlZ
  refine laT_spec (bgZ z) (fun k a b => (h.2.2 k a b).1) 8 1 _ (by omega) (by omega) (Int.emod_nonneg _ (by omega)) ?_
  rw [ttS_xsm]
  exact Int.emod_lt_of_pos _ h2
theorem bgZ_d {z : Int → Int} {p : Int} (hp : p = 0 ∨ p = 1) (h : tzR z) (h2 : 0 < ttS (bgZ z)) (k : Int) (h3 : 1 ≤ k) (h4 : k ≤ 8) : bgZ (dzS z p) k = upF (bgZ z) (dlZ z) (bgZ z (dlZ z) + -1) k := by
  have hd := dlZ_R h h2
  unfold bgZ dzS upF
  simp only
  by_cases e : k = dlZ z
  · rw [if_pos e, if_neg (by omega), if_pos (by omega), e]
    rfl
  · rw [if_neg e, if_neg (by omega), if_neg (by omega), if_neg (by omega)]
theorem rkZ_d {z : Int → Int} {p : Int} (hp : p = 0 ∨ p = 1) (h : tzR z) (h2 : 0 < ttS (bgZ z)) (k : Int) (h3 : 1 ≤ k) (h4 : k ≤ 8) : rkZ (dzS z p) p k = upF (rkZ z p) (dlZ z) (rkZ z p (dlZ z) + 1) k := by
  have hd := dlZ_R h h2
  unfold rkZ dzS upF
  simp only
  by_cases e : k = dlZ z
  · rw [if_pos e, if_neg (by omega), if_neg (by omega), if_pos (by omega), e]
  · rw [if_neg e, if_neg (by omega), if_neg (by omega), if_neg (by omega)]
theorem tzR_d {z : Int → Int} {p : Int} (hp : p = 0 ∨ p = 1) (h : tzR z) (h2 : 0 < ttS (bgZ z)) : tzR (dzS z p) := by
  have hd := dlZ_R h h2
  have e : dzS z p 105 = dxS (z 105) := if_pos rfl
  refine ⟨by rw [e]; unfold dxS; omega, by rw [e]; unfold dxS; omega, fun k a b => ?_⟩
  rw [bgZ_d hp h h2 k a b]
  unfold upF
  have h4 := h.2.2 k a b
  have h5 := h.2.2 (dlZ z) hd.1 hd.2.1
  split <;> omega
theorem ttS_up {f g : Int → Int} {k v : Int} (h1 : 1 ≤ k) (h2 : k ≤ 8) (hg : ∀ j : Int, 1 ≤ j → j ≤ 8 → g j = upF f k (f k + v) j) : ttS g = ttS f + v := by
  unfold ttS
  rw [hg 1 (by omega) (by omega), hg 2 (by omega) (by omega), hg 3 (by omega) (by omega), hg 4 (by omega) (by omega), hg 5 (by omega) (by omega), hg 6 (by omega) (by omega), hg 7 (by omega) (by omega), hg 8 (by omega) (by omega)]
  have hk : k = 1 ∨ k = 2 ∨ k = 3 ∨ k = 4 ∨ k = 5 ∨ k = 6 ∨ k = 7 ∨ k = 8 := by omega
  rcases hk with rfl | rfl | rfl | rfl | rfl | rfl | rfl | rfl <;> simp [upF] <;> omega