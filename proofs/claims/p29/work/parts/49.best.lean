/-! the best of all plays -/
/-- P: possible; S: the score; D: looked at; f: how many; the best one -/
def BI (P : Int → Int → Prop) (S : Int → Int → Int) (D : Int → Int → Prop) (f bs bp bw : Int) : Prop := (f = 0 ∧ ∀ k j, D k j → ¬ P k j) ∨ (0 < f ∧ D bw bp ∧ P bw bp ∧ bs = S bw bp ∧ ∀ k j, D k j → P k j → S k j < bs ∨ (S k j = bs ∧ (bp < j ∨ (bp = j ∧ bw ≤ k))))
section BI
variable {P : Int → Int → Prop} {S : Int → Int → Int} {D D' : Int → Int → Prop} {f bs bp bw k j : Int}
theorem BI.no (h : BI P S D f bs bp bw) (hD : ∀ a b, D' a b ↔ D a b ∨ (a = k ∧ b = j)) (hP : ¬ P k j) : BI P S D' f bs bp bw := by
  rcases h with ⟨h1, h2⟩ | ⟨h1, h2, h3, h4, h5⟩
  · refine Or.inl ⟨h1, fun a b w => ?_⟩
    rcases (hD a b).mp w with v | ⟨v1, v2⟩
    · exact h2 a b v
    · rw [v1, v2]; exact hP
  · refine Or.inr ⟨h1, (hD _ _).mpr (Or.inl h2), h3, h4, fun a b w p => ?_⟩
    rcases (hD a b).mp w with v | ⟨v1, v2⟩
    · exact h5 a b v p
    · rw [v1, v2] at p; exact absurd p hP
theorem BI.new (h : BI P S D f bs bp bw) (hD : ∀ a b, D' a b ↔ D a b ∨ (a = k ∧ b = j)) (hP : P k j) (hc : f = 0 ∨ bs < S k j ∨ (S k j = bs ∧ j < bp)) : BI P S D' (f + 1) (S k j) j k := by
  refine Or.inr ⟨?_, (hD _ _).mpr (Or.inr ⟨rfl, rfl⟩), hP, rfl, fun a b w p => ?_⟩
  · rcases h with h | h
    · have := h.1; omega
    · have := h.1; omega
  · rcases (hD a b).mp w with v | ⟨v1, v2⟩
    · rcases h with ⟨h1, h2⟩ | ⟨h1, h2, h3, h4, h5⟩
      · exact absurd p (h2 a b v)
      · have := h5 a b v p
        clear h5 h2 hD
        omega
    · rw [v1, v2]
      exact Or.inr ⟨rfl, Or.inr ⟨rfl, Int.le_refl _⟩⟩
theorem BI.old (h : BI P S D f bs bp bw) (hD : ∀ a b, D' a b ↔ D a b ∨ (a = k ∧ b = j)) (hP : P k j) (hf : f ≠ 0) (hc : S k j < bs ∨ (S k j = bs ∧ (bp < j ∨ (bp = j ∧ bw ≤ k)))) : BI P S D' (f + 1) bs bp bw := by
  rcases h with ⟨h1, h2⟩ | ⟨h1, h2, h3, h4, h5⟩
  · exact absurd h1 hf
  · refine Or.inr ⟨by clear h5 hD; omega, (hD _ _).mpr (Or.inl h2), h3, h4, fun a b w p => ?_⟩
    rcases (hD a b).mp w with v | ⟨v1, v2⟩
    · exact h5 a b v p
    · rw [v1, v2]; exact hc
theorem BI.dd (h : BI P S D f bs bp bw) (hD : ∀ a b, D' a b ↔ D a b) : BI P S D' f bs bp bw := by
  have : D' = D := by
    funext a b
    exact propext (hD a b)
  rw [this]
  exact h
theorem BI.f0 (h : BI P S D f bs bp bw) : 0 ≤ f := by
  rcases h with h | h
  · have := h.1; omega
  · have := h.1; omega
theorem BI.mem (h : BI P S D f bs bp bw) (hf : f ≠ 0) : D bw bp ∧ P bw bp ∧ bs = S bw bp := by
  rcases h with h | h
  · exact absurd h.1 hf
  · exact ⟨h.2.1, h.2.2.1, h.2.2.2.1⟩
/-- there is one best -/
theorem BI.one {f' bs' bp' bw' : Int} (h : BI P S D f bs bp bw) (h' : BI P S D f' bs' bp' bw') (hf : f ≠ 0) (hf' : f' ≠ 0) : bs = bs' ∧ bp = bp' ∧ bw = bw' := by
  rcases h with ⟨h1, h2⟩ | ⟨h1, h2, h3, h4, h5⟩
  · exact absurd h1 hf
  · rcases h' with ⟨g1, g2⟩ | ⟨g1, g2, g3, g4, g5⟩
    · exact absurd g1 hf'
    · have a := h5 _ _ g2 g3
      have b := g5 _ _ h2 h3
      rw [← g4] at a
      rw [← h4] at b
      clear h5 g5 h2 g2 h3 g3
      omega
end BI
/-- a sum of sums, in both orders -/
theorem xsm_add (f g : Int → Int) : ∀ n, xsm (fun j => f j + g j) n = xsm f n + xsm g n := by
  intro n
  induction n with
  | zero => rfl
  | succ n ih =>
    have e1 : xsm (fun j => f j + g j) (n + 1) = xsm (fun j => f j + g j) n + (f n + g n) := rfl
    have e2 : xsm f (n + 1) = xsm f n + f n := rfl
    have e3 : xsm g (n + 1) = xsm g n + g n := rfl
    rw [e1, e2, e3, ih]
    omega
theorem xsm_z : ∀ n, xsm (fun _ => 0) n = 0 := by
  intro n
  induction n with
  | zero => rfl
  | succ n ih =>
    have e1 : xsm (fun _ => 0) (n + 1) = xsm (fun _ => 0) n + 0 := rfl
    rw [e1, ih]
    rfl
theorem xsm_swap (f : Int → Int → Int) (n : Nat) : ∀ m, xsm (fun k => xsm (fun j => f k j) n) m = xsm (fun j => xsm (fun k => f k j) m) n := by
  intro m
  induction m with
  | zero => exact (xsm_z n).symm
  | succ m ih =>
    have e1 : xsm (fun k => xsm (fun j => f k j) n) (m + 1) = xsm (fun k => xsm (fun j => f k j) n) m + xsm (fun j => f m j) n := rfl
    have e2 : xsm (fun j => xsm (fun k => f k j) (m + 1)) n = xsm (fun j => xsm (fun k => f k j) m + f m j) n := rfl
    rw [e1, e2, ih, xsm_add]
theorem xsm_mn {f : Int → Int} (hf : ∀ j : Int, 0 ≤ f j) : ∀ (n m : Nat), n ≤ m → xsm f n ≤ xsm f m := by
  intro n m h
  induction m with
  | zero => rw [show n = 0 by omega]; exact Int.le_refl _
  | succ m ih =>
    by_cases e : n = m + 1
    · rw [e]; exact Int.le_refl _
    · have := ih (by omega)
      have h2 := hf m
      have e1 : xsm f (m + 1) = xsm f m + f m := rfl
      omega
/-- a play is looked at -/
def ntI (H : Nat → Int → Int) (s j k : Int) : Nat → Int → Int := if H 114 1 = 0 ∨ H 114 2 < s ∨ (s = H 114 2 ∧ j < H 114 3) then xup (xup (xup H 114 2 s) 114 3 j) 114 4 k else H
def ntH (H : Nat → Int → Int) (s j k : Int) : Nat → Int → Int := xup (ntI H s j k) 114 1 (H 114 1 + 1)
theorem ntH_ne {H : Nat → Int → Int} {s j k : Int} {a : Nat} (h : a ≠ 114) : ntH H s j k a = H a := by
  unfold ntH ntI
  rw [xup_ne h]
  split
  · rw [xup_ne h, xup_ne h, xup_ne h]
  · rfl
theorem cF_note (H : Nat → Int → Int) (s j k : Int) (h1 : InR (H 114 1)) (h2 : H 114 1 ≠ 0 → InR (H 114 2) ∧ InR (H 114 3)) (hs : InR s) (hj : InR j) : XR mF_note [.inr 114, .inl s, .inl j, .inl k] (hN H) none (hN (ntH H s j k)) := by
  refine XRa.of (by decide) (Nat.le_of_ble_eq_true rfl) ?_
  have new : (H 114 1 = 0 ∨ H 114 2 < s ∨ (s = H 114 2 ∧ j < H 114 3)) → ∀ L : XL, xsub L [(3, .inl k), (2, .inl j), (1, .inl s), (0, .inr 114)] → XE mF_note none (hN (ntH H s j k)) 31 L [] (hN H) := by
    intro hc L hL
    refine x_loc hL ?_
    repeat refine x_step rfl ?_
    refine x_vret rfl rfl ?_
    unfold ntH ntI
    rw [if_pos hc, xup_at, if_neg (by omega), xup_at, if_neg (by omega), xup_at, if_neg (by omega)]
  have old : ¬ (H 114 1 = 0 ∨ H 114 2 < s ∨ (s = H 114 2 ∧ j < H 114 3)) → ∀ L : XL, xsub L [(0, .inr 114)] → XE mF_note none (hN (ntH H s j k)) 46 L [] (hN H) := by
    intro hc L hL
    refine x_loc hL ?_
    repeat refine x_step rfl ?_
    refine x_vret rfl rfl ?_
    unfold ntH ntI
    rw [if_neg hc]
  repeat refine x_step rfl ?_
  refine x_eq rfl (by omega) (by omega) (fun w => ?_) (fun w => ?_)
  · exact new (Or.inl w) _ (by exact ⟨rfl, rfl, rfl, rfl, trivial⟩)
  · have h2 := h2 w
    repeat refine x_step rfl ?_
    refine x_lt rfl (by omega) (by omega) (fun w2 => ?_) (fun w2 => ?_)
    · exact new (Or.inr (Or.inl w2)) _ (by exact ⟨rfl, rfl, rfl, rfl, trivial⟩)
    · repeat refine x_step rfl ?_
      refine x_eq rfl (by omega) (by omega) (fun w3 => ?_) (fun w3 => ?_)
      · repeat refine x_step rfl ?_
        refine x_le rfl (by omega) (by omega) (fun w4 => ?_) (fun w4 => ?_)
        · exact old (by omega) _ (by exact ⟨rfl, trivial⟩)
        · exact new (Or.inr (Or.inr ⟨w3, by omega⟩)) _ (by exact ⟨rfl, rfl, rfl, rfl, trivial⟩)
      · exact old (by omega) _ (by exact ⟨rfl, trivial⟩)
