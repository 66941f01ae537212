/-! a word that was read has a code -/
def CD (m : Nat) (c : Int) : Prop := 0 ≤ c ∧ c < p9 m ∧ ∀ F : Nat, m ≤ F → dz F c = true ∧ dn F c = m
theorem CD_0 : CD 0 0 := ⟨Int.le_refl 0, by decide, fun F _ => ⟨dz_zero F (Int.le_refl 0), dn_zero F (Int.le_refl 0)⟩⟩
theorem CD_s {m : Nat} {c x : Int} (h : CD m c) (h1 : 1 ≤ x) (h2 : x ≤ 8) : CD (m + 1) (c * 9 + x) := by
  obtain ⟨a, b, f⟩ := h
  have e1 : (c * 9 + x) / 9 = c := by omega
  have e2 : (c * 9 + x) % 9 = x := by omega
  have e3 : p9 (m + 1) = 9 * p9 m := rfl
  refine ⟨by omega, by omega, fun F hF => ?_⟩
  obtain ⟨G, rfl⟩ : ∃ G, F = G + 1 := ⟨F - 1, by omega⟩
  obtain ⟨f1, f2⟩ := f G (by omega)
  constructor
  · rw [dz, if_neg (by omega), e1, e2, f1]
    simp
    omega
  · rw [dn, if_neg (by omega), e1, f2]
    omega
theorem rwF_CD (u : Int → Int) : ∀ (n : Nat) (p c : Int) (m : Nat), CD m c → ∃ k : Nat, (rwF u n p c).1 = p + k ∧ k ≤ n ∧ CD (m + k) (rwF u n p c).2 := by
  intro n
  induction n with
  | zero => intro p c m h; exact ⟨0, by show p = p + ((0 : Nat) : Int); omega, Nat.le_refl 0, h⟩
  | succ n ih =>
    intro p c m h
    by_cases w : 97 ≤ u p ∧ u p ≤ 104
    · obtain ⟨k, k1, k2, k3⟩ := ih (p + 1) (c * 9 + (u p - 96)) (m + 1) (CD_s h (by omega) (by omega))
      rw [rwF, if_pos w]
      exact ⟨k + 1, by omega, by omega, by rw [show m + (k + 1) = m + 1 + k by omega]; exact k3⟩
    · rw [rwF, if_neg w]
      exact ⟨0, by show p = p + ((0 : Nat) : Int); omega, by omega, h⟩
theorem wdC_R (u : Int → Int) (p : Int) (h : ¬ (wdP u p - p < 2)) : 0 < lnS (wdC u p) ∧ InR (wdC u p) := by
  obtain ⟨k, k1, k2, k3, k4, k5⟩ := rwF_CD u 7 p 0 0 CD_0
  have k1 : wdP u p = p + k := k1
  have k3 : 0 ≤ wdC u p := k3
  have k4 : wdC u p < p9 (0 + k) := k4
  obtain ⟨f1, f2⟩ := k5 11 (by omega)
  have f1 : dz 11 (wdC u p) = true := f1
  have f2 : dn 11 (wdC u p) = ((0 + k : Nat) : Int) := f2
  have mono : ∀ j, j ≤ 7 → p9 j ≤ 4782969 := by decide +kernel
  have := mono (0 + k) (by omega)
  refine ⟨?_, by omega⟩
  unfold lnS
  rw [if_pos ⟨k3, f1, by omega, by omega⟩]
  omega
/-- what an order that was read says -/
def sgO (u : Int → Int) (p : Int) : Prop := u p = 43 ∨ u p = 45
noncomputable def cdO (u : Int → Int) (p : Int) : Int := @ite _ (sgO u p) (Classical.propDecidable _) (wdC u (p + 1)) (wdC u p)
theorem cdO_s {u : Int → Int} {p : Int} (h : sgO u p) : cdO u p = wdC u (p + 1) := by unfold cdO; rw [if_pos h]
theorem cdO_n {u : Int → Int} {p : Int} (h : ¬ sgO u p) : cdO u p = wdC u p := by unfold cdO; rw [if_neg h]
theorem cdO_R {u : Int → Int} {p : Int} (h0 : 0 ≤ p) (h : 0 ≤ roE u p) : 0 < lnS (cdO u p) ∧ InR (cdO u p) := by
  unfold roE at h
  by_cases hs : sgO u p
  · rw [cdO_s hs]
    rw [if_pos (show u p = 43 ∨ u p = 45 from hs)] at h
    obtain ⟨e1, e2, e3⟩ := wdE_n u (p := p + 1) (by omega)
    exact wdC_R u (p + 1) (fun w => by have := e2.mpr w; omega)
  · rw [cdO_n hs]
    rw [if_neg (show ¬ (u p = 43 ∨ u p = 45) from hs)] at h
    obtain ⟨e1, e2, e3⟩ := wdE_n u (p := p) (by omega)
    refine wdC_R u p (fun w => ?_)
    have := e2.mpr w
    rw [if_pos this] at h
    omega
theorem plQ_R {u : Int → Int} {p : Int} (h0 : 0 ≤ p) (hs : ¬ sgO u p) (h : 0 ≤ roE u p) : 0 ≤ plQ u (wdE u p) ∧ plQ u (wdE u p) ≤ 80 ∧ (plD u (wdE u p) = 0 ∨ plD u (wdE u p) = 1) := by
  have hd : plD u (wdE u p) = 0 ∨ plD u (wdE u p) = 1 := if01
  unfold roE at h
  rw [if_neg (show ¬ (u p = 43 ∨ u p = 45) from hs)] at h
  by_cases w : wdE u p < 0
  · rw [if_pos w] at h; omega
  · rw [if_neg w] at h
    generalize wdE u p = e at *
    unfold plE at h
    by_cases g1 : 49 ≤ u e ∧ u e ≤ 57
    · rw [if_neg (fun x => x g1)] at h
      by_cases g2 : 49 ≤ u (e + 1) ∧ u (e + 1) ≤ 57
      · refine ⟨?_, ?_, hd⟩ <;> unfold plQ <;> omega
      · rw [if_pos g2] at h; omega
    · rw [if_pos g1] at h; omega
/-- the orders from a place on: how many, what stopped them, the numbers behind them -/
noncomputable def pfF (u : Int → Int) (len : Int) : Nat → (Int → Int) → Int → Int → Int × Int × (Int → Int)
  | 0, z, _, done => (done, 0, z)
  | n + 1, z, p, done => if len ≤ p then (done, 0, z) else if (caV z (u p) (cdO u p) (plQ u (wdE u p)) (plD u (wdE u p))).1 < 0 then (done, (caV z (u p) (cdO u p) (plQ u (wdE u p)) (plD u (wdE u p))).1, (caV z (u p) (cdO u p) (plQ u (wdE u p)) (plD u (wdE u p))).2) else pfF u len n (caV z (u p) (cdO u p) (plQ u (wdE u p)) (plD u (wdE u p))).2 (roE u p + 1) (done + 1)
/-- a place where an order of a text without a fault begins, or behind all of them -/
def INV (u : Int → Int) (len : Int) (n : Nat) (p : Int) : Prop := p = len + 1 ∨ (0 ≤ p ∧ p ≤ len ∧ ffF u len n p = -5)
theorem INV.s {u : Int → Int} {len : Int} {n : Nat} {p : Int} (hu : ∀ q, u q ≠ 0 → q < len) (h : INV u len n p) (hp : p < len) (h0 : 0 ≤ p) : ∃ m, n = m + 1 ∧ 0 ≤ roE u p ∧ roE u p ≤ len ∧ INV u len m (roE u p + 1) := by
  rcases h with h | ⟨a, b, f⟩
  · omega
  · cases n with
    | zero =>
      have f : p = -5 := f
      omega
    | succ m =>
      have hR := roE_R hu a b
      rw [ffF] at f
      by_cases w : roE u p < 0
      · rw [if_pos w] at f; omega
      · rw [if_neg w] at f
        obtain ⟨q1, q2⟩ := hR.1 (by omega)
        refine ⟨m, rfl, by omega, q2, ?_⟩
        by_cases g : roE u p = len
        · exact Or.inl (by omega)
        · rw [if_neg g] at f
          by_cases g2 : u (roE u p) = 44
          · rw [if_pos g2] at f
            exact Or.inr ⟨by omega, by omega, f⟩
          · rw [if_neg g2] at f; omega
