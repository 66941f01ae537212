/-! a play is made: the reference -/
def zpl (z : Int → Int) (p c q d : Int) (n : Nat) : Int → Int := fun j => if j ≤ 80 then plB z c q d n j else if 81 + 8 * p ≤ j ∧ j ≤ 88 + 8 * p then plK z (rkZ z p) c q d n (j - 80 - 8 * p) else z j
theorem zpl_b {z : Int → Int} {p c q d : Int} {n : Nat} {j : Int} (h : j ≤ 80) : zpl z p c q d n j = plB z c q d n j := if_pos h
theorem zpl_k {z : Int → Int} {p c q d : Int} {n : Nat} {l : Int} (hp : p = 0 ∨ p = 1) (h : 1 ≤ l ∧ l ≤ 8) : zpl z p c q d n (80 + 8 * p + l) = plK z (rkZ z p) c q d n l := by
  unfold zpl
  rw [if_neg (by omega), if_pos (by omega), show 80 + 8 * p + l - 80 - 8 * p = l by omega]
theorem zpl_ne {z : Int → Int} {p c q d : Int} {n : Nat} {j : Int} (h : 80 < j) (h2 : ¬ (81 + 8 * p ≤ j ∧ j ≤ 88 + 8 * p)) : zpl z p c q d n j = z j := by
  unfold zpl
  rw [if_neg (by omega), if_neg h2]
theorem zpl_0 {z : Int → Int} {p c q d : Int} : zpl z p c q d 0 = z := by
  funext j
  unfold zpl
  rw [plK_z]
  by_cases h : j ≤ 80
  · rw [if_pos h]; rfl
  · rw [if_neg h]
    split
    · unfold rkZ
      rw [show 80 + 8 * p + (j - 80 - 8 * p) = j by omega]
    · rfl
theorem zpl_s1 {z : Int → Int} {p c q d : Int} {n : Nat} (h : lfS z q d n ≠ 0) : zpl z p c q d (n + 1) = zpl z p c q d n := by
  unfold zpl
  rw [plK_1 h, plB_1 h]
theorem zpl_s0 {z : Int → Int} {p c q d : Int} {n : Nat} (hp : p = 0 ∨ p = 1) (h : lfS z q d n = 0) (hw : 1 ≤ wlS c n ∧ wlS c n ≤ 8) (ha : 0 ≤ atS q d n ∧ atS q d n ≤ 80) : upF (upF (zpl z p c q d n) (atS q d n) (wlS c n)) (80 + 8 * p + wlS c n) (zpl z p c q d n (80 + 8 * p + wlS c n) - 1) = zpl z p c q d (n + 1) := by
  funext j
  rw [zpl_k hp hw]
  by_cases h1 : j ≤ 80
  · rw [zpl_b h1, plB_0 h]
    unfold upF
    rw [if_neg (by omega), zpl_b h1]
  · by_cases h2 : 81 + 8 * p ≤ j ∧ j ≤ 88 + 8 * p
    · have e := zpl_k (z := z) (c := c) (q := q) (d := d) (n := n + 1) (l := j - 80 - 8 * p) hp (by omega)
      have e2 := zpl_k (z := z) (c := c) (q := q) (d := d) (n := n) (l := j - 80 - 8 * p) hp (by omega)
      rw [show 80 + 8 * p + (j - 80 - 8 * p) = j by omega] at e e2
      rw [e, ← plK_0 h hw]
      unfold upF
      by_cases g : j = 80 + 8 * p + wlS c n
      · rw [if_pos g, if_pos (by omega)]; omega
      · rw [if_neg g, if_neg (by omega), if_neg (by omega), e2]
    · rw [zpl_ne (by omega) h2]
      unfold upF
      rw [if_neg (by omega), if_neg (by omega), zpl_ne (by omega) h2]
/-- the numbers behind a play -/
def dp3 (z : Int → Int) (c q d : Int) : Int → Int := upF (upF (zpl z (z 106) c q d (lnS c).toNat) (107 + z 106) (z (107 + z 106) + woS z c q d)) 109 (z 109 + 1)
def dpZ (z : Int → Int) (c q d : Int) : Int → Int := upF (fzS (z 106) (6 - ttS (rkZ (dp3 z c q d) (z 106))).toNat (dp3 z c q d)) 106 (1 - z 106)
theorem dp3_k {z : Int → Int} (ht : z 106 = 0 ∨ z 106 = 1) {c q d l : Int} (h : 1 ≤ l ∧ l ≤ 8) : rkZ (dp3 z c q d) (z 106) l = rkZ z (z 106) l - nwF z c q d l (lnS c).toNat := by
  have e := zpl_k (z := z) (c := c) (q := q) (d := d) (n := (lnS c).toNat) (l := l) ht h
  unfold rkZ dp3 upF
  rw [if_neg (by omega), if_neg (by omega), e]
  unfold plK
  rw [if_pos h]
  rfl
theorem plB_R {b : Int → Int} (hb : bdR b) {c q d : Int} (h2 : 0 < lnS c) : ∀ (n : Nat), (n : Int) ≤ lnS c → bdR (plB b c q d n) := by
  intro n
  induction n with
  | zero => intro _; exact hb
  | succ n ih =>
    intro h j a e
    have hw := wlS_R (i := n) h2 (by omega) (by omega)
    by_cases hz : lfS b q d n = 0
    · rw [plB_0 hz]
      unfold upF
      split
      · omega
      · exact ih (by omega) j a e
    · rw [plB_1 hz]; exact ih (by omega) j a e
/-- what a play without a reason leaves keeps to the same -/
theorem WZ.d3 {z : Int → Int} (h : WZ z) {c q d : Int} (h2 : 0 < lnS c) (h8 : ¬ r8P z (rkZ z (z 106)) c q d) : WZ (dp3 z c q d) := by
  have hl := lnS_le c
  have hd := h.tu
  have hn : ∀ l : Int, 1 ≤ l → l ≤ 8 → 0 ≤ nwF z c q d l (lnS c).toNat ∧ nwF z c q d l (lnS c).toNat ≤ rkZ z (z 106) l := fun l a b => by
    refine ⟨(nwF_R z c q d l _).1, ?_⟩
    by_cases w : nwF z c q d l (lnS c).toNat ≤ rkZ z (z 106) l
    · exact w
    · exact absurd ⟨l, a, b, by unfold nwS; omega⟩ h8
  have eh : ∀ j, 110 ≤ j ∨ j = 105 ∨ j = 106 ∨ (96 < j ∧ j ≤ 104) ∨ (80 < j ∧ j ≤ 88 ∧ z 106 = 1) ∨ (88 < j ∧ j ≤ 96 ∧ z 106 = 0) → dp3 z c q d j = z j := fun j a => by
    unfold dp3 upF
    rw [if_neg (by omega), if_neg (by omega), zpl_ne (by omega) (by omega)]
  have ek : ∀ l, 1 ≤ l → l ≤ 8 → dp3 z c q d (80 + 8 * z 106 + l) = z (80 + 8 * z 106 + l) - nwF z c q d l (lnS c).toNat := fun l a b => dp3_k hd ⟨a, b⟩
  refine h.of (fun j a b => eh j (by omega)) (fun j a b => ?_) (fun l a b => ?_) (by rw [eh _ (by omega)]; exact h.dr) (by rw [eh _ (by omega)]; exact hd) (fun p hp => ?_)
  · have : dp3 z c q d j = plB z c q d (lnS c).toNat j := by
      unfold dp3 upF
      rw [if_neg (by omega), if_neg (by omega), zpl_b b]
    rw [this]
    exact plB_R h.bd h2 _ (by omega) j a b
  · have h3 := h.am l a b
    have h4 := hn l a b
    have h5 := ek l a b
    unfold rkZ at h4
    rcases hd with e | e
    · rw [e, show 80 + 8 * 0 + l = 80 + l by omega] at h4 h5
      rw [h5, eh (88 + l) (by omega), eh (96 + l) (by omega)]
      omega
    · rw [e, show 80 + 8 * 1 + l = 88 + l by omega] at h4 h5
      rw [h5, eh (80 + l) (by omega), eh (96 + l) (by omega)]
      omega
  · have h6 := h.rk p hp
    have hle : ∀ l : Int, 1 ≤ l → l ≤ 8 → rkZ (dp3 z c q d) p l ≤ rkZ z p l := fun l a b => by
      by_cases g : p = z 106
      · subst g
        rw [dp3_k hd ⟨a, b⟩]
        have := hn l a b
        omega
      · unfold rkZ
        rw [eh _ (by omega)]
        exact Int.le_refl _
    have := hle 1 (by omega) (by omega); have := hle 2 (by omega) (by omega); have := hle 3 (by omega) (by omega); have := hle 4 (by omega) (by omega)
    have := hle 5 (by omega) (by omega); have := hle 6 (by omega) (by omega); have := hle 7 (by omega) (by omega); have := hle 8 (by omega) (by omega)
    unfold ttS at h6 ⊢
    omega
theorem ttS_nn {f : Int → Int} (h : ∀ l : Int, 1 ≤ l → l ≤ 8 → 0 ≤ f l) : 0 ≤ ttS f := by
  have := h 1 (by omega) (by omega); have := h 2 (by omega) (by omega); have := h 3 (by omega) (by omega); have := h 4 (by omega) (by omega)
  have := h 5 (by omega) (by omega); have := h 6 (by omega) (by omega); have := h 7 (by omega) (by omega); have := h 8 (by omega) (by omega)
  unfold ttS
  omega
theorem WZ.rn {z : Int → Int} (h : WZ z) {p : Int} (hp : p = 0 ∨ p = 1) : 0 ≤ ttS (rkZ z p) ∧ ttS (rkZ z p) ≤ 6 := ⟨ttS_nn (fun l a b => (h.rz hp l a b).1), h.rk p hp⟩
theorem dp3_6 {z : Int → Int} (ht : z 106 = 0 ∨ z 106 = 1) {c q d : Int} : dp3 z c q d 106 = z 106 := by
  unfold dp3 upF
  rw [if_neg (by omega), if_neg (by omega), zpl_ne (by omega) (by omega)]
theorem WZ.dp {z : Int → Int} (h : WZ z) {c q d : Int} (h2 : 0 < lnS c) (h8 : ¬ r8P z (rkZ z (z 106)) c q d) : WZ (dpZ z c q d) := by
  have h3 := h.d3 h2 h8
  have hd := h.tu
  have h4 := h3.rn hd
  unfold dpZ
  exact (h3.fz hd _ (by omega)).f (by omega) (by omega) (fun _ => by omega)