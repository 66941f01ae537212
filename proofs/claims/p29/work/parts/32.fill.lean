/-! single numbers of the game; the filling of a rack -/
theorem xup_set {I : Nat → Int → Int} {o : Nat} {j v : Int} : xup I o j v = xset I o (upF (I o) j v) := by
  funext a i
  unfold xup xset upF
  by_cases h : a = o
  · subst h; simp
  · simp [h]
theorem GM.f {I : Nat → Int → Int} {z : Int → Int} (h : GM I 4 z) {f : Int} (h0 : 6 ≤ f) (h1 : f ≤ 12) (v : Int) : GM (xup I 4 f v) 4 (upF z (99 + f) v) := by
  have fr : ∀ a : Nat, a ≠ 4 → xup I 4 f v a = I a := fun a h1 => xup_ne h1
  have e : ∀ j, j ≠ 99 + f → upF z (99 + f) v j = z j := fun j a => if_neg a
  refine ⟨fun j a b => ?_, fun k a b => ?_, fun k a b => ?_, fun k a b => ?_, fun i a b => ?_, ?_, fun k a b => ?_⟩
  · rw [fr _ (by omega), e j (by omega)]; exact h.b j a b
  · rw [fr _ (by omega), e _ (by omega)]; exact h.r0 k a b
  · rw [fr _ (by omega), e _ (by omega)]; exact h.r1 k a b
  · rw [fr _ (by omega), e _ (by omega)]; exact h.bg k a b
  · rw [xup_at]
    unfold upF
    by_cases g : i = f
    · rw [if_pos g, if_pos (by omega)]
    · rw [if_neg g, if_neg (by omega)]
      exact h.x i a b
  · rw [fr _ (by omega), e _ (by omega)]; exact h.m
  · rw [fr _ (by omega), e _ (by omega)]; exact h.w k a b
theorem WZ.of {z z' : Int → Int} (h : WZ z) (hw : ∀ j : Int, 112 ≤ j → j ≤ 132 → z' j = z j) (h1 : bdR z') (h2 : ∀ l : Int, 1 ≤ l → l ≤ 8 → 0 ≤ z' (80 + l) ∧ 0 ≤ z' (88 + l) ∧ 0 ≤ z' (96 + l) ∧ z' (80 + l) + z' (88 + l) + z' (96 + l) ≤ 8) (h3 : 0 ≤ z' 105 ∧ z' 105 ≤ 65536) (h4 : z' 106 = 0 ∨ z' 106 = 1) (h5 : ∀ p : Int, p = 0 ∨ p = 1 → ttS (rkZ z' p) ≤ 6) : WZ z' := by
  have hm := h.mn
  have em := hw 112 (by omega) (by omega)
  refine ⟨h1, h2, h3, h4, by omega, fun k a b => ?_, fun i k a b f => ?_, h5⟩
  · rw [hw _ (by omega) (by omega)]; exact h.wd k a (by omega)
  · rw [hw _ (by omega) (by omega), hw _ (by omega) (by omega)]; exact h.ds i k a b (by omega)
theorem WZ.f {z : Int → Int} (h : WZ z) {j v : Int} (h0 : 106 ≤ j) (h1 : j ≤ 111) (hv : j = 106 → v = 0 ∨ v = 1) : WZ (upF z j v) := by
  have e : ∀ i, i ≠ j → upF z j v i = z i := fun i a => if_neg a
  refine h.of (fun i a b => e i (by omega)) (fun i a b => by rw [e i (by omega)]; exact h.bd i a b) (fun l a b => by rw [e _ (by omega), e _ (by omega), e _ (by omega)]; exact h.am l a b) (by rw [e _ (by omega)]; exact h.dr) ?_ (fun p hp => ?_)
  · by_cases g : 106 = j
    · have : upF z j v 106 = v := if_pos g
      rw [this]
      exact hv g.symm
    · rw [e _ g]; exact h.tu
  · have e2 : ttS (rkZ (upF z j v) p) = ttS (rkZ z p) := by
      unfold ttS rkZ
      rw [e _ (by omega), e _ (by omega), e _ (by omega), e _ (by omega), e _ (by omega), e _ (by omega), e _ (by omega), e _ (by omega)]
    rw [e2]
    exact h.rk p hp
/-- cells that two heaps share -/
theorem GM.congr {I J : Nat → Int → Int} {g : Nat} {z z' : Int → Int} (h : GM I g z) (hJ : ∀ a : Nat, g ≤ a → a ≤ g + 10 → J a = I a) (hz : ∀ j : Int, 0 ≤ j → j ≤ 132 → z' j = z j) : GM J g z' := by
  refine ⟨fun j a b => ?_, fun k a b => ?_, fun k a b => ?_, fun k a b => ?_, fun i a b => ?_, ?_, fun k a b => ?_⟩
  · rw [hJ _ (by omega) (by omega), hz j a (by omega)]; exact h.b j a b
  · rw [hJ _ (by omega) (by omega), hz _ (by omega) (by omega)]; exact h.r0 k a b
  · rw [hJ _ (by omega) (by omega), hz _ (by omega) (by omega)]; exact h.r1 k a b
  · rw [hJ _ (by omega) (by omega), hz _ (by omega) (by omega)]; exact h.bg k a b
  · rw [hJ _ (by omega) (by omega), hz _ (by omega) (by omega)]; exact h.x i a b
  · rw [hJ _ (by omega) (by omega), hz _ (by omega) (by omega)]; exact h.m
  · rw [hJ _ (by omega) (by omega), hz _ (by omega) (by omega)]; exact h.w k a b
theorem WZ.congr {z z' : Int → Int} (h : WZ z) (hz : ∀ j : Int, 0 ≤ j → j ≤ 132 → z' j = z j) : WZ z' := by
  refine h.of (fun j a b => hz j (by omega) b) (fun j a b => by rw [hz j a (by omega)]; exact h.bd j a b) (fun l a b => by rw [hz _ (by omega) (by omega), hz _ (by omega) (by omega), hz _ (by omega) (by omega)]; exact h.am l a b) (by rw [hz _ (by omega) (by omega)]; exact h.dr) (by rw [hz _ (by omega) (by omega)]; exact h.tu) (fun p hp => ?_)
  have e2 : ttS (rkZ z' p) = ttS (rkZ z p) := by
    unfold ttS rkZ
    rw [hz _ (by omega) (by omega), hz _ (by omega) (by omega), hz _ (by omega) (by omega), hz _ (by omega) (by omega), hz _ (by omega) (by omega), hz _ (by omega) (by omega), hz _ (by omega) (by omega), hz _ (by omega) (by omega)]
  rw [e2]
  exact h.rk p hp
/-! the filling of a rack, here and there -/
theorem ttS_c {f g : Int → Int} (h : ∀ k : Int, 1 ≤ k → k ≤ 8 → f k = g k) : ttS f = ttS g := by
  unfold ttS
  rw [h 1 (by omega) (by omega), h 2 (by omega) (by omega), h 3 (by omega) (by omega), h 4 (by omega) (by omega), h 5 (by omega) (by omega), h 6 (by omega) (by omega), h 7 (by omega) (by omega), h 8 (by omega) (by omega)]
theorem fi_fz {p : Int} (hp : p = 0 ∨ p = 1) : ∀ (n : Nat) (st : TS3) (z : Int → Int), tzR z → st.1 = z 105 → (∀ k : Int, 1 ≤ k → k ≤ 8 → st.2.1 k = bgZ z k) → (∀ k : Int, 1 ≤ k → k ≤ 8 → st.2.2 k = rkZ z p k) → (fiT n st).1 = fzS p n z 105 ∧ (∀ k : Int, 1 ≤ k → k ≤ 8 → (fiT n st).2.1 k = bgZ (fzS p n z) k) ∧ (∀ k : Int, 1 ≤ k → k ≤ 8 → (fiT n st).2.2 k = rkZ (fzS p n z) p k) := by
  intro n
  induction n with
  | zero => intro st z hz h1 h2 h3; exact ⟨h1, h2, h3⟩
  | succ n ih =>
    intro st z hz h1 h2 h3
    have et := ttS_c h2
    unfold fiT fzS
    rw [et]
    by_cases hb : ttS (bgZ z) ≤ 0
    · rw [if_pos hb, if_pos hb]; exact ⟨h1, h2, h3⟩
    · rw [if_neg hb, if_neg hb]
      have hb : 0 < ttS (bgZ z) := by omega
      have hd : dlS st = dlZ z := by
        unfold dlS dlZ
        rw [et, h1]
        exact laT_congr h2 8 1 _ (by omega) (by omega)
      have hR := dlZ_R hz hb
      refine ih (drS st) (dzS z p) (tzR_d hp hz hb) ?_ (fun k a b => ?_) (fun k a b => ?_)
      · show dxS st.1 = dzS z p 105
        rw [h1]
        exact (if_pos rfl).symm
      · rw [bgZ_d hp hz hb k a b]
        show upF st.2.1 (dlS st) (st.2.1 (dlS st) + -1) k = _
        unfold upF
        rw [hd, h2 _ hR.1 hR.2.1, h2 k a b]
      · rw [rkZ_d hp hz hb k a b]
        show upF st.2.2 (dlS st) (st.2.2 (dlS st) + 1) k = _
        unfold upF
        rw [hd, h3 _ hR.1 hR.2.1, h3 k a b]
theorem fz_ne {p : Int} (hp : p = 0 ∨ p = 1) {j : Int} (hj : j ≤ 80 + 8 * p ∨ 88 + 8 * p < j ∧ j ≤ 96 ∨ 106 ≤ j) : ∀ (n : Nat) (z : Int → Int), tzR z → fzS p n z j = z j := by
  intro n
  induction n with
  | zero => intro z _; rfl
  | succ n ih =>
    intro z hz
    unfold fzS
    by_cases hb : ttS (bgZ z) ≤ 0
    · rw [if_pos hb]
    · rw [if_neg hb]
      have hb : 0 < ttS (bgZ z) := by omega
      have hR := dlZ_R hz hb
      rw [ih _ (tzR_d hp hz hb)]
      unfold dzS
      rw [if_neg (by omega), if_neg (by omega), if_neg (by omega)]
theorem WZ.dz {z : Int → Int} (h : WZ z) {p : Int} (hp : p = 0 ∨ p = 1) (hb : 0 < ttS (bgZ z)) (h5 : ttS (rkZ z p) ≤ 5) : WZ (dzS z p) := by
  have hR := dlZ_R h.tz hb
  have hd := tzR_d hp h.tz hb
  have e : ∀ j, j ≤ 80 ∨ 106 ≤ j → dzS z p j = z j := fun j a => by
    unfold dzS
    rw [if_neg (by omega), if_neg (by omega), if_neg (by omega)]
  have eb : ∀ l : Int, 1 ≤ l → l ≤ 8 → dzS z p (96 + l) = z (96 + l) - (if l = dlZ z then 1 else 0) := fun l a b => by
    unfold dzS
    by_cases g : l = dlZ z
    · rw [if_neg (by omega), if_pos (by omega), if_pos g]
    · rw [if_neg (by omega), if_neg (by omega), if_neg (by omega), if_neg g]; omega
  have er : ∀ p2 l : Int, (p2 = 0 ∨ p2 = 1) → 1 ≤ l → l ≤ 8 → dzS z p (80 + 8 * p2 + l) = z (80 + 8 * p2 + l) + (if p2 = p ∧ l = dlZ z then 1 else 0) := fun p2 l hp2 a b => by
    unfold dzS
    by_cases g : p2 = p ∧ l = dlZ z
    · rw [if_neg (by omega), if_neg (by omega), if_pos (by omega), if_pos g]
    · rw [if_neg (by omega), if_neg (by omega), if_neg (by omega), if_neg g]; omega
  have hbl : 1 ≤ z (96 + dlZ z) := hR.2.2
  refine h.of (fun j a b => e j (by omega)) (fun j a b => by rw [e j (by omega)]; exact h.bd j a b) (fun l a b => ?_) ⟨hd.1, hd.2.1⟩ (by rw [e _ (by omega)]; exact h.tu) (fun p2 hp2 => ?_)
  · have h1 := h.am l a b
    have e0 := er 0 l (Or.inl rfl) a b
    have e1 := er 1 l (Or.inr rfl) a b
    rw [show (80 : Int) + 8 * 0 + l = 80 + l by omega] at e0
    rw [show (80 : Int) + 8 * 1 + l = 88 + l by omega] at e1
    rw [e0, e1, eb l a b]
    by_cases g : l = dlZ z
    · rw [← g] at hbl
      rw [if_pos g]
      rcases hp with hp | hp
      · rw [if_pos ⟨hp.symm, g⟩, if_neg (by omega)]; omega
      · rw [if_neg (by omega), if_pos ⟨hp.symm, g⟩]; omega
    · rw [if_neg g, if_neg (fun w => g w.2), if_neg (fun w => g w.2)]; omega
  · by_cases g : p2 = p
    · subst g
      have hrk : ttS (rkZ (dzS z p2) p2) = ttS (rkZ z p2) + 1 := ttS_up hR.1 hR.2.1 (fun j a b => rkZ_d hp h.tz hb j a b)
      omega
    · have e2 : ttS (rkZ (dzS z p) p2) = ttS (rkZ z p2) := ttS_c (fun l a b => by
        show dzS z p (80 + 8 * p2 + l) = z (80 + 8 * p2 + l)
        rw [er p2 l hp2 a b, if_neg (fun w => g w.1)]; omega)
      rw [e2]
      exact h.rk p2 hp2
theorem WZ.fz {p : Int} (hp : p = 0 ∨ p = 1) : ∀ (n : Nat) {z : Int → Int}, WZ z → ttS (rkZ z p) + n ≤ 6 → WZ (fzS p n z) := by
  intro n
  induction n with
  | zero => intro z h _; exact h
  | succ n ih =>
    intro z h h6
    unfold fzS
    by_cases hb : ttS (bgZ z) ≤ 0
    · rw [if_pos hb]; exact h
    · rw [if_neg hb]
      have hb : 0 < ttS (bgZ z) := by omega
      have hR := dlZ_R h.tz hb
      have hrk : ttS (rkZ (dzS z p) p) = ttS (rkZ z p) + 1 := ttS_up hR.1 hR.2.1 (fun j a b => rkZ_d hp h.tz hb j a b)
      exact ih (h.dz hp hb (by omega)) (by omega)
theorem GM.fz {I : Nat → Int → Int} {z : Int → Int} (h : GM I 4 z) (hz : tzR z) {p : Int} (hp : p = 0 ∨ p = 1) (n : Nat) : GM (fiH I (rkA p) (fiT n (I 4 6, I 14, I (rkA p)))) 4 (fzS p n z) := by
  have h14 : ∀ k : Int, 1 ≤ k → k ≤ 8 → I 14 k = bgZ z k := h.bg
  have hA : ∀ k : Int, 1 ≤ k → k ≤ 8 → I (rkA p) k = rkZ z p k := fun k a b => by
    unfold rkA rkZ
    rcases hp with e | e
    · rw [e, if_pos rfl]; exact h.r0 k a b
    · rw [e, if_neg (by omega)]; exact h.r1 k a b
  have hA2 : rkA p = 10 ∨ rkA p = 12 := by unfold rkA; split <;> simp
  have hpA : rkA p = 10 ↔ p = 0 := by unfold rkA; split <;> omega
  obtain ⟨e1, e2, e3⟩ := fi_fz hp n (I 4 6, I 14, I (rkA p)) z hz (h.x 6 (by omega) (by omega)) h14 hA
  have fn : ∀ j : Int, (j ≤ 80 + 8 * p ∨ 88 + 8 * p < j ∧ j ≤ 96 ∨ 106 ≤ j) → fzS p n z j = z j := fun j hj => fz_ne hp hj n z hz
  generalize fiT n (I 4 6, I 14, I (rkA p)) = st at *
  have fr : ∀ a : Nat, a ≠ 4 → a ≠ 14 → a ≠ rkA p → fiH I (rkA p) st a = I a := fun a g1 g2 g3 => by
    unfold fiH
    rw [xset_ne g3, xset_ne g2, xup_ne g1]
  have f4 : ∀ i, fiH I (rkA p) st 4 i = if i = 6 then st.1 else I 4 i := fun i => by
    unfold fiH
    rw [xset_ne (by omega), xset_ne (by omega), xup_at]
  refine ⟨fun j a b => ?_, fun k a b => ?_, fun k a b => ?_, fun k a b => ?_, fun i a b => ?_, ?_, fun k a b => ?_⟩
  · rw [fr _ (by omega) (by omega) (by omega), fn j (by omega)]; exact h.b j a b
  · rcases hp with e | e
    · have hz1 : rkA p = 10 := hpA.mpr e
      have := e3 k a b
      unfold rkZ at this
      rw [e, show 80 + 8 * 0 + k = 80 + k by omega] at this
      show fiH I (rkA p) st 10 k = _
      rw [hz1, fiH_A, this, e]
    · rw [fr _ (by omega) (by omega) (by omega), fn _ (by omega)]; exact h.r0 k a b
  · rcases hp with e | e
    · rw [fr _ (by omega) (by omega) (by omega), fn _ (by omega)]; exact h.r1 k a b
    · have hz1 : rkA p = 12 := by omega
      have := e3 k a b
      unfold rkZ at this
      rw [e, show 80 + 8 * 1 + k = 88 + k by omega] at this
      show fiH I (rkA p) st 12 k = _
      rw [hz1, fiH_A, this, e]
  · show fiH I (rkA p) st 14 k = _
    rw [fiH_14 (by omega)]
    exact e2 k a b
  · rw [f4]
    by_cases g : i = 6
    · rw [if_pos g, g, e1]; rfl
    · rw [if_neg g, fn _ (by omega)]; exact h.x i a b
  · rw [fr _ (by omega) (by omega) (by omega), fn _ (by omega)]; exact h.m
  · rw [fr _ (by omega) (by omega) (by omega), fn _ (by omega)]; exact h.w k a b
