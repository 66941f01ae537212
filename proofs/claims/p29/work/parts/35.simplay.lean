/-! a play is made: both alike -/
theorem plB_c {b b' : Int → Int} (h : bdE b b') (c q d : Int) : ∀ n, bdE (plB b c q d n) (plB b' c q d n) := by
  intro n
  induction n with
  | zero => exact h
  | succ n ih =>
    intro j a e
    by_cases hz : lfS b q d n = 0
    · have hz2 : lfS b' q d n = 0 := by rw [← lfS_c h]; exact hz
      rw [plB_0 hz, plB_0 hz2]
      unfold upF
      split
      · rfl
      · exact ih j a e
    · have hz2 : lfS b' q d n ≠ 0 := by rw [← lfS_c h]; exact hz
      rw [plB_1 hz, plB_1 hz2]
      exact ih j a e
theorem GM.rz {I : Nat → Int → Int} {z : Int → Int} (h : GM I 4 z) {p : Int} (hp : p = 0 ∨ p = 1) (k : Int) (a : 1 ≤ k) (b : k ≤ 8) : I (rkA p) k = rkZ z p k := by
  unfold rkA rkZ
  rcases hp with e | e
  · rw [e, if_pos rfl]; exact h.r0 k a b
  · rw [e, if_neg (by omega)]; exact h.r1 k a b
theorem GM.pl {I : Nat → Int → Int} {z : Int → Int} (h : GM I 4 z) {p : Int} (hp : p = 0 ∨ p = 1) (c q d : Int) (n : Nat) : GM (plH I (rkA p) c q d n) 4 (zpl z p c q d n) := by
  have hA2 : rkA p = 10 ∨ rkA p = 12 := by unfold rkA; split <;> simp
  have hpA : rkA p = 10 ↔ p = 0 := by unfold rkA; split <;> omega
  have hbe : bdE (I 8) z := h.b
  have hk : ∀ k : Int, 1 ≤ k → k ≤ 8 → plK (I 8) (I (rkA p)) c q d n k = plK z (rkZ z p) c q d n k := fun k a b => by
    unfold plK
    rw [if_pos ⟨a, b⟩, if_pos ⟨a, b⟩, nwF_c hbe, h.rz hp k a b]
  refine ⟨fun j a b => ?_, fun k a b => ?_, fun k a b => ?_, fun k a b => ?_, fun i a b => ?_, ?_, fun k a b => ?_⟩
  · show plH I (rkA p) c q d n 8 j = _
    rw [plH_8 (by omega), zpl_b b]
    exact plB_c hbe c q d n j a b
  · rcases hp with e | e
    · have hz1 : rkA p = 10 := hpA.mpr e
      have e2 := zpl_k (z := z) (c := c) (q := q) (d := d) (n := n) (Or.inl e) ⟨a, b⟩
      rw [show 80 + 8 * p + k = 80 + k by omega] at e2
      rw [e2, ← hk k a b]
      show plH I (rkA p) c q d n 10 k = _
      rw [hz1, plH_R]
    · rw [plH_ne (by omega) (by omega), zpl_ne (by omega) (by omega)]; exact h.r0 k a b
  · rcases hp with e | e
    · rw [plH_ne (by omega) (by omega), zpl_ne (by omega) (by omega)]; exact h.r1 k a b
    · have hz1 : rkA p = 12 := by omega
      have e2 := zpl_k (z := z) (c := c) (q := q) (d := d) (n := n) (Or.inr e) ⟨a, b⟩
      rw [show 80 + 8 * p + k = 88 + k by omega] at e2
      rw [e2, ← hk k a b]
      show plH I (rkA p) c q d n 12 k = _
      rw [hz1, plH_R]
  · rw [plH_ne (by omega) (by omega), zpl_ne (by omega) (by omega)]; exact h.bg k a b
  · rw [plH_ne (by omega) (by omega), zpl_ne (by omega) (by omega)]; exact h.x i a b
  · rw [plH_ne (by omega) (by omega), zpl_ne (by omega) (by omega)]; exact h.m
  · rw [plH_ne (by omega) (by omega), zpl_ne (by omega) (by omega)]; exact h.w k a b
theorem fiH_xup {I : Nat → Int → Int} {R : Nat} {st : TS3} {f v : Int} (hR : R ≠ 4) (hf : f ≠ 6) : xup (fiH I R st) 4 f v = fiH (xup I 4 f v) R st := by
  have e1 : ∀ (J : Nat → Int → Int) (i : Int), fiH J R st 4 i = if i = 6 then st.1 else J 4 i := fun J i => by
    unfold fiH
    rw [xset_ne (Ne.symm hR), xset_ne (by omega), xup_at]
  have e2 : ∀ (J : Nat → Int → Int) (a : Nat), a ≠ 4 → fiH J R st a = if a = R then st.2.2 else if a = 14 then st.2.1 else J a := fun J a h => by
    unfold fiH xset
    by_cases h1 : a = R
    · rw [if_pos h1, if_pos h1]
    · rw [if_neg h1, if_neg h1]
      by_cases h2 : a = 14
      · rw [if_pos h2, if_pos h2]
      · rw [if_neg h2, if_neg h2, xup_ne h]
  funext a j
  by_cases h1 : a = 4
  · subst h1
    rw [xup_at, e1, e1, xup_at]
    by_cases h2 : j = f
    · rw [if_pos h2, if_neg (by omega), if_pos h2]
    · rw [if_neg h2, if_neg h2]
  · rw [xup_ne h1, e2 _ _ h1, e2 _ _ h1, xup_ne h1]
/-- the game behind a play, in both -/
theorem GM.mp {I : Nat → Int → Int} {z : Int → Int} (hG : GM I 4 z) (hW : WZ z) {c q d : Int} (h2 : 0 < lnS c) (h8 : ¬ r8P z (rkZ z (z 106)) c q d) : GM (mpH I (rkA (I 4 7)) c q d) 4 (dpZ z c q d) := by
  have ht := hW.tu
  have e7 : I 4 7 = z 106 := hG.x 7 (by omega) (by omega)
  have e10 : I 4 10 = z 109 := hG.x 10 (by omega) (by omega)
  have hwo : woS (I 8) c q d = woS z c q d := woS_c hG.b c q d
  have es : I 4 (8 + I 4 7) = z (107 + z 106) := by
    rw [e7, hG.x (8 + z 106) (by omega) (by omega), show 99 + (8 + z 106) = 107 + z 106 by omega]
  have hA2 : rkA (I 4 7) = 10 ∨ rkA (I 4 7) = 12 := by unfold rkA; split <;> simp
  have hK : GM (mpK I (rkA (I 4 7)) c q d) 4 (upF (zpl z (z 106) c q d (lnS c).toNat) (107 + z 106) (z (107 + z 106) + woS z c q d)) := by
    unfold mpK
    rw [es, hwo, e7]
    have := (hG.pl ht c q d (lnS c).toNat).f (f := 8 + z 106) (by omega) (by omega) (z (107 + z 106) + woS z c q d)
    rw [show 99 + (8 + z 106) = 107 + z 106 by omega] at this
    exact this
  have h3 : GM (xup (mpK I (rkA (I 4 7)) c q d) 4 10 (I 4 10 + 1)) 4 (dp3 z c q d) := by
    have := hK.f (f := 10) (by omega) (by omega) (I 4 10 + 1)
    rw [e10] at this ⊢
    exact this
  have hd3 := hW.d3 h2 h8
  have hz := h3.fz hd3.tz ht (6 - ttS (rkZ (dp3 z c q d) (z 106))).toNat
  rw [← e7] at hz
  have ek : ttS (mpK I (rkA (I 4 7)) c q d (rkA (I 4 7))) = ttS (rkZ (dp3 z c q d) (I 4 7)) := by
    refine ttS_c (fun k a b => ?_)
    have := h3.rz (p := I 4 7) (by omega) k a b
    rw [← this, xup_ne (by omega)]
  have eF : xup (mpF I (rkA (I 4 7)) c q d) 4 10 (I 4 10 + 1) = fiH (xup (mpK I (rkA (I 4 7)) c q d) 4 10 (I 4 10 + 1)) (rkA (I 4 7)) (fiT (6 - ttS (rkZ (dp3 z c q d) (I 4 7))).toNat (xup (mpK I (rkA (I 4 7)) c q d) 4 10 (I 4 10 + 1) 4 6, xup (mpK I (rkA (I 4 7)) c q d) 4 10 (I 4 10 + 1) 14, xup (mpK I (rkA (I 4 7)) c q d) 4 10 (I 4 10 + 1) (rkA (I 4 7)))) := by
    unfold mpF
    rw [fiH_xup (by omega) (by omega), ek, xup_at, if_neg (by omega), xup_ne (show (14 : Nat) ≠ 4 by omega), xup_ne (show rkA (I 4 7) ≠ 4 by omega)]
  rw [← eF] at hz
  have hf := hz.f (f := 7) (by omega) (by omega) (1 - I 4 7)
  unfold mpH dpZ
  rw [e7] at hf ⊢
  exact hf
theorem GS.mp {I : Nat → Int → Int} (h : GS I) {c q d : Int} (h2 : 0 < lnS c) (h8 : ¬ r8P (I 118) (rkZ (I 118) (I 118 106)) c q d) : GM (mpH I (rkA (I 4 7)) c q d) 4 (dpZ (I 118) c q d) := h.1.mp h.2 h2 h8
