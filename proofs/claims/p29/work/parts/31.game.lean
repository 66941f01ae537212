/-! a game of the class and the reference's row of numbers -/
abbrev GM (I : Nat → Int → Int) (g : Nat) (z : Int → Int) : Prop := (∀ j : Int, 0 ≤ j → j ≤ 80 → I (g + 4) j = z j) ∧ (∀ k : Int, 1 ≤ k → k ≤ 8 → I (g + 6) k = z (80 + k)) ∧ (∀ k : Int, 1 ≤ k → k ≤ 8 → I (g + 8) k = z (88 + k)) ∧ (∀ k : Int, 1 ≤ k → k ≤ 8 → I (g + 10) k = z (96 + k)) ∧ (∀ f : Int, 6 ≤ f → f ≤ 12 → I g f = z (99 + f)) ∧ I (g + 1) 1 = z 112 ∧ (∀ k : Int, 0 ≤ k → k ≤ 19 → I (g + 2) k = z (113 + k))
section GM
variable {I : Nat → Int → Int} {g : Nat} {z : Int → Int} (h : GM I g z)
theorem GM.b (h : GM I g z) : ∀ j : Int, 0 ≤ j → j ≤ 80 → I (g + 4) j = z j := h.1
theorem GM.r0 (h : GM I g z) : ∀ k : Int, 1 ≤ k → k ≤ 8 → I (g + 6) k = z (80 + k) := h.2.1
theorem GM.r1 (h : GM I g z) : ∀ k : Int, 1 ≤ k → k ≤ 8 → I (g + 8) k = z (88 + k) := h.2.2.1
theorem GM.bg (h : GM I g z) : ∀ k : Int, 1 ≤ k → k ≤ 8 → I (g + 10) k = z (96 + k) := h.2.2.2.1
theorem GM.x (h : GM I g z) : ∀ f : Int, 6 ≤ f → f ≤ 12 → I g f = z (99 + f) := h.2.2.2.2.1
theorem GM.m (h : GM I g z) : I (g + 1) 1 = z 112 := h.2.2.2.2.2.1
theorem GM.w (h : GM I g z) : ∀ k : Int, 0 ≤ k → k ≤ 19 → I (g + 2) k = z (113 + k) := h.2.2.2.2.2.2
end GM
/-- what the numbers keep to -/
abbrev WZ (z : Int → Int) : Prop := bdR z ∧ (∀ l : Int, 1 ≤ l → l ≤ 8 → 0 ≤ z (80 + l) ∧ 0 ≤ z (88 + l) ∧ 0 ≤ z (96 + l) ∧ z (80 + l) + z (88 + l) + z (96 + l) ≤ 8) ∧ (0 ≤ z 105 ∧ z 105 ≤ 65536) ∧ (z 106 = 0 ∨ z 106 = 1) ∧ (0 ≤ z 112 ∧ z 112 ≤ 20) ∧ (∀ k : Int, 0 ≤ k → k < z 112 → 0 < lnS (z (113 + k)) ∧ InR (z (113 + k))) ∧ (∀ i k : Int, 0 ≤ i → i < k → k < z 112 → z (113 + i) ≠ z (113 + k)) ∧ (∀ p : Int, p = 0 ∨ p = 1 → ttS (rkZ z p) ≤ 6)
section WZ
variable {z : Int → Int}
theorem WZ.bd (h : WZ z) : bdR z := h.1
theorem WZ.am (h : WZ z) : ∀ l : Int, 1 ≤ l → l ≤ 8 → 0 ≤ z (80 + l) ∧ 0 ≤ z (88 + l) ∧ 0 ≤ z (96 + l) ∧ z (80 + l) + z (88 + l) + z (96 + l) ≤ 8 := h.2.1
theorem WZ.dr (h : WZ z) : 0 ≤ z 105 ∧ z 105 ≤ 65536 := h.2.2.1
theorem WZ.tu (h : WZ z) : z 106 = 0 ∨ z 106 = 1 := h.2.2.2.1
theorem WZ.mn (h : WZ z) : 0 ≤ z 112 ∧ z 112 ≤ 20 := h.2.2.2.2.1
theorem WZ.wd (h : WZ z) : ∀ k : Int, 0 ≤ k → k < z 112 → 0 < lnS (z (113 + k)) ∧ InR (z (113 + k)) := h.2.2.2.2.2.1
theorem WZ.ds (h : WZ z) : ∀ i k : Int, 0 ≤ i → i < k → k < z 112 → z (113 + i) ≠ z (113 + k) := h.2.2.2.2.2.2.1
theorem WZ.rk (h : WZ z) : ∀ p : Int, p = 0 ∨ p = 1 → ttS (rkZ z p) ≤ 6 := h.2.2.2.2.2.2.2
end WZ
/-- the class's game and the reference's row of numbers in one heap -/
def GS (I : Nat → Int → Int) : Prop := GM I 4 (I 118) ∧ WZ (I 118)
section GS
variable {I : Nat → Int → Int}
theorem GS.be (h : GS I) : bdE (I 8) (I 118) := h.1.b
theorem GS.bd8 (h : GS I) : bdR (I 8) := fun j a b => by rw [h.1.b j a b]; exact h.2.bd j a b
theorem GS.t (h : GS I) : I 4 7 = I 118 106 := h.1.x 7 (by omega) (by omega)
theorem GS.t01 (h : GS I) : I 4 7 = 0 ∨ I 4 7 = 1 := by rw [h.t]; exact h.2.tu
theorem GS.m (h : GS I) : I 5 1 = I 118 112 := h.1.m
theorem GS.w (h : GS I) (k : Int) (a : 0 ≤ k) (b : k ≤ 19) : I 6 k = I 118 (113 + k) := h.1.w k a b
theorem GS.wr (h : GS I) : wdR I := by
  have hm := h.m
  have hn := h.2.mn
  refine ⟨by omega, by omega, fun k a b => ?_⟩
  rw [h.w k a (by omega)]
  exact (h.2.wd k a (by omega)).2
theorem GS.wm (h : GS I) : wdM I := ⟨h.2.mn.1, h.2.mn.2, fun k a b => (h.2.wd k a b).2⟩
theorem GS.ic (h : GS I) (c : Int) : inC I c ↔ inM I c := by
  have hm := h.m
  have hn := h.2.mn
  unfold inC inM
  constructor
  · rintro ⟨k, a, b, e⟩
    exact ⟨k, a, by omega, by rw [← h.w k a (by omega)]; exact e⟩
  · rintro ⟨k, a, b, e⟩
    exact ⟨k, a, by omega, by rw [h.w k a (by omega)]; exact e⟩
/-- the number of a word is the same in both -/
theorem GS.no (h : GS I) (c : Int) : (0 ≤ noS I c ↔ 0 ≤ noM I c) ∧ (0 ≤ noM I c → noS I c = noM I c) := by
  have hm := h.m
  have hn := h.2.mn
  have hi := h.ic c
  have h1 := no_in h.wr.1 c
  have h2 := noM_in h.wm.1 c
  refine ⟨by rw [h1, h2]; exact hi, fun h3 => ?_⟩
  have h4 : 0 ≤ noS I c := h1.mpr (hi.mpr (h2.mp h3))
  unfold noS at *
  unfold noM at *
  rcases fiS_spec (I 6) c (I 5 1).toNat 0 with ⟨a1, a2⟩ | ⟨a1, a2, a3⟩
  · omega
  · rcases laS_spec (fun j => I 118 (113 + j)) c (I 118 112).toNat with ⟨b1, b2⟩ | ⟨b1, b2, b3⟩
    · omega
    · generalize fiS (I 6) c (I 5 1).toNat 0 = i at *
      generalize laS (fun j => I 118 (113 + j)) c (I 118 112).toNat = k at *
      rw [h.w i a1 (by omega)] at a3
      have b3 : I 118 (113 + k) = c := b3
      by_cases e : i < k
      · exact absurd (a3.trans b3.symm) (h.2.ds i k a1 e (by omega))
      · by_cases e2 : k < i
        · exact absurd (b3.trans a3.symm) (h.2.ds k i b1 e2 (by omega))
        · omega
theorem GS.rk (h : GS I) (l : Int) (a : 1 ≤ l) (b : l ≤ 8) : I (rkA (I 4 7)) l = rkZ (I 118) (I 118 106) l := by
  unfold rkA rkZ
  rw [h.t]
  rcases h.2.tu with e | e
  · rw [e, if_pos rfl]
    exact h.1.r0 l a b
  · rw [e, if_neg (by omega)]
    exact h.1.r1 l a b
theorem WZ.rz {z : Int → Int} (h : WZ z) {p : Int} (hp : p = 0 ∨ p = 1) (l : Int) (a : 1 ≤ l) (b : l ≤ 8) : 0 ≤ rkZ z p l ∧ rkZ z p l ≤ 8 := by
  have := h.am l a b
  unfold rkZ
  rcases hp with e | e
  · rw [e, show 80 + 8 * 0 + l = 80 + l by omega]
    omega
  · rw [e, show 80 + 8 * 1 + l = 88 + l by omega]
    omega
theorem WZ.az {z : Int → Int} (h : WZ z) {p : Int} (hp : p = 0 ∨ p = 1) : amR (rkZ z p) := fun l a b => by
  have := h.rz hp l a b
  omega
theorem WZ.bz {z : Int → Int} (h : WZ z) : amR (bgZ z) := fun l a b => by
  have := h.am l a b
  unfold bgZ
  omega
theorem WZ.tz {z : Int → Int} (h : WZ z) : tzR z := ⟨h.dr.1, h.dr.2, h.bz⟩
theorem GS.az (h : GS I) : amR (I (rkA (I 4 7))) := fun l a b => by
  rw [h.rk l a b]
  exact h.2.az h.2.tu l a b
/-- the reasons are the same in both -/
theorem GS.rf (h : GS I) {c q d : Int} (h0 : 0 ≤ q) (h1 : q ≤ 80) (hd : d = 0 ∨ d = 1) : rfS (I 8) (inC I) (I (rkA (I 4 7))) c q d = rfS (I 118) (inM I) (rkZ (I 118) (I 118 106)) c q d := rfS_c h.be h.ic h.rk h0 h1 hd
theorem GS.wo (h : GS I) (c q d : Int) : woS (I 8) c q d = woS (I 118) c q d := woS_c h.be c q d
end GS
/-! a word comes and goes -/
theorem WZ.pw {z : Int → Int} (h : WZ z) {c : Int} (hl : 0 < lnS c) (hc : InR c) (hn : ∀ k, 0 ≤ k → k < z 112 → z (113 + k) ≠ c) (hm : z 112 < 20) : WZ (pwS z c) := by
  have hm0 := h.mn
  have e : ∀ j, j < 112 → pwS z c j = z j := fun j a => by
    unfold pwS
    rw [if_neg (by omega), if_neg (by omega)]
  have em : pwS z c 112 = z 112 + 1 := if_pos rfl
  have ew : ∀ k, 0 ≤ k → k < z 112 → pwS z c (113 + k) = z (113 + k) := fun k a b => by
    unfold pwS
    rw [if_neg (by omega), if_neg (by omega)]
  have ec : pwS z c (113 + z 112) = c := by
    unfold pwS
    rw [if_neg (by omega), if_pos rfl]
  refine ⟨fun j a b => by rw [e j (by omega)]; exact h.bd j a b, fun l a b => by rw [e _ (by omega), e _ (by omega), e _ (by omega)]; exact h.am l a b, by rw [e _ (by omega)]; exact h.dr, by rw [e _ (by omega)]; exact h.tu, by rw [em]; omega, fun k a b => ?_, fun i k a b f => ?_, fun p hp => ?_⟩
  · rw [em] at b
    by_cases ek : k = z 112
    · rw [ek, ec]; exact ⟨hl, hc⟩
    · rw [ew k a (by omega)]; exact h.wd k a (by omega)
  · rw [em] at f
    rw [ew i a (by omega)]
    by_cases ek : k = z 112
    · rw [ek, ec]; exact hn i a (by omega)
    · rw [ew k (by omega) (by omega)]; exact h.ds i k a b (by omega)
  · have : rkZ (pwS z c) p = rkZ z p ∨ True := Or.inr trivial
    have e2 : ttS (rkZ (pwS z c) p) = ttS (rkZ z p) := by
      unfold ttS rkZ
      rw [e _ (by omega), e _ (by omega), e _ (by omega), e _ (by omega), e _ (by omega), e _ (by omega), e _ (by omega), e _ (by omega)]
    rw [e2]
    exact h.rk p hp
theorem WZ.tw {z : Int → Int} (h : WZ z) {i : Int} (h0 : 0 ≤ i) (h1 : i < z 112) : WZ (twS z i) := by
  have hm0 := h.mn
  have e : ∀ j, j < 112 → twS z i j = z j := fun j a => by
    unfold twS
    rw [if_neg (by omega), if_neg (by omega)]
  have em : twS z i 112 = z 112 - 1 := if_pos rfl
  have ew : ∀ k, 0 ≤ k → k < z 112 - 1 → twS z i (113 + k) = z (113 + (if i ≤ k then k + 1 else k)) := fun k a b => by
    unfold twS
    rw [if_neg (by omega)]
    by_cases g : i ≤ k
    · rw [if_pos (by omega), if_pos g, show 113 + k + 1 = 113 + (k + 1) by omega]
    · rw [if_neg (by omega), if_neg g]
  refine ⟨fun j a b => by rw [e j (by omega)]; exact h.bd j a b, fun l a b => by rw [e _ (by omega), e _ (by omega), e _ (by omega)]; exact h.am l a b, by rw [e _ (by omega)]; exact h.dr, by rw [e _ (by omega)]; exact h.tu, by rw [em]; omega, fun k a b => ?_, fun j k a b f => ?_, fun p hp => ?_⟩
  · rw [em] at b
    rw [ew k a b]
    exact h.wd _ (by split <;> omega) (by split <;> omega)
  · rw [em] at f
    rw [ew j a (by omega), ew k (by omega) f]
    exact h.ds _ _ (by split <;> omega) (by split <;> split <;> omega) (by split <;> omega)
  · have e2 : ttS (rkZ (twS z i) p) = ttS (rkZ z p) := by
      unfold ttS rkZ
      rw [e _ (by omega), e _ (by omega), e _ (by omega), e _ (by omega), e _ (by omega), e _ (by omega), e _ (by omega), e _ (by omega)]
    rw [e2]
    exact h.rk p hp
theorem GM.pw {I : Nat → Int → Int} {z : Int → Int} (h : GM I 4 z) (hm : 0 ≤ z 112 ∧ z 112 < 20) (c : Int) : GM (xup (xup I 6 (I 5 1) c) 5 1 (I 5 1 + 1)) 4 (pwS z c) := by
  have e : ∀ j, j < 112 → pwS z c j = z j := fun j a => by
    unfold pwS
    rw [if_neg (by omega), if_neg (by omega)]
  have em := h.m
  have em : I 5 1 = z 112 := em
  have fr : ∀ a : Nat, a ≠ 5 → a ≠ 6 → xup (xup I 6 (I 5 1) c) 5 1 (I 5 1 + 1) a = I a := fun a h1 h2 => by rw [xup_ne h1, xup_ne h2]
  refine ⟨fun j a b => ?_, fun k a b => ?_, fun k a b => ?_, fun k a b => ?_, fun f a b => ?_, ?_, fun k a b => ?_⟩
  · rw [fr _ (by omega) (by omega), e j (by omega)]; exact h.b j a b
  · rw [fr _ (by omega) (by omega), e _ (by omega)]; exact h.r0 k a b
  · rw [fr _ (by omega) (by omega), e _ (by omega)]; exact h.r1 k a b
  · rw [fr _ (by omega) (by omega), e _ (by omega)]; exact h.bg k a b
  · rw [fr _ (by omega) (by omega), e _ (by omega)]; exact h.x f a b
  · show xup (xup I 6 (I 5 1) c) 5 1 (I 5 1 + 1) 5 1 = pwS z c 112
    rw [xup_at, if_pos rfl, em]
    exact (if_pos rfl).symm
  · show xup (xup I 6 (I 5 1) c) 5 1 (I 5 1 + 1) 6 k = pwS z c (113 + k)
    rw [xup_ne (by omega), xup_at, em]
    have hw : I 6 k = z (113 + k) := h.w k a b
    unfold pwS
    rw [if_neg (show ¬ 113 + k = 112 by omega)]
    by_cases ek : k = z 112
    · rw [if_pos ek, if_pos (by omega)]
    · rw [if_neg ek, if_neg (by omega), hw]
theorem GM.tw {I : Nat → Int → Int} {z : Int → Int} (h : GM I 4 z) (hm : 0 ≤ z 112 ∧ z 112 ≤ 20) {i : Int} (h0 : 0 ≤ i) (h1 : i < z 112) : GM (xup (xset I 6 (rmS (I 6) i (I 5 1 - 1))) 5 1 (I 5 1 - 1)) 4 (twS z i) := by
  have e : ∀ j, j < 112 → twS z i j = z j := fun j a => by
    unfold twS
    rw [if_neg (by omega), if_neg (by omega)]
  have em := h.m
  have em : I 5 1 = z 112 := em
  have fr : ∀ a : Nat, a ≠ 5 → a ≠ 6 → xup (xset I 6 (rmS (I 6) i (I 5 1 - 1))) 5 1 (I 5 1 - 1) a = I a := fun a h1 h2 => by rw [xup_ne h1, xset_ne h2]
  refine ⟨fun j a b => ?_, fun k a b => ?_, fun k a b => ?_, fun k a b => ?_, fun f a b => ?_, ?_, fun k a b => ?_⟩
  · rw [fr _ (by omega) (by omega), e j (by omega)]; exact h.b j a b
  · rw [fr _ (by omega) (by omega), e _ (by omega)]; exact h.r0 k a b
  · rw [fr _ (by omega) (by omega), e _ (by omega)]; exact h.r1 k a b
  · rw [fr _ (by omega) (by omega), e _ (by omega)]; exact h.bg k a b
  · rw [fr _ (by omega) (by omega), e _ (by omega)]; exact h.x f a b
  · show xup (xset I 6 (rmS (I 6) i (I 5 1 - 1))) 5 1 (I 5 1 - 1) 5 1 = twS z i 112
    rw [xup_at, if_pos rfl, em]
    exact (if_pos rfl).symm
  · show xup (xset I 6 (rmS (I 6) i (I 5 1 - 1))) 5 1 (I 5 1 - 1) 6 k = twS z i (113 + k)
    rw [xup_ne (by omega), xset_at, em]
    unfold twS rmS
    rw [if_neg (show ¬ 113 + k = 112 by omega)]
    by_cases ek : i ≤ k ∧ k < z 112 - 1
    · have hw : I 6 (k + 1) = z (113 + (k + 1)) := h.w (k + 1) (by omega) (by omega)
      rw [if_pos ek, if_pos (by omega), hw, show 113 + (k + 1) = 113 + k + 1 by omega]
    · have hw : I 6 k = z (113 + k) := h.w k a b
      rw [if_neg ek, if_neg (by omega), hw]
