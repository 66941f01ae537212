/-! a swap: both alike -/
theorem dz_sum {z : Int → Int} (hz : tzR z) {p : Int} (hp : p = 0 ∨ p = 1) (hb : 0 < ttS (bgZ z)) (l : Int) (a : 1 ≤ l) (b : l ≤ 8) : rkZ (dzS z p) p l + bgZ (dzS z p) l = rkZ z p l + bgZ z l := by
  rw [rkZ_d hp hz hb l a b, bgZ_d hp hz hb l a b]
  unfold upF
  by_cases g : l = dlZ z
  · rw [if_pos g, if_pos g, ← g]; omega
  · rw [if_neg g, if_neg g]
theorem fz_sum {p : Int} (hp : p = 0 ∨ p = 1) (l : Int) (a : 1 ≤ l) (b : l ≤ 8) : ∀ (n : Nat) (z : Int → Int), tzR z → rkZ (fzS p n z) p l + bgZ (fzS p n z) l = rkZ z p l + bgZ z l := by
  intro n
  induction n with
  | zero => intro z _; rfl
  | succ n ih =>
    intro z hz
    unfold fzS
    by_cases hb : ttS (bgZ z) ≤ 0
    · rw [if_pos hb]
    · rw [if_neg hb]
      have hb : 0 < ttS (bgZ z) := by omega
      rw [ih _ (tzR_d hp hz hb), dz_sum hz hp hb l a b]
def sw1 (z : Int → Int) (p : Int) : Int → Int := fun j => if 81 + 8 * p ≤ j ∧ j ≤ 88 + 8 * p then 0 else z j
def sw3 (z w : Int → Int) (p : Int) : Int → Int := fun j => if 97 ≤ j ∧ j ≤ 104 then w j + z (80 + 8 * p + (j - 96)) else w j
def swZ (z : Int → Int) : Int → Int := upF (upF (sw3 z (fzS (z 106) 6 (sw1 z (z 106))) (z 106)) 111 (z 111 + 1)) 106 (1 - z 106)
theorem sw1_ne {z : Int → Int} {p j : Int} (h : ¬ (81 + 8 * p ≤ j ∧ j ≤ 88 + 8 * p)) : sw1 z p j = z j := if_neg h
theorem sw1_k {z : Int → Int} {p l : Int} (a : 1 ≤ l) (b : l ≤ 8) : rkZ (sw1 z p) p l = 0 := by
  unfold rkZ sw1
  rw [if_pos (by omega)]
theorem sw1_b {z : Int → Int} {p l : Int} (hp : p = 0 ∨ p = 1) (a : 1 ≤ l) : bgZ (sw1 z p) l = bgZ z l := by
  unfold bgZ
  exact sw1_ne (by omega)
theorem WZ.s1 {z : Int → Int} (h : WZ z) {p : Int} (hp : p = 0 ∨ p = 1) : WZ (sw1 z p) := by
  have hR := h.rn hp
  refine h.of (fun j a b => sw1_ne (by omega)) (fun j a b => by rw [sw1_ne (by omega)]; exact h.bd j a b) (fun l a b => ?_) (by rw [sw1_ne (by omega)]; exact h.dr) (by rw [sw1_ne (by omega)]; exact h.tu) (fun p2 hp2 => ?_)
  · have h3 := h.am l a b
    have h4 := sw1_k (z := z) (p := p) a b
    unfold rkZ at h4
    rcases hp with e | e
    · rw [e, show 80 + 8 * 0 + l = 80 + l by omega] at h4
      rw [e, h4, sw1_ne (j := 88 + l) (by omega), sw1_ne (j := 96 + l) (by omega)]
      omega
    · rw [e, show 80 + 8 * 1 + l = 88 + l by omega] at h4
      rw [e, h4, sw1_ne (j := 80 + l) (by omega), sw1_ne (j := 96 + l) (by omega)]
      omega
  · by_cases g : p2 = p
    · rw [g]
      have : ttS (rkZ (sw1 z p) p) = 0 := by
        rw [ttS_c (g := fun _ => 0) (fun l a b => sw1_k a b)]
        rfl
      omega
    · have : ttS (rkZ (sw1 z p) p2) = ttS (rkZ z p2) := ttS_c (fun l a b => by unfold rkZ; exact sw1_ne (by omega))
      rw [this]
      exact h.rk p2 hp2
theorem sw1_t (z : Int → Int) (p : Int) : ttS (rkZ (sw1 z p) p) = 0 := by
  rw [ttS_c (g := fun _ => 0) (fun l a b => sw1_k a b)]
  rfl
theorem WZ.sw {z : Int → Int} (h : WZ z) : WZ (swZ z) := by
  have hp := h.tu
  have h1 := h.s1 hp
  have ht := sw1_t z (z 106)
  have h2 := h1.fz hp 6 (by omega)
  have hs : ∀ l : Int, 1 ≤ l → l ≤ 8 → rkZ (fzS (z 106) 6 (sw1 z (z 106))) (z 106) l + bgZ (fzS (z 106) 6 (sw1 z (z 106))) l = bgZ z l := fun l a b => by
    rw [fz_sum hp l a b 6 _ h1.tz, sw1_k a b, sw1_b hp a]; omega
  have hne : ∀ j : Int, (j ≤ 80 + 8 * z 106 ∨ 88 + 8 * z 106 < j ∧ j ≤ 96 ∨ 106 ≤ j) → fzS (z 106) 6 (sw1 z (z 106)) j = sw1 z (z 106) j := fun j hj => fz_ne hp hj 6 _ h1.tz
  unfold swZ
  generalize fzS (z 106) 6 (sw1 z (z 106)) = w at *
  have h3 : WZ (sw3 z w (z 106)) := by
    have e : ∀ j, ¬ (97 ≤ j ∧ j ≤ 104) → sw3 z w (z 106) j = w j := fun j a => if_neg a
    refine h2.of (fun j a b => e j (by omega)) (fun j a b => by rw [e j (by omega)]; exact h2.bd j a b) (fun l a b => ?_) (by rw [e _ (by omega)]; exact h2.dr) (by rw [e _ (by omega)]; exact h2.tu) (fun p2 hp2 => ?_)
    · have h4 := h2.am l a b
      have h5 := hs l a b
      have h6 := h.am l a b
      unfold rkZ bgZ at h5
      have e3 : sw3 z w (z 106) (96 + l) = w (96 + l) + z (80 + 8 * z 106 + l) := by
        unfold sw3
        rw [if_pos (by omega), show 96 + l - 96 = l by omega]
      rw [e (80 + l) (by omega), e (88 + l) (by omega), e3]
      rcases hp with g | g
      · have h7 := hne (88 + l) (by omega)
        rw [sw1_ne (by omega)] at h7
        rw [g, show 80 + 8 * 0 + l = 80 + l by omega] at h5 ⊢
        omega
      · have h7 := hne (80 + l) (by omega)
        rw [sw1_ne (by omega)] at h7
        rw [g, show 80 + 8 * 1 + l = 88 + l by omega] at h5 ⊢
        omega
    · have : ttS (rkZ (sw3 z w (z 106)) p2) = ttS (rkZ w p2) := ttS_c (fun l a b => by unfold rkZ; exact e _ (by omega))
      rw [this]
      exact h2.rk p2 hp2
  exact (h3.f (j := 111) (by omega) (by omega) (fun w => by omega)).f (j := 106) (by omega) (by omega) (fun _ => by omega)
/-- the tiles put aside are all zero between two calls -/
def AS (I : Nat → Int → Int) : Prop := ∀ k : Int, 1 ≤ k → k ≤ 8 → I 16 k = 0
theorem GS.sw {I : Nat → Int → Int} (h : GS I) (hA : AS I) : GM (swI I (rkA (I 4 7))) 4 (swZ (I 118)) ∧ AS (swI I (rkA (I 4 7))) := by
  obtain ⟨hG, hW⟩ := h
  have hp := hW.tu
  have e7 : I 4 7 = I 118 106 := hG.x 7 (by omega) (by omega)
  have e12 : I 4 12 = I 118 111 := hG.x 12 (by omega) (by omega)
  have h1 := hW.s1 hp
  have hA2 : rkA (I 4 7) = 10 ∨ rkA (I 4 7) = 12 := by unfold rkA; split <;> simp
  have hpA : rkA (I 4 7) = 10 ↔ I 4 7 = 0 := by unfold rkA; split <;> omega
  have hrk : ∀ l : Int, 1 ≤ l → l ≤ 8 → I (rkA (I 4 7)) l = rkZ (I 118) (I 118 106) l := fun l a b => by
    have := hG.rz (p := I 4 7) (by omega) l a b
    rw [this, e7]
  -- the rack is aside
  have g1 : GM (mvH I (rkA (I 4 7)) 16 9) 4 (sw1 (I 118) (I 118 106)) := by
    refine ⟨fun j a b => ?_, fun k a b => ?_, fun k a b => ?_, fun k a b => ?_, fun i a b => ?_, ?_, fun k a b => ?_⟩
    · rw [mvH_ne (by omega) (by omega), sw1_ne (by omega)]; exact hG.b j a b
    · rcases hp with e | e
      · show mvH I (rkA (I 4 7)) 16 9 10 k = _
        rw [hpA.mpr (by omega), mvH_A]
        show (if 1 ≤ k ∧ k < 9 then 0 else I 10 k) = _
        rw [if_pos (by omega)]
        unfold sw1
        rw [if_pos (by omega)]
      · rw [mvH_ne (by omega) (by omega), sw1_ne (by omega)]; exact hG.r0 k a b
    · rcases hp with e | e
      · rw [mvH_ne (by omega) (by omega), sw1_ne (by omega)]; exact hG.r1 k a b
      · show mvH I (rkA (I 4 7)) 16 9 12 k = _
        rw [show rkA (I 4 7) = 12 by omega, mvH_A]
        show (if 1 ≤ k ∧ k < 9 then 0 else I 12 k) = _
        rw [if_pos (by omega)]
        unfold sw1
        rw [if_pos (by omega)]
    · rw [mvH_ne (by omega) (by omega), sw1_ne (by omega)]; exact hG.bg k a b
    · rw [mvH_ne (by omega) (by omega), sw1_ne (by omega)]; exact hG.x i a b
    · rw [mvH_ne (by omega) (by omega), sw1_ne (by omega)]; exact hG.m
    · rw [mvH_ne (by omega) (by omega), sw1_ne (by omega)]; exact hG.w k a b
  have a1 : ∀ k : Int, 1 ≤ k → k ≤ 8 → mvH I (rkA (I 4 7)) 16 9 16 k = rkZ (I 118) (I 118 106) k := fun k a b => by
    rw [mvH_A2 (by omega)]
    show (if 1 ≤ k ∧ k < 9 then I 16 k + I (rkA (I 4 7)) k else I 16 k) = _
    rw [if_pos (by omega), hA k a b, hrk k a b]; omega
  have t1 : ttS (mvH I (rkA (I 4 7)) 16 9 (rkA (I 4 7))) = 0 := by rw [mvH_A]; simp [ttS]
  -- new tiles
  have g2 := g1.fz h1.tz hp 6
  rw [← e7] at g2
  have a2 : ∀ k : Int, fiH (mvH I (rkA (I 4 7)) 16 9) (rkA (I 4 7)) (fiT 6 (mvH I (rkA (I 4 7)) 16 9 4 6, mvH I (rkA (I 4 7)) 16 9 14, mvH I (rkA (I 4 7)) 16 9 (rkA (I 4 7)))) 16 k = mvH I (rkA (I 4 7)) 16 9 16 k := fun k => by
    unfold fiH
    rw [xset_ne (by omega), xset_ne (by omega), xup_ne (by omega)]
  have eSW : swI I (rkA (I 4 7)) = xup (xup (mvH (fiH (mvH I (rkA (I 4 7)) 16 9) (rkA (I 4 7)) (fiT 6 (mvH I (rkA (I 4 7)) 16 9 4 6, mvH I (rkA (I 4 7)) 16 9 14, mvH I (rkA (I 4 7)) 16 9 (rkA (I 4 7))))) 16 14 9) 4 12 (mvH (fiH (mvH I (rkA (I 4 7)) 16 9) (rkA (I 4 7)) (fiT 6 (mvH I (rkA (I 4 7)) 16 9 4 6, mvH I (rkA (I 4 7)) 16 9 14, mvH I (rkA (I 4 7)) 16 9 (rkA (I 4 7))))) 16 14 9 4 12 + 1)) 4 7 (1 - mvH (fiH (mvH I (rkA (I 4 7)) 16 9) (rkA (I 4 7)) (fiT 6 (mvH I (rkA (I 4 7)) 16 9 4 6, mvH I (rkA (I 4 7)) 16 9 14, mvH I (rkA (I 4 7)) 16 9 (rkA (I 4 7))))) 16 14 9 4 7) := by
    unfold swI
    simp only
    rw [t1]
    rfl
  have hz7 : fzS (I 118 106) 6 (sw1 (I 118) (I 118 106)) 106 = I 118 106 := by rw [fz_ne hp (by omega) 6 _ h1.tz, sw1_ne (by omega)]
  have hz12 : fzS (I 118 106) 6 (sw1 (I 118) (I 118 106)) 111 = I 118 111 := by rw [fz_ne hp (by omega) 6 _ h1.tz, sw1_ne (by omega)]
  rw [eSW]
  generalize fiH (mvH I (rkA (I 4 7)) 16 9) (rkA (I 4 7)) (fiT 6 (mvH I (rkA (I 4 7)) 16 9 4 6, mvH I (rkA (I 4 7)) 16 9 14, mvH I (rkA (I 4 7)) 16 9 (rkA (I 4 7)))) = K at *
  rw [e7] at g2
  unfold swZ
  generalize fzS (I 118 106) 6 (sw1 (I 118) (I 118 106)) = w at *
  -- the old ones go into the bag
  have k14 : ∀ k : Int, 1 ≤ k → k ≤ 8 → K 14 k = w (96 + k) := g2.bg
  have g3 : GM (mvH K 16 14 9) 4 (sw3 (I 118) w (I 118 106)) := by
    have e : ∀ j, ¬ (97 ≤ j ∧ j ≤ 104) → sw3 (I 118) w (I 118 106) j = w j := fun j a => if_neg a
    refine ⟨fun j a b => ?_, fun k a b => ?_, fun k a b => ?_, fun k a b => ?_, fun i a b => ?_, ?_, fun k a b => ?_⟩
    · rw [mvH_ne (by omega) (by omega), e _ (by omega)]; exact g2.b j a b
    · rw [mvH_ne (by omega) (by omega), e _ (by omega)]; exact g2.r0 k a b
    · rw [mvH_ne (by omega) (by omega), e _ (by omega)]; exact g2.r1 k a b
    · show mvH K 16 14 9 14 k = _
      rw [mvH_A2 (by omega)]
      show (if 1 ≤ k ∧ k < 9 then K 14 k + K 16 k else K 14 k) = _
      rw [if_pos (by omega), k14 k a b, a2 k, a1 k a b]
      unfold sw3 rkZ
      rw [if_pos (by omega), show 96 + k - 96 = k by omega]
    · rw [mvH_ne (by omega) (by omega), e _ (by omega)]; exact g2.x i a b
    · rw [mvH_ne (by omega) (by omega), e _ (by omega)]; exact g2.m
    · rw [mvH_ne (by omega) (by omega), e _ (by omega)]; exact g2.w k a b
  have v12 : mvH K 16 14 9 4 12 = I 118 111 := by
    rw [mvH_ne (by omega) (by omega), g2.x 12 (by omega) (by omega)]
    exact hz12
  have v7 : mvH K 16 14 9 4 7 = I 118 106 := by
    rw [mvH_ne (by omega) (by omega), g2.x 7 (by omega) (by omega)]
    exact hz7
  rw [v12, v7]
  refine ⟨(g3.f (f := 12) (by omega) (by omega) _).f (f := 7) (by omega) (by omega) _, fun k a b => ?_⟩
  rw [xup_ne (by omega), xup_ne (by omega), mvH_A]
  show (if 1 ≤ k ∧ k < 9 then 0 else K 16 k) = 0
  rw [if_pos (by omega)]
