/-! tiles are never lost -/
def tlZ (z : Int → Int) (l : Int) : Int := cntZ z l 81 + z (80 + l) + z (88 + l) + z (96 + l)
theorem tl_fz {p : Int} (hp : p = 0 ∨ p = 1) (n : Nat) {z : Int → Int} (hz : tzR z) (l : Int) (a : 1 ≤ l) (b : l ≤ 8) : tlZ (fzS p n z) l = tlZ z l := by
  have h1 := fz_sum hp l a b n z hz
  have e := cntZ_c (z := z) (z' := fzS p n z) (fun j _ _ => fz_ne hp (by omega) n z hz) l
  unfold tlZ
  rw [e]
  unfold rkZ bgZ at h1
  rcases hp with rfl | rfl
  · have h2 : fzS 0 n z (88 + l) = z (88 + l) := fz_ne (Or.inl rfl) (by omega) n z hz
    rw [show (80 : Int) + 8 * 0 + l = 80 + l by omega] at h1
    omega
  · have h2 : fzS 1 n z (80 + l) = z (80 + l) := fz_ne (Or.inr rfl) (by omega) n z hz
    rw [show (80 : Int) + 8 * 1 + l = 88 + l by omega] at h1
    omega
theorem fz_tot {p : Int} (hp : p = 0 ∨ p = 1) (n : Nat) {z : Int → Int} (hz : tzR z) : ttS (rkZ (fzS p n z) p) + ttS (bgZ (fzS p n z)) = ttS (rkZ z p) + ttS (bgZ z) := by
  have h1 := fz_sum hp 1 (by omega) (by omega) n z hz
  have h2 := fz_sum hp 2 (by omega) (by omega) n z hz
  have h3 := fz_sum hp 3 (by omega) (by omega) n z hz
  have h4 := fz_sum hp 4 (by omega) (by omega) n z hz
  have h5 := fz_sum hp 5 (by omega) (by omega) n z hz
  have h6 := fz_sum hp 6 (by omega) (by omega) n z hz
  have h7 := fz_sum hp 7 (by omega) (by omega) n z hz
  have h8 := fz_sum hp 8 (by omega) (by omega) n z hz
  unfold ttS
  omega
theorem bg_nn {z : Int → Int} (h : WZ z) : 0 ≤ ttS (bgZ z) := ttS_nn (fun l a b => (h.bz l a b).1)
theorem fz_full {p : Int} (hp : p = 0 ∨ p = 1) : ∀ (n : Nat) {z : Int → Int}, WZ z → ttS (rkZ z p) + n = 6 → ttS (bgZ (fzS p n z)) = 0 ∨ ttS (rkZ (fzS p n z) p) = 6 := by
  intro n
  induction n with
  | zero => intro z h e; right; show ttS (rkZ z p) = 6; omega
  | succ n ih =>
    intro z h e
    have hn := bg_nn h
    unfold fzS
    by_cases hb : ttS (bgZ z) ≤ 0
    · rw [if_pos hb]
      left
      omega
    · rw [if_neg hb]
      have hb : 0 < ttS (bgZ z) := by omega
      have hR := dlZ_R h.tz hb
      have hrk : ttS (rkZ (dzS z p) p) = ttS (rkZ z p) + 1 := ttS_up hR.1 hR.2.1 (fun j a b => rkZ_d hp h.tz hb j a b)
      exact ih (h.dz hp hb (by omega)) (by omega)
theorem fz_empty {p : Int} (n : Nat) {z : Int → Int} (h : ttS (bgZ z) = 0) : fzS p n z = z := by
  cases n with
  | zero => rfl
  | succ n => unfold fzS; rw [if_pos (by omega)]
theorem fz_other {p : Int} (hp : p = 0 ∨ p = 1) (n : Nat) {z : Int → Int} (hz : tzR z) : ttS (rkZ (fzS p n z) (1 - p)) = ttS (rkZ z (1 - p)) := ttS_c (fun k a b => by
  show fzS p n z (80 + 8 * (1 - p) + k) = z (80 + 8 * (1 - p) + k)
  exact fz_ne hp (by omega) n z hz)
theorem KZ.iff {z : Int → Int} {p : Int} (hp : p = 0 ∨ p = 1) : KZ z ↔ (∀ l : Int, 1 ≤ l → l ≤ 8 → tlZ z l = xSUPP l.toNat) ∧ (ttS (bgZ z) = 0 ∨ (ttS (rkZ z p) = 6 ∧ ttS (rkZ z (1 - p)) = 6)) := by
  rcases hp with rfl | rfl
  · exact Iff.rfl
  · constructor
    · rintro ⟨h1, h2⟩
      exact ⟨h1, h2.imp id (fun g => ⟨g.2, g.1⟩)⟩
    · rintro ⟨h1, h2⟩
      exact ⟨h1, h2.imp id (fun g => ⟨g.2, g.1⟩)⟩
/-- a letter is put down -/
theorem cnt_up (f : Int → Int) (a v l : Int) (h0 : 0 ≤ a) : ∀ n : Nat, cntZ (upF f a v) l n = cntZ f l n + (if a < n then (if v = l then 1 else 0) - (if f a = l then 1 else 0) else 0) := by
  intro n
  induction n with
  | zero => rw [if_neg (by omega)]; rfl
  | succ n ih =>
    have e1 : cntZ (upF f a v) l (n + 1) = cntZ (upF f a v) l n + (if upF f a v n = l then 1 else 0) := rfl
    have e2 : cntZ f l (n + 1) = cntZ f l n + (if f n = l then 1 else 0) := rfl
    by_cases w : a = (n : Int)
    · have g1 : upF f a v n = v := if_pos w.symm
      rw [e1, e2, ih, if_neg (show ¬ a < (n : Int) by omega), g1, if_pos (show a < ((n + 1 : Nat) : Int) by omega), ← w]
      omega
    · have g1 : upF f a v n = f n := if_neg (fun g => w g.symm)
      by_cases w2 : a < (n : Int)
      · rw [e1, e2, ih, if_pos w2, g1, if_pos (show a < ((n + 1 : Nat) : Int) by omega)]
        omega
      · rw [e1, e2, ih, if_neg w2, g1, if_neg (show ¬ a < ((n + 1 : Nat) : Int) by omega)]
        omega
theorem cnt_pl {z : Int → Int} {c q d : Int} (h2 : 0 < lnS c) (q0 : 0 ≤ q) (q1 : q ≤ 80) (hd : d = 0 ∨ d = 1) (h9 : c0S q d + lnS c ≤ 9) {l : Int} (a : 1 ≤ l) : ∀ (n : Nat), (n : Int) ≤ lnS c → cntZ (plB z c q d n) l 81 = cntZ z l 81 + nwF z c q d l n := by
  have hc0 := c0_R (q := q) (d := d) q0 q1
  intro n
  induction n with
  | zero => intro _; show cntZ z l 81 = cntZ z l 81 + 0; omega
  | succ n ih =>
    intro hn
    rw [nwF_s]
    by_cases hz : lfS z q d n = 0
    · have hin := at_in q0 q1 hd (k := (n : Int)) (by omega) (by omega)
      have e : plB z c q d n (atS q d n) = 0 := by
        rw [plB_at n n (by omega), lf_in (b := z) (k := (n : Int)) hd q0 q1 (by omega) (by omega)]
        exact hz
      rw [plB_0 hz, cnt_up _ _ _ _ hin.1, ih (by omega), if_pos (by omega), e, if_neg (show ¬ (0 : Int) = l by omega)]
      by_cases w : wlS c n = l
      · rw [if_pos w, if_pos ⟨w, hz⟩]; omega
      · rw [if_neg w, if_neg (fun g => w g.1)]; omega
    · rw [plB_1 hz, ih (by omega), if_neg (fun g => hz g.2)]
      omega
theorem tl_pl {z : Int → Int} {p c q d : Int} (hp : p = 0 ∨ p = 1) (h2 : 0 < lnS c) (q0 : 0 ≤ q) (q1 : q ≤ 80) (hd : d = 0 ∨ d = 1) (h9 : c0S q d + lnS c ≤ 9) {l : Int} (a : 1 ≤ l) (b : l ≤ 8) : tlZ (zpl z p c q d (lnS c).toNat) l = tlZ z l := by
  have e1 : cntZ (zpl z p c q d (lnS c).toNat) l 81 = cntZ z l 81 + nwF z c q d l (lnS c).toNat := by
    rw [← cnt_pl h2 q0 q1 hd h9 a (lnS c).toNat (by omega)]
    exact cntZ_c (fun j _ g => zpl_b g) l
  have e2 := zpl_k (z := z) (c := c) (q := q) (d := d) (n := (lnS c).toNat) hp ⟨a, b⟩
  have e3 : zpl z p c q d (lnS c).toNat (96 + l) = z (96 + l) := zpl_ne (by omega) (by omega)
  have e4 : plK z (rkZ z p) c q d (lnS c).toNat l = z (80 + 8 * p + l) - nwF z c q d l (lnS c).toNat := if_pos ⟨a, b⟩
  unfold tlZ
  rw [e1, e3]
  rcases hp with rfl | rfl
  · have e5 : zpl z 0 c q d (lnS c).toNat (88 + l) = z (88 + l) := zpl_ne (by omega) (by omega)
    rw [show (80 : Int) + 8 * 0 + l = 80 + l by omega] at e2 e4
    rw [e5, e2, e4]
    omega
  · have e5 : zpl z 1 c q d (lnS c).toNat (80 + l) = z (80 + l) := zpl_ne (by omega) (by omega)
    rw [show (80 : Int) + 8 * 1 + l = 88 + l by omega] at e2 e4
    rw [e5, e2, e4]
    omega
theorem tl_c {z z' : Int → Int} (h : ∀ j : Int, 0 ≤ j → j ≤ 104 → z' j = z j) {l : Int} (a : 1 ≤ l) (b : l ≤ 8) : tlZ z' l = tlZ z l := by
  unfold tlZ
  rw [cntZ_c (fun j g w => h j g (by omega)), h _ (by omega) (by omega), h _ (by omega) (by omega), h _ (by omega) (by omega)]
theorem KZ.dp {z : Int → Int} (hk : KZ z) (hw : WZ z) {c q d : Int} (h2 : 0 < lnS c) (q0 : 0 ≤ q) (q1 : q ≤ 80) (hd : d = 0 ∨ d = 1) (h9 : c0S q d + lnS c ≤ 9) (h8 : ¬ r8P z (rkZ z (z 106)) c q d) : KZ (dpZ z c q d) := by
  have hp := hw.tu
  have h3 := hw.d3 h2 h8
  have hr := h3.rn hp
  obtain ⟨k1, k2⟩ := (KZ.iff hp).mp hk
  have d3 : ∀ j : Int, 0 ≤ j → j ≤ 104 → dp3 z c q d j = zpl z (z 106) c q d (lnS c).toNat j := fun j a b => by
    unfold dp3 upF
    rw [if_neg (by omega), if_neg (by omega)]
  have hf := fz_full hp (6 - ttS (rkZ (dp3 z c q d) (z 106))).toNat h3 (by omega)
  have ho := fz_other hp (6 - ttS (rkZ (dp3 z c q d) (z 106))).toNat h3.tz
  have ht := fun l a b => tl_fz hp (6 - ttS (rkZ (dp3 z c q d) (z 106))).toNat h3.tz l a b
  have he := fz_empty (p := z 106) (6 - ttS (rkZ (dp3 z c q d) (z 106))).toNat (z := dp3 z c q d)
  have eb : ttS (bgZ (dp3 z c q d)) = ttS (bgZ z) := ttS_c (fun k a b => by
    show dp3 z c q d (96 + k) = z (96 + k)
    rw [d3 _ (by omega) (by omega)]
    exact zpl_ne (by omega) (by omega))
  have eo : ttS (rkZ (dp3 z c q d) (1 - z 106)) = ttS (rkZ z (1 - z 106)) := ttS_c (fun k a b => by
    show dp3 z c q d (80 + 8 * (1 - z 106) + k) = z (80 + 8 * (1 - z 106) + k)
    rw [d3 _ (by omega) (by omega)]
    exact zpl_ne (by omega) (by omega))
  have et : ∀ l : Int, 1 ≤ l → l ≤ 8 → tlZ (dp3 z c q d) l = tlZ z l := fun l a b => by
    rw [tl_c d3 a b]
    exact tl_pl hp h2 q0 q1 hd h9 a b
  refine KZ.of (z := fzS (z 106) (6 - ttS (rkZ (dp3 z c q d) (z 106))).toNat (dp3 z c q d)) ?_ (fun j a b => by unfold dpZ upF; rw [if_neg (by omega)])
  generalize (6 - ttS (rkZ (dp3 z c q d) (z 106))).toNat = n at *
  refine (KZ.iff hp).mpr ⟨fun l a b => by rw [ht l a b, et l a b]; exact k1 l a b, ?_⟩
  by_cases w : ttS (bgZ (dp3 z c q d)) = 0
  · left
    rw [he w]
    exact w
  · rcases hf with hf | hf
    · exact Or.inl hf
    · right
      refine ⟨hf, ?_⟩
      rw [ho, eo]
      rcases k2 with k2 | k2
      · exact absurd (eb.trans k2) w
      · exact k2.2
theorem KZ.sw {z : Int → Int} (hk : KZ z) (hw : WZ z) (hc : ttS (rkZ z (z 106)) ≤ ttS (bgZ z)) : KZ (swZ z) := by
  have hp := hw.tu
  have h1 := hw.s1 hp
  have hr := hw.rn hp
  have ht := sw1_t z (z 106)
  have h2 := h1.fz hp 6 (by omega)
  obtain ⟨k1, k2⟩ := (KZ.iff hp).mp hk
  have hs : ∀ l : Int, 1 ≤ l → l ≤ 8 → rkZ (fzS (z 106) 6 (sw1 z (z 106))) (z 106) l + bgZ (fzS (z 106) 6 (sw1 z (z 106))) l = bgZ z l := fun l a b => by
    rw [fz_sum hp l a b 6 _ h1.tz, sw1_k a b, sw1_b hp a]; omega
  have hne : ∀ j : Int, (j ≤ 80 + 8 * z 106 ∨ 88 + 8 * z 106 < j ∧ j ≤ 96 ∨ 106 ≤ j) → fzS (z 106) 6 (sw1 z (z 106)) j = sw1 z (z 106) j := fun j hj => fz_ne hp hj 6 _ h1.tz
  have hf := fz_full hp 6 h1 (by omega)
  have hto := fz_tot hp 6 h1.tz
  have e1 : ttS (bgZ (sw1 z (z 106))) = ttS (bgZ z) := ttS_c (fun k a b => sw1_b hp a)
  have he := fz_empty (p := z 106) 6 (z := sw1 z (z 106))
  have hr2 := h2.rn hp
  have hb2 := bg_nn h2
  rw [e1, ht] at hto
  refine KZ.of (z := sw3 z (fzS (z 106) 6 (sw1 z (z 106))) (z 106)) ?_ (fun j a b => by unfold swZ upF; rw [if_neg (by omega), if_neg (by omega)])
  generalize fzS (z 106) 6 (sw1 z (z 106)) = w at *
  have e : ∀ j, ¬ (97 ≤ j ∧ j ≤ 104) → sw3 z w (z 106) j = w j := fun j a => if_neg a
  have e3 : ∀ l : Int, 1 ≤ l → l ≤ 8 → sw3 z w (z 106) (96 + l) = w (96 + l) + z (80 + 8 * z 106 + l) := fun l a b => by
    unfold sw3
    rw [if_pos (by omega), show 96 + l - 96 = l by omega]
  have er : ∀ p : Int, p = 0 ∨ p = 1 → ttS (rkZ (sw3 z w (z 106)) p) = ttS (rkZ w p) := fun p hp2 => ttS_c (fun l a b => by unfold rkZ; exact e _ (by omega))
  have eo : ttS (rkZ w (1 - z 106)) = ttS (rkZ z (1 - z 106)) := ttS_c (fun l a b => by
    unfold rkZ
    rw [hne _ (by omega)]
    exact sw1_ne (by omega))
  refine (KZ.iff hp).mpr ⟨fun l a b => ?_, ?_⟩
  · have h5 := hs l a b
    have h6 := k1 l a b
    have ec : cntZ (sw3 z w (z 106)) l 81 = cntZ z l 81 := cntZ_c (fun j _ g => by rw [e j (by omega), hne j (by omega)]; exact sw1_ne (by omega)) l
    unfold rkZ bgZ at h5
    unfold tlZ at h6 ⊢
    rw [ec, e (80 + l) (by omega), e (88 + l) (by omega), e3 l a b]
    rcases hp with g | g
    · have h7 := hne (88 + l) (by omega)
      rw [sw1_ne (by omega)] at h7
      rw [g, show 80 + 8 * 0 + l = 80 + l by omega] at h5 ⊢
      omega
    · have h7 := hne (80 + l) (by omega)
      rw [sw1_ne (by omega)] at h7
      rw [g, show 80 + 8 * 1 + l = 88 + l by omega] at h5 ⊢
      omega
  · rw [er _ hp, er _ (by omega), eo]
    rcases k2 with k2 | k2
    · left
      have hz0 : ttS (rkZ z (z 106)) = 0 := by omega
      have hzl : ∀ l : Int, 1 ≤ l → l ≤ 8 → rkZ z (z 106) l = 0 := fun l a b => by
        have g := fun l a b => (hw.rz hp l a b).1
        have g1 := g 1 (by omega) (by omega)
        have g2 := g 2 (by omega) (by omega)
        have g3 := g 3 (by omega) (by omega)
        have g4 := g 4 (by omega) (by omega)
        have g5 := g 5 (by omega) (by omega)
        have g6 := g 6 (by omega) (by omega)
        have g7 := g 7 (by omega) (by omega)
        have g8 := g 8 (by omega) (by omega)
        unfold ttS at hz0
        have hl : l = 1 ∨ l = 2 ∨ l = 3 ∨ l = 4 ∨ l = 5 ∨ l = 6 ∨ l = 7 ∨ l = 8 := by omega
        rcases hl with rfl | rfl | rfl | rfl | rfl | rfl | rfl | rfl <;> omega
      have hwe : w = sw1 z (z 106) := he (by rw [e1]; exact k2)
      have : ttS (bgZ (sw3 z w (z 106))) = ttS (bgZ z) := ttS_c (fun l a b => by
        have h7 := hzl l a b
        have h8 := sw1_b (z := z) hp a
        unfold rkZ at h7
        unfold bgZ at h8 ⊢
        rw [e3 l a b, h7, hwe, h8]
        omega)
      rw [this]
      exact k2
    · right
      omega
/-- the tiles at the beginning -/
theorem KZ_start (hw : WZ zB) (hw0 : WZ (fzS 0 6 zB)) (hw1 : WZ (fzS 1 6 (fzS 0 6 zB))) (e0 : ttS (rkZ zB 0) = 0) (e1 : ttS (rkZ zB 1) = 0) (hb : ∀ k : Int, 1 ≤ k → k ≤ 8 → zB (96 + k) = xSUPP k.toNat) (hz : ∀ j : Int, j ≤ 96 → zB j = 0) : KZ (fzS 1 6 (fzS 0 6 zB)) ∧ ttS (bgZ (fzS 1 6 (fzS 0 6 zB))) = 26 := by
  have b0 : ttS (bgZ zB) = 38 := by
    rw [ttS_c (f := bgZ zB) (g := fun k => xSUPP k.toNat) (fun k a b => hb k a b)]
    rfl
  have f0 := fz_full (p := 0) (Or.inl rfl) 6 hw (by omega)
  have t0 := fz_tot (p := 0) (Or.inl rfl) 6 hw.tz
  have r0 := hw0.rn (p := 0) (Or.inl rfl)
  have o0 : ttS (rkZ (fzS 0 6 zB) 1) = 0 := by rw [← e1]; exact fz_other (p := 0) (Or.inl rfl) 6 hw.tz
  have f1 := fz_full (p := 1) (Or.inr rfl) 6 hw0 (by omega)
  have t1 := fz_tot (p := 1) (Or.inr rfl) 6 hw0.tz
  have r1 := hw1.rn (p := 1) (Or.inr rfl)
  have o1 : ttS (rkZ (fzS 1 6 (fzS 0 6 zB)) 0) = ttS (rkZ (fzS 0 6 zB) 0) := fz_other (p := 1) (Or.inr rfl) 6 hw0.tz
  refine ⟨⟨fun l a b => ?_, Or.inr ⟨by omega, by omega⟩⟩, by omega⟩
  show tlZ (fzS 1 6 (fzS 0 6 zB)) l = _
  rw [tl_fz (Or.inr rfl) 6 hw0.tz l a b, tl_fz (Or.inl rfl) 6 hw.tz l a b]
  unfold tlZ
  have ec : cntZ zB l 81 = cntZ (fun _ => 0) l 81 := cntZ_c (fun j _ g => hz j (by omega)) l
  have ec2 : cntZ (fun _ => 0) l 81 = 0 := by
    unfold cntZ
    rw [show (fun j : Int => if (fun _ : Int => (0 : Int)) j = l then (1 : Int) else 0) = fun _ => 0 from funext (fun j => if_neg (by show ¬ (0 : Int) = l; omega))]
    exact xsm_z 81
  rw [ec, ec2, hz _ (by omega), hz _ (by omega), hb l a b]
  omega
