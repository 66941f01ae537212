/-! a play is made: the reference -/
def zpl (z : Int → Int) (p c q d : Int) (n : Nat) : Int → Int := fun j => if j ≤ 80 then plB z c q d n j else if 81 + 8 * p ≤ j ∧ j ≤ 88 + 8 * p then plK z (rkZ z p) c q d n (j - 80 - 8 * p) else z j
theorem zpl_b {z : Int → Int} {p c q d : Int} {n : Nat} {j : Int} (h : j ≤ 80) : zpl z p c q d n j = plB z c q d n j := if_pos h
theorem zpl_k {z : Int → Int} {p c q d : Int} {n : Nat} {l : Int} (hp : p = 0 ∨ p = 1) (h : 1 ≤ l ∧ l ≤ 8) : zpl z p c q d n (80 + 8 * p + l) = plK z (rkZ z p) c q d n l := by
  unfold zpl
  rw [if_neg (by omega), if_pos (by omega), show 80 + 8 * p + l - 80 - 8 * p = l by omega]
theorem zpl_ne {z : Int → Int} {p c q d : Int} {n : Nat} {j : Int} (h : 80 < j) (h2 : ¬ (81 + 8 * p ≤ j ∧ j ≤ 88 + 8 * p)) : zpl z p c q d n j = z j := by
  unfold zpl
  rw [if_neg (by omega), if_neg h2]
theorem zpl_0 {z : Int → Int} {p c q d : Int} : zpl z p c q d 0 = z := by
  funext j
  unfold zpl
  rw [plK_z]
  by_cases h : j ≤ 80
  · rw [if_pos h]; rfl
  · rw [if_neg h]
    split
    · unfold rkZ
      rw [show 80 + 8 * p + (j - 80 - 8 * p) = j by omega]
    · rfl
theorem zpl_s1 {z : Int → Int} {p c q d : Int} {n : Nat} (h : lfS z q d n ≠ 0) : zpl z p c q d (n + 1) = zpl z p c q d n := by
  unfold zpl
  rw [plK_1 h, plB_1 h]
theorem zpl_s0 {z : Int → Int} {p c q d : Int} {n : Nat} (hp : p = 0 ∨ p = 1) (h : lfS z q d n = 0) (hw : 1 ≤ wlS c n ∧ wlS c n ≤ 8) (ha : 0 ≤ atS q d n ∧ atS q d n ≤ 80) : upF (upF (zpl z p c q d n) (atS q d n) (wlS c n)) (80 + 8 * p + wlS c n) (zpl z p c q d n (80 + 8 * p + wlS c n) - 1) = zpl z p c q d (n + 1) := by
  funext j
  rw [zpl_k hp hw]
  by_cases h1 : j ≤ 80
  · rw [zpl_b h1, plB_0 h]
    unfold upF
    rw [if_neg (by omega), zpl_b h1]
  · by_cases h2 : 81 + 8 * p ≤ j ∧ j ≤ 88 + 8 * p
    · have e := zpl_k (z := z) (c := c) (q := q) (d := d) (n := n + 1) (l := j - 80 - 8 * p) hp (by omega)
      have e2 := zpl_k (z := z) (c := c) (q := q) (d := d) (n := n) (l := j - 80 - 8 * p) hp (by omega)
      rw [show 80 + 8 * p + (j - 80 - 8 * p) = j by omega] at e e2
      rw [e, ← plK_0 h hw]
      unfold upF
      by_cases g : j = 80 + 8 * p + wlS c n
      · rw [if_pos g, if_pos (by omega)]; omega
      · rw [if_neg g, if_neg (by omega), if_neg (by omega), e2]
    · rw [zpl_ne (by omega) h2]
      unfold upF
      rw [if_neg (by omega), if_neg (by omega), zpl_ne (by omega) h2]
/-- the numbers behind a play -/
def dp3 (z : Int → Int) (c q d : Int) : Int → Int := upF (upF (zpl z (z 106) c q d (lnS c).toNat) (107 + z 106) (z (107 + z 106) + woS z c q d)) 109 (z 109 + 1)
def dpZ (z : Int → Int) (c q d : Int) : Int → Int := upF (fzS (z 106) (6 - ttS (rkZ (dp3 z c q d) (z 106))).toNat (dp3 z c q d)) 106 (1 - z 106)
theorem dp3_k {z : Int → Int} (ht : z 106 = 0 ∨ z 106 = 1) {c q d l : Int} (h : 1 ≤ l ∧ l ≤ 8) : rkZ (dp3 z c q d) (z 106) l = rkZ z (z 106) l - nwF z c q d l (lnS c).toNat := by
  have e := zpl_k (z := z) (c := c) (q := q) (d := d) (n := (lnS c).toNat) (l := l) ht h
  unfold rkZ dp3 upF
  rw [if_neg (by omega), if_neg (by omega), e]
  unfold plK
  rw [if_pos h]
  rfl
theorem plB_R {b : Int → Int} (hb : bdR b) {c q d : Int} (h2 : 0 < lnS c) : ∀ (n : Nat), (n : Int) ≤ lnS c → bdR (plB b c q d n) := by
  intro n
  induction n with
  | zero => intro _; exact hb
  | succ n ih =>
    intro h j a e
    have hw := wlS_R (i := n) h2 (by omega) (by omega)
    by_cases hz : lfS b q d n = 0
    · rw [plB_0 hz]
      unfold upF
      split
      · omega
      · exact ih (by omega) j a e
    · rw [plB_1 hz]; exact ih (by omega) j a e
/-- what a play without a reason leaves keeps to the same -/
theorem WZ.d3 {z : Int → Int} (h : WZ z) {c q d : Int} (h2 : 0 < lnS c) (h8 : ¬ r8P z (rkZ z (z 106)) c q d) : WZ (dp3 z c q d) := by
  have hl := lnS_le c
  have hd := h.tu
  have hn : ∀ l : Int, 1 ≤ l → l ≤ 8 → 0 ≤ nwF z c q d l (lnS c).toNat ∧ nwF z c q d l (lnS c).toNat ≤ rkZ z (z 106) l := fun l a b => by
    refine ⟨(nwF_R z c q d l _).1, ?_⟩
    by_cases w : nwF z c q d l (lnS c).toNat ≤ rkZ z (z 106) l
    · exact w
    · exact absurd ⟨l, a, b, by unfold nwS; omega⟩ h8
  have eh : ∀ j, 110 ≤ j ∨ j = 105 ∨ j = 106 ∨ (96 < j ∧ j ≤ 104) ∨ (80 < j ∧ j ≤ 88 ∧ z 106 = 1) ∨ (88 < j ∧ j ≤ 96 ∧ z 106 = 0) → dp3 z c q d j = z j := fun j a => by
    unfold dp3 upF
    rw [if_neg (by omega), if_neg (by omega), zpl_ne (by omega) (by omega)]
  have ek : ∀ l, 1 ≤ l → l ≤ 8 → dp3 z c q d (80 + 8 * z 106 + l) = z (80 + 8 * z 106 + l) - nwF z c q d l (lnS c).toNat := fun l a b => dp3_k hd ⟨a, b⟩
  refine h.of (fun j a b => eh j (by omega)) (fun j a b => ?_) (fun l a b => ?_) (by rw [eh _ (by omega)]; exact h.dr) (by rw [eh _ (by omega)]; exact hd) (fun p hp => ?_)
  · have : dp3 z c q d j = plB z c q d (lnS c).toNat j := by
      unfold dp3 upF
      rw [if_neg (by omega), if_neg (by omega), zpl_b b]
    rw [this]
    exact plB_R h.bd h2 _ (by omega) j a b
  · have h3 := h.am l a b
    have h4 := hn l a b
    have h5 := ek l a b
    unfold rkZ at h4
    rcases hd with e | e
    · rw [e, show 80 + 8 * 0 + l = 80 + l by omega] at h4 h5
      rw [h5, eh (88 + l) (by omega), eh (96 + l) (by omega)]
      omega
    · rw [e, show 80 + 8 * 1 + l = 88 + l by omega] at h4 h5
      rw [h5, eh (80 + l) (by omega), eh (96 + l) (by omega)]
      omega
  · have h6 := h.rk p hp
    have hle : ∀ l : Int, 1 ≤ l → l ≤ 8 → rkZ (dp3 z c q d) p l ≤ rkZ z p l := fun l a b => by
      by_cases g : p = z 106
      · subst g
        rw [dp3_k hd ⟨a, b⟩]
        have := hn l a b
        omega
      · unfold rkZ
        rw [eh _ (by omega)]
        exact Int.le_refl _
    have := hle 1 (by omega) (by omega); have := hle 2 (by omega) (by omega); have := hle 3 (by omega) (by omega); have := hle 4 (by omega) (by omega)
    have := hle 5 (by omega) (by omega); have := hle 6 (by omega) (by omega); have := hle 7 (by omega) (by omega); have := hle 8 (by omega) (by omega)
    unfold ttS at h6 ⊢
    omega
theorem ttS_nn {f : Int → Int} (h : ∀ l : Int, 1 ≤ l → l ≤ 8 → 0 ≤ f l) : 0 ≤ ttS f := by
  have := h 1 (by omega) (by omega); have := h 2 (by omega) (by omega); have := h 3 (by omega) (by omega); have := h 4 (by omega) (by omega)
  have := h 5 (by omega) (by omega); have := h 6 (by omega) (by omega); have := h 7 (by omega) (by omega); have := h 8 (by omega) (by omega)
  unfold ttS
  omega
theorem WZ.rn {z : Int → Int} (h : WZ z) {p : Int} (hp : p = 0 ∨ p = 1) : 0 ≤ ttS (rkZ z p) ∧ ttS (rkZ z p) ≤ 6 := ⟨ttS_nn (fun l a b => (h.rz hp l a b).1), h.rk p hp⟩
theorem dp3_6 {z : Int → Int} (ht : z 106 = 0 ∨ z 106 = 1) {c q d : Int} : dp3 z c q d 106 = z 106 := by
  unfold dp3 upF
  rw [if_neg (by omega), if_neg (by omega), zpl_ne (by omega) (by omega)]
theorem WZ.dp {z : Int → Int} (h : WZ z) {c q d : Int} (h2 : 0 < lnS c) (h8 : ¬ r8P z (rkZ z (z 106)) c q d) : WZ (dpZ z c q d) := by
  have h3 := h.d3 h2 h8
  have hd := h.tu
  have h4 := h3.rn hd
  unfold dpZ
  exact (h3.fz hd _ (by omega)).f (by omega) (by omega) (fun _ => by omega)
theorem cM_doPlay (I : Nat → Int → Int) (c q d : Int) (hr : plR c q d) (hz : WZ (I 118)) (h9 : c0S q d + lnS c ≤ 9) (h8 : ¬ r8P (I 118) (rkZ (I 118) (I 118 106)) c q d) : XR mM_doPlay [.inr 117, .inl c, .inl q, .inl d] (hN I) (some (.inl (woS (I 118) c q d))) (hN (xset (xset I 122 (wrS (wrS (I 122) c 0) c 0)) 118 (dpZ (I 118) c q d))) := by
  refine XRa.of (by decide) (Nat.le_of_ble_eq_true rfl) ?_
  obtain ⟨r1, r2, r3, r4, hd⟩ := id hr
  have hl := lnS_le c
  have hc0 := c0_R (d := d) r3 r4
  have hsc := cM_scoreOf I c q d hr hz.bd h9
  have hsp := cM_spell (xset I 122 (wrS (I 122) c 0)) c r1 r2
  rw [xset_at, xset_xset] at hsp
  have e118 : xset I 122 (wrS (wrS (I 122) c 0) c 0) 118 = I 118 := xset_ne (by omega)
  have e122 : ∀ i, 0 ≤ i → i < lnS c → xset I 122 (wrS (wrS (I 122) c 0) c 0) 122 i = wlS c i := fun i a b => by
    rw [xset_at]
    unfold wrS
    rw [if_pos ⟨a, b⟩]
  generalize xset I 122 (wrS (wrS (I 122) c 0) c 0) = J at *
  rw [← e118] at hz h8 hsc ⊢
  have ht := hz.tu
  -- the tiles are down
  have hd3 := hz.d3 r2 h8
  have hrn := hd3.rn ht
  have fin : ∀ (L : XL), xsub L [(4, .inl (woS (J 118) c q d)), (0, .inr 117)] → XE mM_doPlay (some (.inl (woS (J 118) c q d))) (hN (xset J 118 (dpZ (J 118) c q d))) 115 L [.inl 106, .inr 118, .inl 107, .inr 118] (hN (xset J 118 (zpl (J 118) (J 118 106) c q d (lnS c).toNat))) := by
    intro L hL
    refine x_loc hL ?_
    have z6 : zpl (J 118) (J 118 106) c q d (lnS c).toNat 106 = J 118 106 := zpl_ne (by omega) (by omega)
    have z7 : zpl (J 118) (J 118 106) c q d (lnS c).toNat (107 + J 118 106) = J 118 (107 + J 118 106) := zpl_ne (by omega) (by omega)
    have z9 : zpl (J 118) (J 118 106) c q d (lnS c).toNat 109 = J 118 109 := zpl_ne (by omega) (by omega)
    have w9 : upF (zpl (J 118) (J 118 106) c q d (lnS c).toNat) (107 + J 118 106) (J 118 (107 + J 118 106) + woS (J 118) c q d) 109 = J 118 109 := by unfold upF; rw [if_neg (by omega), z9]
    refine x_ald (len := 132) rfl (by omega) (by omega) ?_
    rw [xset_at, z6]
    repeat refine x_step rfl ?_
    refine x_ald (len := 132) rfl (by omega) (by omega) ?_
    rw [xset_at, z7]
    repeat refine x_step rfl ?_
    refine x_ast (len := 132) rfl (by omega) (by omega) ?_
    rw [xup_set, xset_xset, xset_at]
    repeat refine x_step rfl ?_
    refine x_ald (len := 132) rfl (by omega) (by omega) ?_
    rw [xset_at, w9]
    repeat refine x_step rfl ?_
    refine x_ast (len := 132) rfl (by omega) (by omega) ?_
    rw [xup_set, xset_xset, xset_at]
    show XEa mM_doPlay 0 0 0 0 _ _ _ _ _ (hN (xset J 118 (dp3 (J 118) c q d)))
    repeat refine x_step rfl ?_
    refine x_ald (len := 132) rfl (by omega) (by omega) ?_
    rw [xset_at, dp3_6 ht]
    refine x_callv rfl (cM_fillRack (J 118 106) ht (6 - ttS (rkZ (dp3 (J 118) c q d) (J 118 106))).toNat (xset J 118 (dp3 (J 118) c q d)) (by rw [xset_at]; exact hd3.tz) (by rw [xset_at]; omega) (by rw [xset_at]; omega)) ?_
    rw [xset_at, xset_xset]
    have f6 : fzS (J 118 106) (6 - ttS (rkZ (dp3 (J 118) c q d) (J 118 106))).toNat (dp3 (J 118) c q d) 106 = J 118 106 := by
      rw [fz_ne ht (by omega) _ _ hd3.tz, dp3_6 ht]
    repeat refine x_step rfl ?_
    refine x_ald (len := 132) rfl (by omega) (by omega) ?_
    rw [xset_at, f6]
    repeat refine x_step rfl ?_
    refine x_ast (len := 132) rfl (by omega) (by omega) ?_
    rw [xup_set, xset_xset, xset_at]
    repeat refine x_step rfl ?_
    exact x_iret rfl rfl rfl rfl
  have loop : ∀ (n i : Nat), (i : Int) + n = lnS c → XE mM_doPlay (some (.inl (woS (J 118) c q d))) (hN (xset J 118 (dpZ (J 118) c q d))) 23 [(6, .inl (i : Int)), (5, .inl (lnS c)), (4, .inl (woS (J 118) c q d)), (3, .inl d), (2, .inl q), (0, .inr 117)] [.inl (lnS c), .inl (i : Int)] (hN (xset J 118 (zpl (J 118) (J 118 106) c q d i))) := by
    intro n
    induction n with
    | zero =>
      intro i h1
      have ei : i = (lnS c).toNat := by omega
      rw [ei]
      refine x_le rfl (by omega) (by omega) (fun hc => ?_) (fun hc => absurd (by omega) hc)
      repeat refine x_step rfl ?_
      exact fin _ (by exact ⟨rfl, rfl, trivial⟩)
    | succ n ih =>
      intro i h1
      have ha := at_in (k := i) r3 r4 hd (by omega) (by omega)
      have hwl := wlS_R (i := i) r2 (by omega) (by omega)
      have hlf := lf_in (b := J 118) (k := i) hd r3 r4 (by omega) (by omega)
      have hlR := lfS_R hz.bd q d i
      have hle : xset J 118 (zpl (J 118) (J 118 106) c q d i) 122 i = wlS c i := by rw [xset_ne (by omega)]; exact e122 i (by omega) (by omega)
      have next := ih (i + 1) (by omega)
      have ei : ((i + 1 : Nat) : Int) = (i : Int) + 1 := by omega
      rw [ei] at next
      clear ih
      have z0 : zpl (J 118) (J 118 106) c q d i (atS q d i) = lfS (J 118) q d i := by rw [zpl_b ha.2.1, plB_at i i (by omega), hlf]
      have z6 : zpl (J 118) (J 118 106) c q d i 106 = J 118 106 := zpl_ne (by omega) (by omega)
      have at2 : ∀ t : Int, t = (if d = 0 then 1 else 9) → XE mM_doPlay (some (.inl (woS (J 118) c q d))) (hN (xset J 118 (dpZ (J 118) c q d))) 49 [(7, .inl (q + t * i)), (6, .inl (i : Int)), (5, .inl (lnS c)), (4, .inl (woS (J 118) c q d)), (3, .inl d), (2, .inl q), (0, .inr 117)] [.inl (q + t * i), .inr 118] (hN (xset J 118 (zpl (J 118) (J 118 106) c q d i))) := by
        intro t htt
        have et : q + t * i = atS q d i := by
          rw [htt]
          rcases hd with rfl | rfl
          · rw [at_0, if_pos rfl]; omega
          · rw [at_1, if_neg (by omega)]
        rw [et]
        refine x_ald (len := 132) rfl (by omega) (by omega) ?_
        rw [xset_at, z0]
        refine x_eq rfl (by omega) (by omega) (fun hz => ?_) (fun hz => ?_)
        · have es := zpl_s0 ht hz hwl ⟨ha.1, ha.2.1⟩
          repeat refine x_step rfl ?_
          refine x_ald (len := 6) rfl (by omega) (by omega) ?_
          rw [hle]
          refine x_ast (len := 132) rfl (by omega) (by omega) ?_
          rw [xup_set, xset_xset, xset_at]
          repeat refine x_step rfl ?_
          refine x_ald (len := 132) rfl (by omega) (by omega) ?_
          rw [xset_at, show upF (zpl (J 118) (J 118 106) c q d i) (atS q d i) (wlS c i) 106 = J 118 106 by unfold upF; rw [if_neg (by omega), z6]]
          refine x_call rfl (cM_rackOf _ _) ?_
          repeat refine x_step rfl ?_
          refine x_ald (len := 6) rfl (by omega) (by omega) ?_
          rw [xset_ne (show (122 : Nat) ≠ 118 by omega), e122 i (by omega) (by omega)]
          repeat refine x_step rfl ?_
          refine x_ald (len := 132) rfl (by omega) (by omega) ?_
          rw [xset_at]
          repeat refine x_step rfl ?_
          refine x_ast (len := 132) rfl (by omega) (by omega) ?_
          rw [xup_set, xset_xset, xset_at, show 81 + 8 * J 118 106 + wlS c i - 1 = 80 + 8 * J 118 106 + wlS c i by omega, show upF (zpl (J 118) (J 118 106) c q d i) (atS q d i) (wlS c i) (80 + 8 * J 118 106 + wlS c i) = zpl (J 118) (J 118 106) c q d i (80 + 8 * J 118 106 + wlS c i) from if_neg (by omega), es]
          repeat refine x_step rfl ?_
          exact x_loc (by exact ⟨rfl, rfl, rfl, rfl, rfl, rfl, trivial⟩) next
        · rw [zpl_s1 hz] at next
          repeat refine x_step rfl ?_
          exact x_loc (by exact ⟨rfl, rfl, rfl, rfl, rfl, rfl, trivial⟩) next
      clear next
      refine x_le rfl (by omega) (by omega) (fun hc => absurd hc (by omega)) (fun hc => ?_)
      repeat refine x_step rfl ?_
      refine x_eq rfl (by omega) (by omega) (fun hz => ?_) (fun hz => ?_)
      · repeat refine x_step rfl ?_
        exact x_loc (by exact ⟨rfl, rfl, rfl, rfl, rfl, rfl, rfl, trivial⟩) (at2 1 (by rw [if_pos hz]))
      · repeat refine x_step rfl ?_
        exact x_loc (by exact ⟨rfl, rfl, rfl, rfl, rfl, rfl, rfl, trivial⟩) (at2 9 (by rw [if_neg hz]))
  have go := loop (lnS c).toNat 0 (by omega)
  rw [zpl_0, xset_self] at go
  repeat refine x_step rfl ?_
  refine x_call rfl hsc ?_
  repeat refine x_step rfl ?_
  refine x_call rfl hsp ?_
  repeat refine x_step rfl ?_
  exact x_loc (by exact ⟨rfl, rfl, rfl, rfl, rfl, rfl, trivial⟩) go
