/-! the reference's tiles -/
theorem cM_rackOf (I : Nat → Int → Int) (p : Int) : XR mM_rackOf [.inr 117, .inl p] (hN I) (some (.inl (81 + 8 * p))) (hN I) := by
  refine XRa.of (by decide) (Nat.le_of_ble_eq_true rfl) ?_
  repeat refine x_step rfl ?_
  exact x_iret rfl rfl rfl rfl
theorem cM_tilesIn (I : Nat → Int → Int) (q : Int) (h1 : 0 ≤ q) (h2 : q ≤ 120) : XR mM_tilesIn [.inr 117, .inl q] (hN I) (some (.inl (ttS (fun j => I 118 (q - 1 + j))))) (hN I) := by
  refine XRa.of (by decide) (Nat.le_of_ble_eq_true rfl) ?_
  have loop : ∀ (d i : Nat) (s : Int), i + d = 8 → s = xsm (fun j => I 118 (q - 1 + (j + 1))) i → XE mM_tilesIn (some (.inl (xsm (fun j => I 118 (q - 1 + (j + 1))) 8))) (hN I) 7 [(3, .inl i), (2, .inl s), (0, .inr 117), (1, .inl q)] [.inl 8, .inl i] (hN I) := by
    intro d
    induction d with
    | zero =>
      intro i s hi hs
      refine x_le rfl (by omega) (by omega) (fun hc => ?_) (fun hc => absurd (by omega) hc)
      repeat refine x_step rfl ?_
      exact x_iret rfl rfl (by rw [hs, show i = 8 by omega]) rfl
    | succ d ih =>
      intro i s hi hs
      refine x_le rfl (by omega) (by omega) (fun hc => absurd hc (by omega)) (fun hc => ?_)
      repeat refine x_step rfl ?_
      refine x_ald (len := 132) rfl (by omega) (by omega) ?_
      repeat refine x_step rfl ?_
      exact x_loc (by exact ⟨rfl, rfl, rfl, rfl, trivial⟩) (ih (i + 1) _ (by omega) (by rw [hs]; simp only [xsm]; rw [show q - 1 + ((i : Int) + 1) = q + i by omega]))
  repeat refine x_step rfl ?_
  rw [← ttS_xsm]
  exact x_loc (by exact ⟨rfl, rfl, rfl, rfl, trivial⟩) (loop 8 0 0 rfl rfl)
/-- the reference's row of numbers behind a draw of the player p, and behind so many -/
def bgZ (z : Int → Int) : Int → Int := fun j => z (96 + j)
def rkZ (z : Int → Int) (p : Int) : Int → Int := fun j => z (80 + 8 * p + j)
def dlZ (z : Int → Int) : Int := laT (bgZ z) 8 1 (dxS (z 105) % ttS (bgZ z))
def dzS (z : Int → Int) (p : Int) : Int → Int := fun j => if j = 105 then dxS (z 105) else if j = 96 + dlZ z then z j - 1 else if j = 80 + 8 * p + dlZ z then z j + 1 else z j
def fzS (p : Int) : Nat → (Int → Int) → (Int → Int)
  | 0, z => z
  | n + 1, z => if ttS (bgZ z) ≤ 0 then z else fzS p n (dzS z p)
abbrev tzR (z : Int → Int) : Prop := 0 ≤ z 105 ∧ z 105 ≤ 65536 ∧ amR (bgZ z)
theorem dlZ_R {z : Int → Int} (h : tzR z) (h2 : 0 < ttS (bgZ z)) : 1 ≤ dlZ z ∧ dlZ z ≤ 8 ∧ 1 ≤ bgZ z (dlZ z) := by
  unfold dlZ
  refine laT_spec (bgZ z) (fun k a b => (h.2.2 k a b).1) 8 1 _ (by omega) (by omega) (Int.emod_nonneg _ (by omega)) ?_
  rw [ttS_xsm]
  exact Int.emod_lt_of_pos _ h2
theorem bgZ_d {z : Int → Int} {p : Int} (hp : p = 0 ∨ p = 1) (h : tzR z) (h2 : 0 < ttS (bgZ z)) (k : Int) (h3 : 1 ≤ k) (h4 : k ≤ 8) : bgZ (dzS z p) k = upF (bgZ z) (dlZ z) (bgZ z (dlZ z) + -1) k := by
  have hd := dlZ_R h h2
  unfold bgZ dzS upF
  simp only
  by_cases e : k = dlZ z
  · rw [if_pos e, if_neg (by omega), if_pos (by omega), e]
    rfl
  · rw [if_neg e, if_neg (by omega), if_neg (by omega), if_neg (by omega)]
theorem rkZ_d {z : Int → Int} {p : Int} (hp : p = 0 ∨ p = 1) (h : tzR z) (h2 : 0 < ttS (bgZ z)) (k : Int) (h3 : 1 ≤ k) (h4 : k ≤ 8) : rkZ (dzS z p) p k = upF (rkZ z p) (dlZ z) (rkZ z p (dlZ z) + 1) k := by
  have hd := dlZ_R h h2
  unfold rkZ dzS upF
  simp only
  by_cases e : k = dlZ z
  · rw [if_pos e, if_neg (by omega), if_neg (by omega), if_pos (by omega), e]
  · rw [if_neg e, if_neg (by omega), if_neg (by omega), if_neg (by omega)]
theorem tzR_d {z : Int → Int} {p : Int} (hp : p = 0 ∨ p = 1) (h : tzR z) (h2 : 0 < ttS (bgZ z)) : tzR (dzS z p) := by
  have hd := dlZ_R h h2
  have e : dzS z p 105 = dxS (z 105) := if_pos rfl
  refine ⟨by rw [e]; unfold dxS; omega, by rw [e]; unfold dxS; omega, fun k a b => ?_⟩
  rw [bgZ_d hp h h2 k a b]
  unfold upF
  have h4 := h.2.2 k a b
  have h5 := h.2.2 (dlZ z) hd.1 hd.2.1
  split <;> omega
theorem ttS_up {f g : Int → Int} {k v : Int} (h1 : 1 ≤ k) (h2 : k ≤ 8) (hg : ∀ j : Int, 1 ≤ j → j ≤ 8 → g j = upF f k (f k + v) j) : ttS g = ttS f + v := by
  unfold ttS
  rw [hg 1 (by omega) (by omega), hg 2 (by omega) (by omega), hg 3 (by omega) (by omega), hg 4 (by omega) (by omega), hg 5 (by omega) (by omega), hg 6 (by omega) (by omega), hg 7 (by omega) (by omega), hg 8 (by omega) (by omega)]
  have hk : k = 1 ∨ k = 2 ∨ k = 3 ∨ k = 4 ∨ k = 5 ∨ k = 6 ∨ k = 7 ∨ k = 8 := by omega
  rcases hk with rfl | rfl | rfl | rfl | rfl | rfl | rfl | rfl <;> simp [upF] <;> omega
theorem cM_draw (I : Nat → Int → Int) (p : Int) (hp : p = 0 ∨ p = 1) (hz : tzR (I 118)) (hb : 0 < ttS (bgZ (I 118))) : XR mM_draw [.inr 117, .inl p] (hN I) none (hN (xset I 118 (dzS (I 118) p))) := by
  refine XRa.of (by decide) (Nat.le_of_ble_eq_true rfl) ?_
  have hd := dlZ_R hz hb
  have hx : 0 ≤ I 118 105 ∧ I 118 105 ≤ 65536 := ⟨hz.1, hz.2.1⟩
  have hbs := amR_sum hz.2.2
  have hdx : 0 ≤ dxS (I 118 105) ∧ dxS (I 118 105) ≤ 65536 := by unfold dxS; omega
  have eJ : ∀ j : Int, j ≠ 105 → xup I 118 105 (dxS (I 118 105)) 118 j = I 118 j := fun j hj => by rw [xup_at, if_neg hj]
  have e105 : xup I 118 105 (dxS (I 118 105)) 118 105 = dxS (I 118 105) := by rw [xup_at, if_pos rfl]
  have loop : ∀ (d : Nat) (k r : Int), k + d = 9 → 1 ≤ k → 0 ≤ r → r ≤ 1000 → r < xsm (fun j => bgZ (I 118) (j + k)) d → laT (bgZ (I 118)) d k r = dlZ (I 118) → XE mM_draw none (hN (xset I 118 (dzS (I 118) p))) 49 [(3, .inl (k - 1)), (2, .inl r), (0, .inr 117), (1, .inl p)] [.inl (97 + (k - 1)), .inr 118, .inl r] (hN (xup I 118 105 (dxS (I 118 105)))) := by
    intro d
    induction d with
    | zero => intro k r h1 h2 h3 h4 h5 h6; unfold xsm at h5; omega
    | succ d ih =>
      intro k r h1 h2 h3 h4 h5 h6
      unfold laT at h6
      have hk := hz.2.2 k (by omega) (by omega)
      have ez : xup I 118 105 (dxS (I 118 105)) 118 (97 + (k - 1)) = bgZ (I 118) k := by rw [eJ _ (by omega)]; unfold bgZ; rw [show 97 + (k - 1) = 96 + k by omega]
      refine x_ald (len := 132) rfl (by omega) (by omega) ?_
      rw [ez]
      refine x_lt rfl (by omega) (by omega) (fun hc => ?_) (fun hc => ?_)
      · rw [if_pos hc] at h6
        repeat refine x_step rfl ?_
        refine x_ald (len := 132) rfl (by omega) (by omega) ?_
        rw [ez]
        repeat refine x_step rfl ?_
        refine x_ast (len := 132) rfl (by omega) (by omega) ?_
        repeat refine x_step rfl ?_
        refine x_call rfl (cM_rackOf _ p) ?_
        repeat refine x_step rfl ?_
        refine x_ald (len := 132) rfl (by omega) (by omega) ?_
        repeat refine x_step rfl ?_
        refine x_ast (len := 132) rfl (by omega) (by omega) ?_
        repeat refine x_step rfl ?_
        refine x_vret rfl rfl (congrArg hN ?_)
        funext a j
        by_cases ha : a = 118
        · subst ha
          rw [xset_at]
          simp only [xup_at]
          unfold dzS
          rw [← h6]
          by_cases j1 : j = 105
          · rw [if_neg (by omega), if_neg (by omega), if_pos j1, if_pos j1]
          · rw [if_neg j1, if_neg j1]
            by_cases j2 : j = 96 + k
            · rw [if_neg (by omega), if_pos (by omega), if_pos j2]
              unfold bgZ
              rw [j2]
            · rw [if_neg j2]
              by_cases j3 : j = 80 + 8 * p + k
              · rw [if_pos (by omega), if_pos j3, if_neg (by omega), if_neg (by omega), show 81 + 8 * p + (k - 1) = j by omega]
              · rw [if_neg (by omega), if_neg (by omega), if_neg j3]
        · rw [xup_ne ha, xup_ne ha, xup_ne ha, xset_ne ha]
      · rw [if_neg hc] at h6
        repeat refine x_step rfl ?_
        refine x_ald (len := 132) rfl (by omega) (by omega) ?_
        rw [ez]
        repeat refine x_step rfl ?_
        have e : ∀ m : Nat, xsm (fun j => bgZ (I 118) (j + k)) (m + 1) = bgZ (I 118) k + xsm (fun j => bgZ (I 118) (j + (k + 1))) m := by
          intro m
          induction m with
          | zero => simp [xsm]
          | succ m im =>
            rw [show xsm (fun j => bgZ (I 118) (j + k)) (m + 1 + 1) = xsm (fun j => bgZ (I 118) (j + k)) (m + 1) + bgZ (I 118) (((m + 1 : Nat) : Int) + k) from rfl, im]
            rw [show xsm (fun j => bgZ (I 118) (j + (k + 1))) (m + 1) = xsm (fun j => bgZ (I 118) (j + (k + 1))) m + bgZ (I 118) ((m : Int) + (k + 1)) from rfl]
            rw [show ((m + 1 : Nat) : Int) + k = (m : Int) + (k + 1) by omega]
            omega
        rw [e] at h5
        have t := ih (k + 1) (r - bgZ (I 118) k) (by omega) (by omega) (by omega) (by omega) (by omega) h6
        rw [show k + 1 - 1 = k - 1 + 1 by omega] at t
        exact x_loc (by exact ⟨rfl, rfl, rfl, rfl, trivial⟩) t
  repeat refine x_step rfl ?_
  refine x_ald (len := 132) rfl (by omega) (by omega) ?_
  repeat refine x_step rfl ?_
  refine x_rem rfl (by omega) (by omega) (by omega) (by omega) ?_
  refine x_ast (len := 132) rfl (by omega) (by omega) ?_
  rw [show (I 118 105 * 75 + 74) % 65537 = dxS (I 118 105) from rfl]
  repeat refine x_step rfl ?_
  refine x_ald (len := 132) rfl (by omega) (by omega) ?_
  rw [e105]
  repeat refine x_step rfl ?_
  refine x_call rfl (cM_tilesIn _ 97 (by omega) (by omega)) ?_
  have et : ttS (fun j => xup I 118 105 (dxS (I 118 105)) 118 (97 - 1 + j)) = ttS (bgZ (I 118)) := by
    unfold ttS bgZ
    simp only
    rw [eJ _ (by omega), eJ _ (by omega), eJ _ (by omega), eJ _ (by omega), eJ _ (by omega), eJ _ (by omega), eJ _ (by omega), eJ _ (by omega)]
    rfl
  rw [et]
  refine x_rem rfl (by omega) (by omega) (by omega) (by omega) ?_
  have hm0 := Int.emod_nonneg (dxS (I 118 105)) (show ttS (bgZ (I 118)) ≠ 0 by omega)
  have hm1 := Int.emod_lt_of_pos (dxS (I 118 105)) hb
  repeat refine x_step rfl ?_
  exact x_loc (by exact ⟨rfl, rfl, rfl, rfl, trivial⟩) (loop 8 1 (dxS (I 118 105) % ttS (bgZ (I 118))) (by omega) (by omega) hm0 (by omega) (by rw [ttS_xsm]; exact hm1) rfl)
theorem cM_fillRack (p : Int) (hp : p = 0 ∨ p = 1) : ∀ (n : Nat) (I : Nat → Int → Int), tzR (I 118) → ttS (rkZ (I 118) p) = 6 - (n : Int) → 0 ≤ ttS (rkZ (I 118) p) → XR mM_fillRack [.inr 117, .inl p] (hN I) none (hN (xset I 118 (fzS p n (I 118)))) := by
  have loop : ∀ (n : Nat) (I : Nat → Int → Int) (J : Nat → Int → Int), tzR (I 118) → ttS (rkZ (I 118) p) = 6 - (n : Int) → 0 ≤ ttS (rkZ (I 118) p) → J = xset I 118 (fzS p n (I 118)) → XE mM_fillRack none (hN J) 3 [(0, .inr 117), (1, .inl p)] [.inl p, .inr 117, .inr 117] (hN I) := by
    intro n
    induction n with
    | zero =>
      intro I J hz hr hr0 hJ
      refine x_call rfl (cM_rackOf I p) ?_
      refine x_call rfl (cM_tilesIn I (81 + 8 * p) (by omega) (by omega)) ?_
      have e : (fun j => I 118 (81 + 8 * p - 1 + j)) = rkZ (I 118) p := by
        funext j
        unfold rkZ
        rw [show 81 + 8 * p - 1 + j = 80 + 8 * p + j by omega]
      rw [e]
      repeat refine x_step rfl ?_
      refine x_le rfl (by omega) (by omega) (fun hc => ?_) (fun hc => absurd (by omega) hc)
      refine x_vret rfl rfl (congrArg hN ?_)
      rw [hJ]
      exact xset_self.symm
    | succ n ih =>
      intro I J hz hr hr0 hJ
      unfold fzS at hJ
      have hbs := amR_sum hz.2.2
      refine x_call rfl (cM_rackOf I p) ?_
      refine x_call rfl (cM_tilesIn I (81 + 8 * p) (by omega) (by omega)) ?_
      have e : (fun j => I 118 (81 + 8 * p - 1 + j)) = rkZ (I 118) p := by
        funext j
        unfold rkZ
        rw [show 81 + 8 * p - 1 + j = 80 + 8 * p + j by omega]
      rw [e]
      repeat refine x_step rfl ?_
      refine x_le rfl (by omega) (by omega) (fun hc => absurd hc (by omega)) (fun hc => ?_)
      repeat refine x_step rfl ?_
      refine x_call rfl (cM_tilesIn I 97 (by omega) (by omega)) ?_
      have e2 : (fun j => I 118 (97 - 1 + j)) = bgZ (I 118) := by
        funext j
        unfold bgZ
        rw [show 97 - 1 + j = 96 + j by omega]
      rw [e2]
      refine x_le rfl (by omega) (by omega) (fun hc2 => ?_) (fun hc2 => ?_)
      · rw [if_pos hc2] at hJ
        refine x_vret rfl rfl (congrArg hN ?_)
        rw [hJ]
        exact xset_self.symm
      · rw [if_neg hc2] at hJ
        have hb : 0 < ttS (bgZ (I 118)) := by omega
        repeat refine x_step rfl ?_
        refine x_callv rfl (cM_draw I p hp hz hb) ?_
        repeat refine x_step rfl ?_
        have hd := dlZ_R hz hb
        have hrk : ttS (rkZ (dzS (I 118) p) p) = ttS (rkZ (I 118) p) + 1 := ttS_up hd.1 hd.2.1 (fun j a b => rkZ_d hp hz hb j a b)
        exact x_loc (by exact ⟨rfl, rfl, trivial⟩) (ih (xset I 118 (dzS (I 118) p)) J (by rw [xset_at]; exact tzR_d hp hz hb) (by rw [xset_at, hrk]; omega) (by rw [xset_at, hrk]; omega) (by rw [xset_at, xset_xset]; exact hJ))
  intro n I hz hr hr0
  refine XRa.of (by decide) (Nat.le_of_ble_eq_true rfl) ?_
  repeat refine x_step rfl ?_
  exact x_loc (by exact ⟨rfl, rfl, trivial⟩) (loop n I _ hz hr hr0 rfl)
