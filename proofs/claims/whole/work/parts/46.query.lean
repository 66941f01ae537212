/-! the queries that look at one thing -/
section QUERY
variable {I : Nat → Int → Int}
theorem S_word (h : SIM I) (k : Int) (hk : InR k) : SAM mB_word mM_word [.inl k] I := by
  have hG := h.1
  have hm := hG.m
  have hmn := hG.2.mn
  by_cases h1 : 0 ≤ k ∧ k < I 118 112
  · refine S_err _ _ h (I 118 (113 + k)) ?_ ?_
    · refine XRa.of (by decide) (Nat.le_of_ble_eq_true rfl) ?_
      repeat refine x_step rfl ?_
      refine x_lt rfl (by omega) (by omega) (fun w => by omega) (fun w => ?_)
      repeat refine x_step rfl ?_
      refine x_lt rfl (by omega) (by omega) (fun w => ?_) (fun w => by omega)
      repeat refine x_step rfl ?_
      refine x_call rfl (cW_codeOf I k h1.1 (by omega)) ?_
      exact x_iret rfl rfl (hG.w k h1.1 (by omega)) rfl
    · refine XRa.of (by decide) (Nat.le_of_ble_eq_true rfl) ?_
      repeat refine x_step rfl ?_
      refine x_ald (len := 132) rfl (by omega) (by omega) ?_
      repeat refine x_step rfl ?_
      refine x_call rfl (c_in _ k 0 (I 118 112 - 1) hk (by omega) (by omega)) ?_
      rw [if_pos (by omega)]
      refine x_eq rfl (by omega) (by omega) (fun w => by omega) (fun w => ?_)
      repeat refine x_step rfl ?_
      refine x_ald (len := 132) rfl (by omega) (by omega) ?_
      repeat refine x_step rfl ?_
      exact x_iret rfl rfl rfl rfl
  · refine S_err _ _ h (-1) ?_ ?_
    · refine XRa.of (by decide) (Nat.le_of_ble_eq_true rfl) ?_
      repeat refine x_step rfl ?_
      refine x_lt rfl (by omega) (by omega) (fun w => ?_) (fun w => ?_)
      · repeat refine x_step rfl ?_
        exact x_iret rfl rfl rfl rfl
      · repeat refine x_step rfl ?_
        refine x_lt rfl (by omega) (by omega) (fun w => by omega) (fun w => ?_)
        repeat refine x_step rfl ?_
        exact x_iret rfl rfl rfl rfl
    · refine XRa.of (by decide) (Nat.le_of_ble_eq_true rfl) ?_
      repeat refine x_step rfl ?_
      refine x_ald (len := 132) rfl (by omega) (by omega) ?_
      repeat refine x_step rfl ?_
      refine x_call rfl (c_in _ k 0 (I 118 112 - 1) hk (by omega) (by omega)) ?_
      rw [if_neg (by omega)]
      refine x_eq rfl (by omega) (by omega) (fun w => ?_) (fun w => absurd rfl w)
      repeat refine x_step rfl ?_
      exact x_iret rfl rfl rfl rfl
theorem S_tile (h : SIM I) (q : Int) (hq : InR q) : SAM mB_tile mM_tile [.inl q] I := by
  have hG := h.1
  by_cases h1 : 0 ≤ q ∧ q ≤ 80
  · refine S_err _ _ h (I 118 q) ?_ ?_
    · refine XRa.of (by decide) (Nat.le_of_ble_eq_true rfl) ?_
      repeat refine x_step rfl ?_
      refine x_call rfl (cB_isSquare _ q hq) ?_
      rw [if_pos h1]
      refine x_eq rfl (by omega) (by omega) (fun w => by omega) (fun w => ?_)
      repeat refine x_step rfl ?_
      refine x_call rfl (cS_letterOn I q h1.1 h1.2) ?_
      repeat refine x_step rfl ?_
      exact x_iret rfl rfl (hG.be q h1.1 h1.2) rfl
    · refine XRa.of (by decide) (Nat.le_of_ble_eq_true rfl) ?_
      repeat refine x_step rfl ?_
      refine x_call rfl (cM_isSquare _ q hq) ?_
      rw [if_pos h1]
      refine x_eq rfl (by omega) (by omega) (fun w => by omega) (fun w => ?_)
      repeat refine x_step rfl ?_
      refine x_ald (len := 132) rfl (by omega) (by omega) ?_
      repeat refine x_step rfl ?_
      exact x_iret rfl rfl rfl rfl
  · refine S_err _ _ h (-1) ?_ ?_
    · refine XRa.of (by decide) (Nat.le_of_ble_eq_true rfl) ?_
      repeat refine x_step rfl ?_
      refine x_call rfl (cB_isSquare _ q hq) ?_
      rw [if_neg h1]
      refine x_eq rfl (by omega) (by omega) (fun w => ?_) (fun w => absurd rfl w)
      repeat refine x_step rfl ?_
      exact x_iret rfl rfl rfl rfl
    · refine XRa.of (by decide) (Nat.le_of_ble_eq_true rfl) ?_
      repeat refine x_step rfl ?_
      refine x_call rfl (cM_isSquare _ q hq) ?_
      rw [if_neg h1]
      refine x_eq rfl (by omega) (by omega) (fun w => ?_) (fun w => absurd rfl w)
      repeat refine x_step rfl ?_
      exact x_iret rfl rfl rfl rfl
/-- off the board -/
theorem S_run (h : SIM I) (q d : Int) (hq : InR q) (hd : d = 0 ∨ d = 1) : SAM mB_run mM_run [.inl q, .inl d] I := by
  have hG := h.1
  by_cases h1 : 0 ≤ q ∧ q ≤ 80
  · have hb := hG.2.bd q h1.1 h1.2
    have he := hG.be q h1.1 h1.2
    by_cases h2 : I 118 q = 0
    · refine S_err _ _ h (-5) ?_ ?_
      · refine XRa.of (by decide) (Nat.le_of_ble_eq_true rfl) ?_
        repeat refine x_step rfl ?_
        refine x_call rfl (cB_isSquare _ q hq) ?_
        rw [if_pos h1]
        refine x_eq rfl (by omega) (by omega) (fun w => by omega) (fun w => ?_)
        repeat refine x_step rfl ?_
        refine x_call rfl (cS_letterOn I q h1.1 h1.2) ?_
        repeat refine x_step rfl ?_
        refine x_eq rfl (by omega) (by omega) (fun w => ?_) (fun w => by omega)
        repeat refine x_step rfl ?_
        refine x_eq rfl (by omega) (by omega) (fun w => ?_) (fun w => absurd rfl w)
        repeat refine x_step rfl ?_
        exact x_iret rfl rfl rfl rfl
      · refine XRa.of (by decide) (Nat.le_of_ble_eq_true rfl) ?_
        repeat refine x_step rfl ?_
        refine x_call rfl (cM_isSquare _ q hq) ?_
        rw [if_pos h1]
        refine x_eq rfl (by omega) (by omega) (fun w => by omega) (fun w => ?_)
        repeat refine x_step rfl ?_
        refine x_ald (len := 132) rfl (by omega) (by omega) ?_
        refine x_eq rfl (by omega) (by omega) (fun w => ?_) (fun w => by omega)
        repeat refine x_step rfl ?_
        exact x_iret rfl rfl rfl rfl
    · have hR := rnS_R hG.2.bd h1.1 h1.2 hd hb
      refine S_err _ _ h (if rnS (I 118) q d (I 118 q) = 0 then -5 else rnS (I 118) q d (I 118 q)) ?_ ?_
      · refine XRa.of (by decide) (Nat.le_of_ble_eq_true rfl) ?_
        repeat refine x_step rfl ?_
        refine x_call rfl (cB_isSquare _ q hq) ?_
        rw [if_pos h1]
        refine x_eq rfl (by omega) (by omega) (fun w => by omega) (fun w => ?_)
        repeat refine x_step rfl ?_
        refine x_call rfl (cS_letterOn I q h1.1 h1.2) ?_
        rw [he]
        repeat refine x_step rfl ?_
        refine x_eq rfl (by omega) (by omega) (fun w => by omega) (fun w => ?_)
        repeat refine x_step rfl ?_
        refine x_call rfl (cS_runThrough I hG.bd8 q d _ h1.1 h1.2 hd (by omega)) ?_
        rw [rnS_c hG.be]
        repeat refine x_step rfl ?_
        refine x_eq rfl (by omega) (by omega) (fun w => ?_) (fun w => ?_)
        · repeat refine x_step rfl ?_
          exact x_iret rfl rfl (by rw [if_pos w]) rfl
        · repeat refine x_step rfl ?_
          exact x_iret rfl rfl (by rw [if_neg w]) rfl
      · refine XRa.of (by decide) (Nat.le_of_ble_eq_true rfl) ?_
        repeat refine x_step rfl ?_
        refine x_call rfl (cM_isSquare _ q hq) ?_
        rw [if_pos h1]
        refine x_eq rfl (by omega) (by omega) (fun w => by omega) (fun w => ?_)
        repeat refine x_step rfl ?_
        refine x_ald (len := 132) rfl (by omega) (by omega) ?_
        refine x_eq rfl (by omega) (by omega) (fun w => by omega) (fun w => ?_)
        repeat refine x_step rfl ?_
        refine x_ald (len := 132) rfl (by omega) (by omega) ?_
        refine x_call rfl (cM_runWith I hG.2.bd q d _ h1.1 h1.2 hd (by omega)) ?_
        exact x_iret rfl rfl rfl rfl
  · refine S_err _ _ h (-1) ?_ ?_
    · refine XRa.of (by decide) (Nat.le_of_ble_eq_true rfl) ?_
      repeat refine x_step rfl ?_
      refine x_call rfl (cB_isSquare _ q hq) ?_
      rw [if_neg h1]
      refine x_eq rfl (by omega) (by omega) (fun w => ?_) (fun w => absurd rfl w)
      repeat refine x_step rfl ?_
      exact x_iret rfl rfl rfl rfl
    · refine XRa.of (by decide) (Nat.le_of_ble_eq_true rfl) ?_
      repeat refine x_step rfl ?_
      refine x_call rfl (cM_isSquare _ q hq) ?_
      rw [if_neg h1]
      refine x_eq rfl (by omega) (by omega) (fun w => ?_) (fun w => absurd rfl w)
      repeat refine x_step rfl ?_
      exact x_iret rfl rfl rfl rfl
theorem S_crossCheck (h : SIM I) (q d : Int) (hq : InR q) (hd : d = 0 ∨ d = 1) : SAM mB_crossCheck mM_crossCheck [.inl q, .inl d] I := by
  have hG := h.1
  by_cases h1 : 0 ≤ q ∧ q ≤ 80
  · have hb := hG.2.bd q h1.1 h1.2
    have he := hG.be q h1.1 h1.2
    by_cases h2 : I 118 q = 0
    · refine S_err _ _ h (csF (alP (I 118) (inM I) q d) 8) ?_ ?_
      · refine XRa.of (by decide) (Nat.le_of_ble_eq_true rfl) ?_
        repeat refine x_step rfl ?_
        refine x_call rfl (cB_isSquare _ q hq) ?_
        rw [if_pos h1]
        refine x_eq rfl (by omega) (by omega) (fun w => by omega) (fun w => ?_)
        repeat refine x_step rfl ?_
        refine x_call rfl (cS_letterOn I q h1.1 h1.2) ?_
        refine x_eq rfl (by omega) (by omega) (fun w => ?_) (fun w => by omega)
        repeat refine x_step rfl ?_
        refine x_call rfl (cG_crossSet I hG.bd8 hG.wr q d h1.1 h1.2 hd) ?_
        rw [csF_c hG.be hG.ic]
        exact x_iret rfl rfl rfl rfl
      · refine XRa.of (by decide) (Nat.le_of_ble_eq_true rfl) ?_
        repeat refine x_step rfl ?_
        refine x_call rfl (cM_isSquare _ q hq) ?_
        rw [if_pos h1]
        refine x_eq rfl (by omega) (by omega) (fun w => by omega) (fun w => ?_)
        repeat refine x_step rfl ?_
        refine x_ald (len := 132) rfl (by omega) (by omega) ?_
        refine x_le rfl (by omega) (by omega) (fun w => ?_) (fun w => by omega)
        repeat refine x_step rfl ?_
        refine x_call rfl (cM_crossSet I hG.2.bd hG.wm q d h1.1 h1.2 hd) ?_
        exact x_iret rfl rfl rfl rfl
    · refine S_err _ _ h (-5) ?_ ?_
      · refine XRa.of (by decide) (Nat.le_of_ble_eq_true rfl) ?_
        repeat refine x_step rfl ?_
        refine x_call rfl (cB_isSquare _ q hq) ?_
        rw [if_pos h1]
        refine x_eq rfl (by omega) (by omega) (fun w => by omega) (fun w => ?_)
        repeat refine x_step rfl ?_
        refine x_call rfl (cS_letterOn I q h1.1 h1.2) ?_
        refine x_eq rfl (by omega) (by omega) (fun w => by omega) (fun w => ?_)
        repeat refine x_step rfl ?_
        exact x_iret rfl rfl rfl rfl
      · refine XRa.of (by decide) (Nat.le_of_ble_eq_true rfl) ?_
        repeat refine x_step rfl ?_
        refine x_call rfl (cM_isSquare _ q hq) ?_
        rw [if_pos h1]
        refine x_eq rfl (by omega) (by omega) (fun w => by omega) (fun w => ?_)
        repeat refine x_step rfl ?_
        refine x_ald (len := 132) rfl (by omega) (by omega) ?_
        refine x_le rfl (by omega) (by omega) (fun w => by omega) (fun w => ?_)
        repeat refine x_step rfl ?_
        exact x_iret rfl rfl rfl rfl
  · refine S_err _ _ h (-1) ?_ ?_
    · refine XRa.of (by decide) (Nat.le_of_ble_eq_true rfl) ?_
      repeat refine x_step rfl ?_
      refine x_call rfl (cB_isSquare _ q hq) ?_
      rw [if_neg h1]
      refine x_eq rfl (by omega) (by omega) (fun w => ?_) (fun w => absurd rfl w)
      repeat refine x_step rfl ?_
      exact x_iret rfl rfl rfl rfl
    · refine XRa.of (by decide) (Nat.le_of_ble_eq_true rfl) ?_
      repeat refine x_step rfl ?_
      refine x_call rfl (cM_isSquare _ q hq) ?_
      rw [if_neg h1]
      refine x_eq rfl (by omega) (by omega) (fun w => ?_) (fun w => absurd rfl w)
      repeat refine x_step rfl ?_
      exact x_iret rfl rfl rfl rfl
theorem S_anchor (h : SIM I) (q : Int) (hq : InR q) : SAM mB_anchor mM_anchor [.inl q] I := by
  have hG := h.1
  by_cases h1 : 0 ≤ q ∧ q ≤ 80
  · have h01 := anS01 (I 118) q
    refine S_err _ _ h (anS (I 118) q) ?_ ?_
    · refine XRa.of (by decide) (Nat.le_of_ble_eq_true rfl) ?_
      repeat refine x_step rfl ?_
      refine x_call rfl (cB_isSquare _ q hq) ?_
      rw [if_pos h1]
      refine x_eq rfl (by omega) (by omega) (fun w => by omega) (fun w => ?_)
      repeat refine x_step rfl ?_
      refine x_call rfl (cS_isAnchor I hG.bd8 q h1.1 h1.2) ?_
      rw [anS_c hG.be h1.1 h1.2]
      refine x_eq rfl (by omega) (by omega) (fun w => ?_) (fun w => ?_)
      · repeat refine x_step rfl ?_
        exact x_iret rfl rfl (by omega) rfl
      · repeat refine x_step rfl ?_
        exact x_iret rfl rfl (by omega) rfl
    · refine XRa.of (by decide) (Nat.le_of_ble_eq_true rfl) ?_
      repeat refine x_step rfl ?_
      refine x_call rfl (cM_isSquare _ q hq) ?_
      rw [if_pos h1]
      refine x_eq rfl (by omega) (by omega) (fun w => by omega) (fun w => ?_)
      repeat refine x_step rfl ?_
      refine x_call rfl (cM_isAnchor I hG.2.bd q h1.1 h1.2) ?_
      refine x_eq rfl (by omega) (by omega) (fun w => ?_) (fun w => ?_)
      · repeat refine x_step rfl ?_
        exact x_iret rfl rfl (by omega) rfl
      · repeat refine x_step rfl ?_
        exact x_iret rfl rfl (by omega) rfl
  · refine S_err _ _ h (-1) ?_ ?_
    · refine XRa.of (by decide) (Nat.le_of_ble_eq_true rfl) ?_
      repeat refine x_step rfl ?_
      refine x_call rfl (cB_isSquare _ q hq) ?_
      rw [if_neg h1]
      refine x_eq rfl (by omega) (by omega) (fun w => ?_) (fun w => absurd rfl w)
      repeat refine x_step rfl ?_
      exact x_iret rfl rfl rfl rfl
    · refine XRa.of (by decide) (Nat.le_of_ble_eq_true rfl) ?_
      repeat refine x_step rfl ?_
      refine x_call rfl (cM_isSquare _ q hq) ?_
      rw [if_neg h1]
      refine x_eq rfl (by omega) (by omega) (fun w => ?_) (fun w => absurd rfl w)
      repeat refine x_step rfl ?_
      exact x_iret rfl rfl rfl rfl
theorem S_tiles (h : SIM I) (p l : Int) (hp : InR p) (hl : InR l) : SAM mB_tiles mM_tiles [.inl p, .inl l] I := by
  have hG := h.1
  by_cases h1 : 0 ≤ p ∧ p ≤ 2 ∧ 1 ≤ l ∧ l ≤ 8
  · refine S_err _ _ h (I 118 (80 + 8 * p + l)) ?_ ?_
    · refine XRa.of (by decide) (Nat.le_of_ble_eq_true rfl) ?_
      repeat refine x_step rfl ?_
      refine x_lt rfl (by omega) (by omega) (fun w => by omega) (fun w => ?_)
      repeat refine x_step rfl ?_
      refine x_lt rfl (by omega) (by omega) (fun w => by omega) (fun w => ?_)
      repeat refine x_step rfl ?_
      refine x_lt rfl (by omega) (by omega) (fun w => by omega) (fun w => ?_)
      repeat refine x_step rfl ?_
      refine x_le rfl (by omega) (by omega) (fun w => ?_) (fun w => by omega)
      repeat refine x_step rfl ?_
      refine x_eq rfl (by omega) (by omega) (fun w => ?_) (fun w => ?_)
      · repeat refine x_step rfl ?_
        refine x_call rfl (cT_of I 13 14 (by unfold tsP; omega) l (by omega) (by omega)) ?_
        repeat refine x_step rfl ?_
        have e : I 14 l = I 118 (96 + l) := hG.1.bg l (by omega) (by omega)
        exact x_iret rfl rfl (by rw [e, w, show (80 : Int) + 8 * 2 + l = 96 + l by omega]) rfl
      · repeat refine x_step rfl ?_
        refine x_call rfl (cG_rackOf I p (by omega)) ?_
        repeat refine x_step rfl ?_
        have hp01 : p = 0 ∨ p = 1 := by omega
        have e := hG.1.rz hp01 l (by omega) (by omega)
        unfold rkA rkZ at e
        rcases hp01 with rfl | rfl
        · rw [if_pos rfl] at e
          rw [if_pos rfl]
          refine x_call rfl (cT_of I 9 10 (by unfold tsP; omega) l (by omega) (by omega)) ?_
          exact x_iret rfl rfl e rfl
        · rw [if_neg (by omega)] at e
          rw [if_neg (by omega)]
          refine x_call rfl (cT_of I 11 12 (by unfold tsP; omega) l (by omega) (by omega)) ?_
          exact x_iret rfl rfl e rfl
    · refine XRa.of (by decide) (Nat.le_of_ble_eq_true rfl) ?_
      repeat refine x_step rfl ?_
      refine x_call rfl (c_in _ p 0 2 hp (by omega) (by omega)) ?_
      rw [if_pos (by omega)]
      refine x_eq rfl (by omega) (by omega) (fun w => by omega) (fun w => ?_)
      repeat refine x_step rfl ?_
      refine x_call rfl (c_in _ l 1 8 hl (by omega) (by omega)) ?_
      rw [if_pos (by omega)]
      refine x_eq rfl (by omega) (by omega) (fun w => by omega) (fun w => ?_)
      repeat refine x_step rfl ?_
      refine x_ald (len := 132) rfl (by omega) (by omega) ?_
      exact x_iret rfl rfl (by rw [show 81 + 8 * p + l - 1 = 80 + 8 * p + l by omega]) rfl
  · refine S_err _ _ h (-1) ?_ ?_
    · refine XRa.of (by decide) (Nat.le_of_ble_eq_true rfl) ?_
      have out : ∀ L : XL, XE mB_tiles (some (.inl (-1))) (hN I) 20 L [] (hN I) := fun L => by
        repeat refine x_step rfl ?_
        exact x_iret rfl rfl rfl rfl
      repeat refine x_step rfl ?_
      refine x_lt rfl (by omega) (by omega) (fun w => out _) (fun w => ?_)
      repeat refine x_step rfl ?_
      refine x_lt rfl (by omega) (by omega) (fun w => out _) (fun w => ?_)
      repeat refine x_step rfl ?_
      refine x_lt rfl (by omega) (by omega) (fun w => out _) (fun w => ?_)
      repeat refine x_step rfl ?_
      refine x_le rfl (by omega) (by omega) (fun w => by omega) (fun w => ?_)
      exact out _
    · refine XRa.of (by decide) (Nat.le_of_ble_eq_true rfl) ?_
      repeat refine x_step rfl ?_
      refine x_call rfl (c_in _ p 0 2 hp (by omega) (by omega)) ?_
      by_cases g1 : 0 ≤ p ∧ p ≤ 2
      · rw [if_pos g1]
        refine x_eq rfl (by omega) (by omega) (fun w => by omega) (fun w => ?_)
        repeat refine x_step rfl ?_
        refine x_call rfl (c_in _ l 1 8 hl (by omega) (by omega)) ?_
        rw [if_neg (by omega)]
        refine x_eq rfl (by omega) (by omega) (fun w => ?_) (fun w => absurd rfl w)
        repeat refine x_step rfl ?_
        exact x_iret rfl rfl rfl rfl
      · rw [if_neg g1]
        refine x_eq rfl (by omega) (by omega) (fun w => ?_) (fun w => absurd rfl w)
        repeat refine x_step rfl ?_
        exact x_iret rfl rfl rfl rfl
theorem S_score (h : SIM I) (p : Int) (hp : InR p) : SAM mB_score mM_score [.inl p] I := by
  have hG := h.1
  by_cases h1 : 0 ≤ p ∧ p ≤ 1
  · refine S_err _ _ h (I 118 (107 + p)) ?_ ?_
    · refine XRa.of (by decide) (Nat.le_of_ble_eq_true rfl) ?_
      repeat refine x_step rfl ?_
      refine x_lt rfl (by omega) (by omega) (fun w => by omega) (fun w => ?_)
      repeat refine x_step rfl ?_
      refine x_lt rfl (by omega) (by omega) (fun w => ?_) (fun w => by omega)
      repeat refine x_step rfl ?_
      refine x_eq rfl (by omega) (by omega) (fun w => ?_) (fun w => ?_)
      · repeat refine x_step rfl ?_
        exact x_iret rfl rfl (by rw [hG.1.x 8 (by omega) (by omega), w]; rfl) rfl
      · repeat refine x_step rfl ?_
        exact x_iret rfl rfl (by rw [hG.1.x 9 (by omega) (by omega), show p = 1 by omega]; rfl) rfl
    · refine XRa.of (by decide) (Nat.le_of_ble_eq_true rfl) ?_
      repeat refine x_step rfl ?_
      refine x_call rfl (c_in _ p 0 1 hp (by omega) (by omega)) ?_
      rw [if_pos h1]
      refine x_eq rfl (by omega) (by omega) (fun w => by omega) (fun w => ?_)
      repeat refine x_step rfl ?_
      refine x_ald (len := 132) rfl (by omega) (by omega) ?_
      repeat refine x_step rfl ?_
      exact x_iret rfl rfl rfl rfl
  · refine S_err _ _ h (-1) ?_ ?_
    · refine XRa.of (by decide) (Nat.le_of_ble_eq_true rfl) ?_
      repeat refine x_step rfl ?_
      refine x_lt rfl (by omega) (by omega) (fun w => ?_) (fun w => ?_)
      · repeat refine x_step rfl ?_
        exact x_iret rfl rfl rfl rfl
      · repeat refine x_step rfl ?_
        refine x_lt rfl (by omega) (by omega) (fun w => by omega) (fun w => ?_)
        repeat refine x_step rfl ?_
        exact x_iret rfl rfl rfl rfl
    · refine XRa.of (by decide) (Nat.le_of_ble_eq_true rfl) ?_
      repeat refine x_step rfl ?_
      refine x_call rfl (c_in _ p 0 1 hp (by omega) (by omega)) ?_
      rw [if_neg h1]
      refine x_eq rfl (by omega) (by omega) (fun w => ?_) (fun w => absurd rfl w)
      repeat refine x_step rfl ?_
      exact x_iret rfl rfl rfl rfl
end QUERY
