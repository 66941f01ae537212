/-! the reference's constructor, and what holds at the beginning -/
section RSTART
/-- the references before the reference is made, and behind its constructor -/
def rM0 : Nat → Nat → Option Nat := fun a => if a < 117 then xRf a else fun _ => none
def rM : Nat → Nat → Option Nat := xur (xur (xur (xur (xur (xur rM0 117 0 118) 117 1 119) 117 3 120) 117 5 121) 117 8 122) 117 9 123
theorem rM0_ok : ∀ o, o < 117 → (xKd o = 10 ∨ ∀ j, j < xLn o → xRf o j = rM0 o j) := by decide +kernel
theorem rM_ok : ∀ o, o < 124 → (xKd o = 10 ∨ ∀ j, j < xLn o → rM o j = xRf o j) := by decide +kernel
theorem rM0_n {a : Nat} (h : 117 ≤ a) : rM0 a = fun _ => none := by
  unfold rM0
  rw [if_neg (by omega)]
def zBk (k : Int) : Int → Int := fun j => if 97 ≤ j ∧ j < 96 + k then xSUPP (j - 96).toNat else 0
theorem zBk_s {k v : Int} (h : 1 ≤ k) (hv : v = xSUPP k.toNat) : (fun j => if j = 97 + k - 1 then v else zBk k j) = zBk (k + 1) := by
  funext j
  unfold zBk
  by_cases e : j = 97 + k - 1
  · rw [if_pos e, if_pos (by omega), hv, show j - 96 = k by omega]
  · rw [if_neg e]
    by_cases g : 97 ≤ j ∧ j < 96 + k
    · rw [if_pos g, if_pos (by omega)]
    · rw [if_neg g, if_neg (by omega)]
theorem zBk_1 : zBk 1 = fun _ => 0 := by
  funext j
  exact if_neg (by omega)
theorem zBk_e : (fun j => if j = 105 then 1 else zBk 9 j) = zB := by
  funext j
  unfold zBk zB
  by_cases e : j = 105
  · rw [if_pos e, if_neg (by omega), if_pos e]
  · rw [if_neg e, if_neg e]
    by_cases g : 97 ≤ j ∧ j ≤ 104
    · rw [if_pos g, if_pos (by omega)]
    · rw [if_neg g, if_neg (by omega)]
set_option maxRecDepth 100000 in
set_option maxHeartbeats 4000000 in
theorem cM_init (I : Nat → Int → Int) (hI : ∀ a : Nat, 117 ≤ a → I a = fun _ => 0) : XRa mM_init 6 1027 [.inr 117] (118, rM0, I) none (124, xRf, xset (xup I 117 7 (-5)) 118 zF) := by
  refine XRa.of (by decide) (Nat.le_of_ble_eq_true rfl) ?_
  have hI1 : ∀ a : Nat, 118 ≤ a → xup I 117 7 (-5) a = fun _ => 0 := fun a w => by rw [xup_ne (by omega)]; exact hI a (by omega)
  refine x_step rfl ?_
  refine x_obj rfl (by decide) (by decide) (Nat.le_of_ble_eq_true rfl) ?_
  refine x_step rfl ?_
  refine x_step rfl ?_
  refine x_newI (len := 133) rfl rfl rfl (by decide) (hI _ (by decide)) ⟨by decide, by decide⟩ ?_
  refine x_putr rfl (by decide) (by decide) rfl (by decide) (by decide +kernel) rfl (by decide +kernel) ?_
  refine x_step rfl ?_
  refine x_step rfl ?_
  refine x_newI (len := 665) rfl rfl rfl (by decide) (hI _ (by decide)) ⟨by decide, by decide⟩ ?_
  refine x_putr rfl (by decide) (by decide) rfl (by decide) (by decide +kernel) rfl (by decide +kernel) ?_
  refine x_step rfl ?_
  refine x_step rfl ?_
  refine x_newI (len := 133) rfl rfl rfl (by decide) (hI _ (by decide)) ⟨by decide, by decide⟩ ?_
  refine x_putr rfl (by decide) (by decide) rfl (by decide) (by decide +kernel) rfl (by decide +kernel) ?_
  refine x_step rfl ?_
  refine x_step rfl ?_
  refine x_newI (len := 80) rfl rfl rfl (by decide) (hI _ (by decide)) ⟨by decide, by decide⟩ ?_
  refine x_putr rfl (by decide) (by decide) rfl (by decide) (by decide +kernel) rfl (by decide +kernel) ?_
  refine x_step rfl ?_
  refine x_step rfl ?_
  refine x_step rfl ?_
  refine x_step rfl ?_
  refine x_step rfl ?_
  refine x_newI (len := 7) rfl rfl rfl (by decide) (hI1 _ (by decide)) ⟨by decide, by decide⟩ ?_
  refine x_putr rfl (by decide) (by decide) rfl (by decide) (by decide +kernel) rfl (by decide +kernel) ?_
  refine x_step rfl ?_
  refine x_step rfl ?_
  refine x_newI (len := 9) rfl rfl rfl (by decide) (hI1 _ (by decide)) ⟨by decide, by decide⟩ ?_
  refine x_putr rfl (by decide) (by decide) rfl (by decide) (by decide +kernel) rfl (by decide +kernel) ?_
  refine x_refs (r := rM) (r' := xRf) (fun o _ ho hk j hj => ((rM_ok o ho).resolve_left hk) j hj) ?_
  have e118 : xset (xup I 117 7 (-5)) 118 (zBk 1) = xup I 117 7 (-5) := by
    rw [zBk_1, ← hI1 118 (by decide), xset_self]
  generalize xup I 117 7 (-5) = X at *
  have w1 : WZ (fzS 0 6 zB) := WZ_start.fz (p := 0) (Or.inl rfl) 6 (by rw [zB_tt (Or.inl rfl)]; decide)
  have ez : ttS (rkZ (fzS 0 6 zB) 1) = 0 := (ttS_c (f := rkZ (fzS 0 6 zB) 1) (g := rkZ zB 1) (fun k a b => fz_ne (p := 0) (j := 80 + 8 * 1 + k) (Or.inl rfl) (by omega) 6 zB WZ_start.tz)).trans (zB_tt (Or.inr rfl))
  have f0 := cM_fillRack 0 (Or.inl rfl) 6 (xset X 118 zB) (by rw [xset_at]; exact WZ_start.tz) (by rw [xset_at, zB_tt (Or.inl rfl)]; decide) (by rw [xset_at, zB_tt (Or.inl rfl)]; decide)
  rw [xset_at, xset_xset] at f0
  have f1 := cM_fillRack 1 (Or.inr rfl) 6 (xset X 118 (fzS 0 6 zB)) (by rw [xset_at]; exact w1.tz) (by rw [xset_at, ez]; decide) (by rw [xset_at, ez]; decide)
  rw [xset_at, xset_xset] at f1
  have fin : ∀ L : XL, xsub L [(0, .inr 117)] → XEa mM_init 6 1027 6 1027 none (124, xRf, xset X 118 zF) 118 L [] (124, xRf, xset X 118 (zBk 9)) := by
    intro L hL
    refine x_loc hL ?_
    repeat refine x_step rfl ?_
    refine x_ast (len := 132) rfl (by decide) (by decide) ?_
    rw [xup_xset, zBk_e]
    repeat refine x_step rfl ?_
    refine x_calla (mc' := 0) (ms' := 0) rfl f0 ⟨by decide, by decide⟩ ?_
    repeat refine x_step rfl ?_
    refine x_calla (mc' := 0) (ms' := 0) rfl f1 ⟨by decide, by decide⟩ ?_
    exact x_vret rfl rfl rfl
  have loop : ∀ (m : Nat) (k : Int), k + m = 9 → 1 ≤ k → XEa mM_init 6 1027 6 1027 none (124, xRf, xset X 118 zF) 66 [(1, .inl k), (0, .inr 117)] [.inl 8, .inl k] (124, xRf, xset X 118 (zBk k)) := by
    intro m
    induction m with
    | zero =>
      intro k a b
      have ek : k = 9 := by omega
      subst ek
      refine x_lt rfl (by omega) (by omega) (fun w => ?_) (fun w => absurd (by omega) w)
      exact fin _ (by exact ⟨rfl, trivial⟩)
    | succ m ih =>
      intro k a b
      have nx := ih (k + 1) (by omega) (by omega)
      have st : ∀ v : Int, v = xSUPP k.toNat → XEa mM_init 6 1027 6 1027 none (124, xRf, xset X 118 zF) 111 [(1, .inl k), (0, .inr 117)] [.inl v, .inl (97 + k - 1), .inr 118] (124, xRf, xset X 118 (zBk k)) := by
        intro v hv
        refine x_ast (len := 132) rfl (by omega) (by omega) ?_
        rw [xup_xset, zBk_s b hv]
        repeat refine x_step rfl ?_
        exact x_loc (by exact ⟨rfl, rfl, trivial⟩) nx
      refine x_lt rfl (by omega) (by omega) (fun w => absurd w (by omega)) (fun w => ?_)
      repeat refine x_step rfl ?_
      refine x_eq rfl (by omega) (by omega) (fun w1 => ?_) (fun w1 => ?_)
      · repeat refine x_step rfl ?_
        exact x_loc (by exact ⟨rfl, rfl, trivial⟩) (st 8 (by rw [w1]; decide))
      · repeat refine x_step rfl ?_
        refine x_eq rfl (by omega) (by omega) (fun w2 => ?_) (fun w2 => ?_)
        · repeat refine x_step rfl ?_
          exact x_loc (by exact ⟨rfl, rfl, trivial⟩) (st 8 (by rw [w2]; decide))
        · repeat refine x_step rfl ?_
          refine x_eq rfl (by omega) (by omega) (fun w3 => ?_) (fun w3 => ?_)
          · repeat refine x_step rfl ?_
            exact x_loc (by exact ⟨rfl, rfl, trivial⟩) (st 3 (by rw [w3]; decide))
          · repeat refine x_step rfl ?_
            refine x_eq rfl (by omega) (by omega) (fun w4 => ?_) (fun w4 => ?_)
            · repeat refine x_step rfl ?_
              exact x_loc (by exact ⟨rfl, rfl, trivial⟩) (st 3 (by rw [w4]; decide))
            · repeat refine x_step rfl ?_
              have h : k = 2 ∨ k = 3 ∨ k = 4 ∨ k = 8 := by omega
              exact x_loc (by exact ⟨rfl, rfl, trivial⟩) (st 4 (by rcases h with rfl | rfl | rfl | rfl <;> decide))
  have go := loop 8 1 (by omega) (by omega)
  rw [e118] at go
  repeat refine x_step rfl ?_
  exact x_loc (by exact ⟨rfl, rfl, trivial⟩) go
theorem dl2_ne {a : Nat} (h : a ≠ 4) (h2 : a ≠ 10) (h3 : a ≠ 12) (h4 : a ≠ 14) : dl2 iC a = iC a := by
  have f : ∀ (X : Nat → Int → Int) (A : Nat) (st : TS3), A = 10 ∨ A = 12 → fiH X A st a = X a := fun X A st w => by
    unfold fiH
    rw [xset_ne (by omega), xset_ne (by omega), xup_ne (by omega)]
  unfold dl2
  rw [f _ 12 _ (Or.inr rfl)]
  unfold dl1
  rw [f _ 10 _ (Or.inl rfl)]
  exact xset_ne h4
/-- all holds at the beginning -/
def iS : Nat → Int → Int := xset (xup (dl2 iC) 117 7 (-5)) 118 zF
theorem SIM_start : SIM iS := by
  have hd := cG_deal (I := iC) (iC_row 14 (by omega)) GM_start WZ_start (zB_tt (Or.inl rfl)) (zB_tt (Or.inr rfl))
  have fr : ∀ a : Nat, a ≠ 117 → a ≠ 118 → iS a = dl2 iC a := fun a w w2 => by unfold iS; rw [xset_ne w2, xup_ne w]
  have e118 : iS 118 = zF := xset_at
  have e117 : ∀ f : Int, iS 117 f = if f = 7 then -5 else 0 := fun f => by
    unfold iS
    rw [xset_ne (by omega), xup_at, dl2_ne (by omega) (by omega) (by omega) (by omega), iC_row _ (by omega)]
  have e3 : ∀ f : Int, iS 3 f = if f = 7 then -5 else 0 := fun f => by
    rw [fr 3 (by omega) (by omega), dl2_ne (by omega) (by omega) (by omega) (by omega)]
    unfold iC
    rw [xup_at, iHs_ne 6 3 (by omega), xup_ne (by omega), xup_ne (by omega)]
    rfl
  have z : ∀ a : Nat, a = 16 ∨ a = 30 ∨ a = 110 → iS a = fun _ => 0 := fun a w => by
    rw [fr a (by omega) (by omega), dl2_ne (by omega) (by omega) (by omega) (by omega), iC_row _ (by omega)]
  refine ⟨⟨?_, ?_⟩, fun k a b => by rw [z 16 (by omega)], ?_, ?_, ?_, ?_⟩
  · rw [e118]
    exact hd.2.1.congr (fun a a0 a1 => fr a (by omega) (by omega)) (fun _ _ _ => rfl)
  · rw [e118]
    exact hd.2.2
  · unfold HS
    rw [z 30 (by omega), e117]
    exact ⟨by decide, by decide, by decide, by decide, rfl, fun a a0 a1 => by have a1 : a < 0 := a1; omega⟩
  · unfold SS
    rw [e3, e117]
    exact ⟨Or.inl rfl, rfl, fun w => absurd w (by decide)⟩
  · unfold TX
    rw [z 110 (by omega), e117]
    exact ⟨by decide, by decide, rfl, fun j a b => by have b : j < 0 := b; omega⟩
  · rw [e3, e117]
end RSTART
