/-! both constructors, and what holds at the beginning -/
section START
theorem iC_row (a : Nat) (h : a = 5 ∨ a = 6 ∨ a = 8 ∨ a = 10 ∨ a = 12 ∨ a = 14 ∨ a = 16 ∨ a = 30 ∨ a = 110 ∨ 111 ≤ a) : iC a = fun _ => 0 := by
  have e : iC a = iN0 a := by
    unfold iC
    rw [xup_ne (by omega), iHs, xup_ne (by omega), iHs, xup_ne (by omega), iHs, xup_ne (by omega), iHs, xup_ne (by omega), iHs, xup_ne (by omega), iHs, xup_ne (by omega), iHs, xup_ne (by omega), xup_ne (by omega)]
  rw [e]
  rfl
theorem iC_4 (f : Int) : iC 4 f = if f = 6 then 1 else 0 := by
  have e : iC 4 = xup iN0 4 6 1 4 := by
    unfold iC
    rw [xup_ne (by omega), iHs_ne 6 4 (by omega), xup_ne (by omega)]
  rw [e, xup_at]
  rfl
theorem zB_0 {j : Int} (h : j ≤ 96 ∨ 106 ≤ j) : zB j = 0 := by
  unfold zB
  rw [if_neg (by omega), if_neg (by omega)]
theorem zB_b {k : Int} (h1 : 1 ≤ k) (h2 : k ≤ 8) : zB (96 + k) = xSUPP k.toNat := by
  unfold zB
  rw [if_pos (by omega), show 96 + k - 96 = k by omega]
theorem xSUPP_R {k : Int} (h1 : 1 ≤ k) (h2 : k ≤ 8) : 0 ≤ xSUPP k.toNat ∧ xSUPP k.toNat ≤ 8 := by
  have h : k = 1 ∨ k = 2 ∨ k = 3 ∨ k = 4 ∨ k = 5 ∨ k = 6 ∨ k = 7 ∨ k = 8 := by omega
  rcases h with rfl | rfl | rfl | rfl | rfl | rfl | rfl | rfl <;> decide
theorem GM_start : GM (dlB iC) 4 zB := by
  have fr : ∀ a : Nat, a ≠ 14 → dlB iC a = iC a := fun a w => xset_ne w
  have e14 : dlB iC 14 = bgS 9 := xset_at
  refine ⟨fun j a b => ?_, fun k a b => ?_, fun k a b => ?_, fun k a b => ?_, fun f a b => ?_, ?_, fun k a b => ?_⟩
  · rw [fr _ (by omega), iC_row _ (by omega), zB_0 (by omega)]
  · rw [fr _ (by omega), iC_row _ (by omega), zB_0 (by omega)]
  · rw [fr _ (by omega), iC_row _ (by omega), zB_0 (by omega)]
  · show dlB iC 14 k = _
    rw [e14, zB_b a b]
    exact if_pos (by omega)
  · rw [fr _ (by omega), iC_4]
    by_cases g : f = 6
    · rw [if_pos g, g]
      unfold zB
      rw [if_neg (by omega), if_pos (by omega)]
    · rw [if_neg g, zB_0 (by omega)]
  · rw [fr _ (by omega), iC_row _ (by omega), zB_0 (by omega)]
  · rw [fr _ (by omega), iC_row _ (by omega), zB_0 (by omega)]
theorem zB_tt {p : Int} (hp : p = 0 ∨ p = 1) : ttS (rkZ zB p) = 0 := by
  unfold ttS rkZ
  rw [zB_0 (by omega), zB_0 (by omega), zB_0 (by omega), zB_0 (by omega), zB_0 (by omega), zB_0 (by omega), zB_0 (by omega), zB_0 (by omega)]
  rfl
theorem WZ_start : WZ zB := by
  refine ⟨fun j a b => by rw [zB_0 (by omega)]; omega, fun l a b => ?_, ?_, ?_, ?_, fun k a b => ?_, fun i k a b c => ?_, fun p hp => by rw [zB_tt hp]; omega⟩
  · rw [zB_0 (by omega), zB_0 (by omega), zB_b a b]
    have := xSUPP_R a b
    omega
  · have e : zB 105 = 1 := by
      unfold zB
      rw [if_neg (by omega), if_pos (by omega)]
    omega
  · exact Or.inl (zB_0 (by omega))
  · rw [zB_0 (by omega)]; omega
  · rw [zB_0 (by omega)] at b; omega
  · rw [zB_0 (by omega)] at c; omega
/-- the numbers at the beginning -/
def zF : Int → Int := fzS 1 6 (fzS 0 6 zB)
set_option maxRecDepth 100000 in
set_option maxHeartbeats 4000000 in
theorem cB_init : XRa mB_init 113 1381 [.inr 3] (4, rN0, iN0) none (117, xRf, dl2 iC) := by
  have hdl := (cG_deal (I := iC) (iC_row 14 (by omega)) GM_start WZ_start (zB_tt (Or.inl rfl)) (zB_tt (Or.inr rfl))).1
  refine XRa.of (by decide) (Nat.le_of_ble_eq_true rfl) ?_
  refine x_step rfl ?_
  refine x_obj rfl (by decide) (by decide) (Nat.le_of_ble_eq_true rfl) ?_
  refine x_step rfl ?_
  refine x_new rfl (by decide) rfl (by decide) rfl rfl ⟨by decide, by decide⟩ ?_
  refine x_step rfl ?_
  refine x_init rfl (by decide) (Or.inr rfl) (by decide) rfl rfl (Nat.le_of_ble_eq_true rfl) (cG_init 4 (by decide) (fun a w => rfl) (fun a w => rfl)) ⟨by decide, by decide⟩ ?_
  refine x_putr rfl (by decide) (by decide) rfl (by decide) (by decide +kernel) rfl (by decide +kernel) ?_
  refine x_step rfl ?_
  have q1 : ∀ a, 17 ≤ a → xur (rG rN0 4) 3 0 4 a = fun _ => none := fun a w => by
    rw [xur_ne (by omega), rG_ne (by omega)]
    rfl
  have q2 : ∀ a, 17 ≤ a → xup iN0 4 6 1 a = fun _ => 0 := fun a w => by
    rw [xup_ne (by omega)]
    rfl
  refine x_new rfl (by decide) rfl (by decide) (q1 _ (by decide)) (q2 _ (by decide)) ⟨by decide, by decide⟩ ?_
  refine x_step rfl ?_
  refine x_init rfl (by decide) (Or.inr rfl) (by decide) rfl rfl (Nat.le_of_ble_eq_true rfl) (cG_init 17 (by decide) (fun a w => q1 a (by omega)) (fun a w => q2 a (by omega))) ⟨by decide, by decide⟩ ?_
  refine x_putr rfl (by decide) (by decide) rfl (by decide) (by decide +kernel) rfl (by decide +kernel) ?_
  refine x_step rfl ?_
  have q3 : ∀ a, 30 ≤ a → xur (rG (xur (rG rN0 4) 3 0 4) 17) 3 1 17 a = fun _ => none := fun a w => by
    rw [xur_ne (by omega), rG_ne (by omega)]
    exact q1 a (by omega)
  have q4 : ∀ a, 30 ≤ a → xup (xup iN0 4 6 1) 17 6 1 a = fun _ => 0 := fun a w => by
    rw [xup_ne (by omega)]
    exact q2 a (by omega)
  refine x_new rfl (by decide) rfl (by decide) (q3 _ (by decide)) (q4 _ (by decide)) ⟨by decide, by decide⟩ ?_
  refine x_step rfl ?_
  refine x_init rfl (by decide) (Or.inl rfl) (by decide) rfl rfl (Nat.le_of_ble_eq_true rfl) (cH_init (fun a w => q3 a (by omega)) (fun a w => q4 a (by omega))) ⟨by decide, by decide⟩ ?_
  refine x_putr rfl (by decide) (by decide) rfl (by decide) (by decide +kernel) rfl (by decide +kernel) ?_
  refine x_step rfl ?_
  have q5 : ∀ a, 110 ≤ a → xur (rHs (xur (xur (rG (xur (rG rN0 4) 3 0 4) 17) 3 1 17) 30 0 31) 6) 3 2 30 a = fun _ => none := fun a w => by
    rw [xur_ne (by omega), rHs_ne 6 a (by omega), xur_ne (by omega)]
    exact q3 a (by omega)
  have q6 : ∀ a, 110 ≤ a → iHs (xup (xup iN0 4 6 1) 17 6 1) 6 a = fun _ => 0 := fun a w => by
    rw [iHs_ne 6 a (by omega)]
    exact q4 a (by omega)
  refine x_new rfl (by decide) rfl (by decide) (q5 _ (by decide)) (q6 _ (by decide)) ⟨by decide, by decide⟩ ?_
  refine x_step rfl ?_
  refine x_init rfl (by decide) (Or.inr rfl) (by decide) rfl rfl (Nat.le_of_ble_eq_true rfl) (cO_init (o := 110) (by decide) (by decide) rfl rfl rfl (q6 _ (by decide))) ⟨by decide, by decide⟩ ?_
  refine x_putr rfl (by decide) (by decide) rfl (by decide) (by decide +kernel) rfl (by decide +kernel) ?_
  refine x_step rfl ?_
  refine x_new rfl (by decide) rfl (by decide) (by rw [xur_ne (by decide), xur_ne (by decide)]; exact q5 _ (by decide)) (q6 _ (by decide)) ⟨by decide, by decide⟩ ?_
  refine x_step rfl ?_
  refine x_init rfl (by decide) (Or.inr rfl) (by decide) rfl rfl (Nat.le_of_ble_eq_true rfl) (cP_init (o := 112) (by decide) (by decide) (fun w => by omega) rfl rfl rfl (q6 _ (by decide))) ⟨by decide, by decide⟩ ?_
  refine x_putr rfl (by decide) (by decide) rfl (by decide) (by decide +kernel) rfl (by decide +kernel) ?_
  refine x_step rfl ?_
  refine x_new rfl (by decide) rfl (by decide) (by rw [xur_ne (by decide), xur_ne (by decide), xur_ne (by decide), xur_ne (by decide)]; exact q5 _ (by decide)) (q6 _ (by decide)) ⟨by decide, by decide⟩ ?_
  refine x_step rfl ?_
  refine x_init rfl (by decide) (Or.inr rfl) (by decide) rfl rfl (Nat.le_of_ble_eq_true rfl) (cF_init (by rw [iHs_ne 6 0 (by omega), xup_ne (by omega), xup_ne (by omega)]; rfl) (by rw [xur_ne (by decide), xur_ne (by decide), xur_ne (by decide), xur_ne (by decide)]; exact q5 _ (by decide)) (q6 _ (by decide)) (q6 _ (by decide))) ⟨by decide, by decide⟩ ?_
  refine x_putr rfl (by decide) (by decide) rfl (by decide) (by decide +kernel) rfl (by decide +kernel) ?_
  refine x_step rfl ?_
  refine x_step rfl ?_
  refine x_step rfl ?_
  refine x_refs (r := rC) (r' := xRf) (fun o _ ho hk j hj => ((rC_ok o ho).resolve_left hk) j hj) ?_
  refine x_step rfl ?_
  refine x_step rfl ?_
  refine x_calla (mc' := 0) (ms' := 0) rfl hdl ⟨by decide, by decide⟩ ?_
  exact x_vret rfl rfl rfl
end START
