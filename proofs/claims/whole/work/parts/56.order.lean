/-! an order, and the first fault: the class -/
section ORX
variable {I : Nat → Int → Int}
theorem wdE_n (u : Int → Int) {p : Int} (h : 0 ≤ p) : psE (wdE u p) = wdP u p ∧ (wdE u p < 0 ↔ wdP u p - p < 2) ∧ (0 ≤ wdE u p → wdE u p = wdP u p) := by
  have := wdP_R u p
  unfold psE wdE
  by_cases w : wdP u p - p < 2
  · rw [if_pos w, if_pos (by omega)]
    omega
  · rw [if_neg w, if_neg (by omega)]
    omega
theorem cO_readOrder (h : TX I) {H : Nat → Int → Int} (hF : FO I H) {p : Int} (hp : H 110 2 = p) (h0 : 0 ≤ p ∧ p ≤ 150) : ∃ J, XR mO_readOrder [.inr 110] (hN H) (some (.inl (if roE (cuS (I 111) (I 110 1)) p < 0 then 0 else 1))) (hN J) ∧ FO I J ∧ J 110 2 = psE (roE (cuS (I 111) (I 110 1)) p) ∧ J 110 3 = cuS (I 111) (I 110 1) p ∧ (0 ≤ roE (cuS (I 111) (I 110 1)) p → (cuS (I 111) (I 110 1) p = 43 ∨ cuS (I 111) (I 110 1) p = 45 → J 110 4 = wdC (cuS (I 111) (I 110 1)) (p + 1)) ∧ (¬ (cuS (I 111) (I 110 1) p = 43 ∨ cuS (I 111) (I 110 1) p = 45) → J 110 4 = wdC (cuS (I 111) (I 110 1)) p ∧ J 110 5 = plQ (cuS (I 111) (I 110 1)) (wdE (cuS (I 111) (I 110 1)) p) ∧ J 110 6 = plD (cuS (I 111) (I 110 1)) (wdE (cuS (I 111) (I 110 1)) p))) := by
  have hcu := fun q => (h.cu q).1
  have hcur := cO_current h hF (by rw [hp]; omega)
  rw [hp] at hcur
  have hF1 := hF.up (f := 3) (v := cuS (I 111) (I 110 1) p) (by omega)
  have hrw := fun (X : Nat → Int → Int) (q : Int) (hX : FO I X) (e : X 110 2 = q) (hq : 0 ≤ q ∧ q ≤ 200) => cO_readWord h hX e hq
  have hrp := fun (X : Nat → Int → Int) (q : Int) (hX : FO I X) (e : X 110 2 = q) (hq : 0 ≤ q ∧ q ≤ 300) => cO_readPlace h hX e hq
  generalize hu : cuS (I 111) (I 110 1) = u at *
  have a2 : xup H 110 3 (u p) 110 2 = p := by rw [xup_at, if_neg (by omega), hp]
  have a3 : xup H 110 3 (u p) 110 3 = u p := by rw [xup_at, if_pos rfl]
  have hup := hcu p
  -- up to the sign
  have pre : ∀ (v : Int) (J : Nat → Int → Int), XE mO_readOrder (some (.inl v)) (hN J) 14 [(0, .inr 110)] [.inl 43, .inl (u p)] (hN (xup H 110 3 (u p))) → XR mO_readOrder [.inr 110] (hN H) (some (.inl v)) (hN J) := by
    intro v J x
    refine XRa.of (by decide) (Nat.le_of_ble_eq_true rfl) ?_
    repeat refine x_step rfl ?_
    refine x_call rfl hcur ?_
    repeat refine x_step rfl ?_
    rw [a3]
    exact x_loc (by exact ⟨rfl, trivial⟩) x
  by_cases hs : u p = 43 ∨ u p = 45
  · have hF2 := hF1.up (f := 2) (v := p + 1) (by omega)
    have b2 : xup (xup H 110 3 (u p)) 110 2 (p + 1) 110 2 = p + 1 := by rw [xup_at, if_pos rfl]
    have b3 : xup (xup H 110 3 (u p)) 110 2 (p + 1) 110 3 = u p := by rw [xup_at, if_neg (by omega), a3]
    have hw := hrw _ _ hF2 b2 (by omega)
    have eR : roE u p = wdE u (p + 1) := by unfold roE; rw [if_pos hs]
    obtain ⟨e1, e2, e3⟩ := wdE_n u (p := p + 1) (by omega)
    rw [eR]
    refine ⟨rwK (xup (xup H 110 3 (u p)) 110 2 (p + 1)) (wdP u (p + 1)) (wdC u (p + 1)), pre _ _ ?_, hF2.rw _ _, by rw [rwK_at, if_pos rfl, e1], by rw [rwK_at, if_neg (by omega), if_neg (by omega), b3], fun _ => ⟨fun _ => by rw [rwK_at, if_neg (by omega), if_pos rfl], fun w => absurd hs w⟩⟩
    have mid : ∀ L : XL, xsub L [(0, .inr 110)] → XE mO_readOrder (some (.inl (if wdE u (p + 1) < 0 then 0 else 1))) (hN (rwK (xup (xup H 110 3 (u p)) 110 2 (p + 1)) (wdP u (p + 1)) (wdC u (p + 1)))) 30 L [] (hN (xup H 110 3 (u p))) := by
      intro L hL
      refine x_loc hL ?_
      repeat refine x_step rfl ?_
      refine x_eq rfl (by omega) (by omega) (fun w => ?_) (fun w => absurd rfl w)
      repeat refine x_step rfl ?_
      rw [a2]
      refine x_call rfl hw ?_
      by_cases w : wdP u (p + 1) - (p + 1) < 2
      · rw [if_pos w, if_pos (e2.mpr w)]
        refine x_eq rfl (by omega) (by omega) (fun w1 => ?_) (fun w1 => absurd rfl w1)
        repeat refine x_step rfl ?_
        exact x_zret rfl rfl rfl (Or.inl rfl) rfl
      · rw [if_neg w, if_neg (fun x => w (e2.mp x))]
        refine x_eq rfl (by omega) (by omega) (fun w1 => by omega) (fun w1 => ?_)
        repeat refine x_step rfl ?_
        refine x_eq rfl (by omega) (by omega) (fun w1 => ?_) (fun w1 => absurd rfl w1)
        repeat refine x_step rfl ?_
        exact x_zret rfl rfl rfl (Or.inr rfl) rfl
    refine x_eq rfl (by omega) (by omega) (fun w => ?_) (fun w => ?_)
    · exact mid _ (by exact ⟨rfl, trivial⟩)
    · repeat refine x_step rfl ?_
      rw [a3]
      refine x_eq rfl (by omega) (by omega) (fun w1 => ?_) (fun w1 => by omega)
      exact mid _ (by exact ⟨rfl, trivial⟩)
  · have hw := hrw _ _ hF1 a2 (by omega)
    obtain ⟨e1, e2, e3⟩ := wdE_n u (p := p) (by omega)
    have hwR := wdP_R u p
    -- no sign
    have mid : ∀ (v : Int) (J : Nat → Int → Int), XE mO_readOrder (some (.inl v)) (hN J) 47 [(1, .inl 1), (0, .inr 110)] [.inr 110] (hN (xup H 110 3 (u p))) → XE mO_readOrder (some (.inl v)) (hN J) 14 [(0, .inr 110)] [.inl 43, .inl (u p)] (hN (xup H 110 3 (u p))) := by
      intro v J x
      refine x_eq rfl (by omega) (by omega) (fun w => absurd (Or.inl w) hs) (fun w => ?_)
      repeat refine x_step rfl ?_
      rw [a3]
      refine x_eq rfl (by omega) (by omega) (fun w1 => absurd (Or.inr w1) hs) (fun w1 => ?_)
      repeat refine x_step rfl ?_
      refine x_eq rfl (by omega) (by omega) (fun w2 => by omega) (fun w2 => ?_)
      repeat refine x_step rfl ?_
      exact x_loc (by exact ⟨rfl, rfl, trivial⟩) x
    by_cases w : wdE u p < 0
    · have eR : roE u p = wdE u p := by unfold roE; rw [if_neg hs, if_pos w]
      rw [eR, if_pos w]
      refine ⟨rwK (xup H 110 3 (u p)) (wdP u p) (wdC u p), pre _ _ (mid _ _ ?_), hF1.rw _ _, by rw [rwK_at, if_pos rfl, e1], by rw [rwK_at, if_neg (by omega), if_neg (by omega), a3], fun x => by omega⟩
      refine x_call rfl hw ?_
      rw [if_pos (e2.mp w)]
      refine x_eq rfl (by omega) (by omega) (fun w1 => ?_) (fun w1 => absurd rfl w1)
      repeat refine x_step rfl ?_
      exact x_zret rfl rfl rfl (Or.inl rfl) rfl
    · have eR : roE u p = plE u (wdE u p) := by unfold roE; rw [if_neg hs, if_neg w]
      have ew := e3 (by omega)
      obtain ⟨J, x1, x2, x3, x4, x5, x6⟩ := hrp (rwK (xup H 110 3 (u p)) (wdP u p) (wdC u p)) (wdE u p) (hF1.rw _ _) (by rw [rwK_at, if_pos rfl, ew]) (by omega)
      rw [eR]
      refine ⟨J, pre _ _ (mid _ _ ?_), x2, x3, by rw [x4, rwK_at, if_neg (by omega), if_neg (by omega), a3], fun hok => ⟨fun x => absurd x hs, fun _ => ⟨by rw [x5, rwK_at, if_neg (by omega), if_pos rfl], x6 hok⟩⟩⟩
      refine x_call rfl hw ?_
      rw [if_neg (fun x => w (e2.mpr x))]
      refine x_eq rfl (by omega) (by omega) (fun w1 => by omega) (fun w1 => ?_)
      repeat refine x_step rfl ?_
      refine x_eq rfl (by omega) (by omega) (fun w1 => by omega) (fun w1 => ?_)
      repeat refine x_step rfl ?_
      refine x_call rfl x1 ?_
      by_cases g : plE u (wdE u p) < 0
      · rw [if_pos g]
        refine x_eq rfl (by omega) (by omega) (fun w1 => ?_) (fun w1 => absurd rfl w1)
        repeat refine x_step rfl ?_
        exact x_zret rfl rfl rfl (Or.inl rfl) rfl
      · rw [if_neg g]
        refine x_eq rfl (by omega) (by omega) (fun w1 => by omega) (fun w1 => ?_)
        repeat refine x_step rfl ?_
        exact x_zret rfl rfl rfl (Or.inr rfl) rfl
/-- the first fault -/
def ffF (u : Int → Int) (len : Int) : Nat → Int → Int
  | 0, p => p
  | n + 1, p => if roE u p < 0 then -1 - roE u p else if roE u p = len then -5 else if u (roE u p) = 44 then ffF u len n (roE u p + 1) else roE u p
end ORX
