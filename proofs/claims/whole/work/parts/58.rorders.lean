/-! the orders of a text: the reference -/
section RORD
variable {I : Nat → Int → Int}
theorem TX.cuM (h : TX I) : cuS (I 121) (I 117 6) = cuS (I 111) (I 110 1) := by
  funext p
  unfold cuS
  rw [h.2.2.1]
  by_cases w : 0 ≤ p ∧ p < I 110 1
  · rw [if_pos w, if_pos w, (h.2.2.2 p w.1 w.2).1]
  · rw [if_neg w, if_neg w]
def FP (I H : Nat → Int → Int) : Prop := (∀ a : Nat, a ≠ 117 → H a = I a) ∧ ∀ f : Int, f < 15 → H 117 f = I 117 f
theorem FP.up {H : Nat → Int → Int} (hF : FP I H) {f v : Int} (h : 15 ≤ f) : FP I (xup H 117 f v) := ⟨fun a w => by rw [xup_ne w]; exact hF.1 a w, fun g w => by rw [xup_at, if_neg (by omega)]; exact hF.2 g w⟩
theorem cM_isAt (h : TX I) {H : Nat → Int → Int} (hF : FP I H) (p lo hi : Int) (hp : 0 ≤ p ∧ p ≤ 1000) (hlo : 1 ≤ lo ∧ lo ≤ 1000) (hhi : InR hi) : XR mM_isAt [.inr 117, .inl p, .inl lo, .inl hi] (hN H) (some (.inl (if lo ≤ cuS (I 111) (I 110 1) p ∧ cuS (I 111) (I 110 1) p ≤ hi then 1 else 0))) (hN H) := by
  refine XRa.of (by decide) (Nat.le_of_ble_eq_true rfl) ?_
  rw [← h.cuM]
  have hcu := (h.cu p).1
  rw [← h.cuM] at hcu
  have e6 : H 117 6 = I 117 6 := hF.2 6 (by omega)
  have e121 : H 121 = I 121 := hF.1 121 (by omega)
  have t0 := h.1
  have t1 := h.2.1
  have t2 := h.2.2.1
  repeat refine x_step rfl ?_
  rw [e6]
  refine x_le rfl (by omega) (by omega) (fun w => ?_) (fun w => ?_)
  · have e0 : cuS (I 121) (I 117 6) p = 0 := if_neg (by omega)
    rw [e0, if_neg (by omega)]
    repeat refine x_step rfl ?_
    exact x_zret rfl rfl rfl (Or.inl rfl) rfl
  · have e0 : cuS (I 121) (I 117 6) p = I 121 p := if_pos (by omega)
    rw [e0] at hcu ⊢
    repeat refine x_step rfl ?_
    refine x_ald (len := 79) rfl (by omega) (by omega) ?_
    rw [e121]
    repeat refine x_step rfl ?_
    refine x_call rfl (c_in _ (I 121 p) lo hi (by omega) (by omega) hhi) ?_
    by_cases g : lo ≤ I 121 p ∧ I 121 p ≤ hi
    · rw [if_pos g]
      refine x_eq rfl (by omega) (by omega) (fun w => by omega) (fun w => ?_)
      repeat refine x_step rfl ?_
      exact x_zret rfl rfl rfl (Or.inr rfl) rfl
    · rw [if_neg g]
      refine x_eq rfl (by omega) (by omega) (fun w => ?_) (fun w => absurd rfl w)
      repeat refine x_step rfl ?_
      exact x_zret rfl rfl rfl (Or.inl rfl) rfl
theorem xup_xup {H : Nat → Int → Int} {o : Nat} {f v w : Int} : xup (xup H o f v) o f w = xup H o f w := by
  funext a g
  by_cases h : a = o
  · subst h
    rw [xup_at, xup_at, xup_at]
    by_cases e : g = f
    · rw [if_pos e, if_pos e]
    · rw [if_neg e, if_neg e, if_neg e]
  · rw [xup_ne h, xup_ne h, xup_ne h]
theorem cM_readWord (h : TX I) {H : Nat → Int → Int} (hF : FP I H) (p : Int) (hp : 0 ≤ p ∧ p ≤ 300) : XR mM_readWord [.inr 117, .inl p] (hN H) (some (.inl (wdE (cuS (I 111) (I 110 1)) p))) (hN (xup H 117 15 (wdC (cuS (I 111) (I 110 1)) p))) := by
  refine XRa.of (by decide) (Nat.le_of_ble_eq_true rfl) ?_
  have hcu := fun q => (h.cu q)
  have hat := fun (X : Nat → Int → Int) (hX : FP I X) (q lo hi : Int) => cM_isAt h hX q lo hi
  have e121 := fun q => congrFun h.cuM q
  have t2 := h.2.2.1
  have t1 := h.2.1
  generalize hu : cuS (I 111) (I 110 1) = u at *
  have hR := wdP_R u p
  have out : ∀ (q : Int) (L : XL) (J : Nat → Int → Int), q = wdP u p → J = xup H 117 15 (wdC u p) → xsub L [(2, .inl q), (1, .inl p)] → XE mM_readWord (some (.inl (wdE u p))) (hN (xup H 117 15 (wdC u p))) 56 L [] (hN J) := by
    intro q L J e1 e3 hL
    rw [e3]
    refine x_loc hL ?_
    repeat refine x_step rfl ?_
    refine x_le rfl (by omega) (by omega) (fun w => ?_) (fun w => ?_)
    · repeat refine x_step rfl ?_
      exact x_iret rfl rfl (by unfold wdE; rw [if_neg (by omega), e1]) rfl
    · repeat refine x_step rfl ?_
      exact x_iret rfl rfl (by unfold wdE; rw [if_pos (by omega), e1]) rfl
  have loop : ∀ (m : Nat) (q c : Int), q - p + m = 7 → p ≤ q → (rwF u m q c).1 = wdP u p → (rwF u m q c).2 = wdC u p → XE mM_readWord (some (.inl (wdE u p))) (hN (xup H 117 15 (wdC u p))) 12 [(2, .inl q), (1, .inl p), (0, .inr 117)] [.inl 7, .inl (q - p)] (hN (xup H 117 15 c)) := by
    intro m
    induction m with
    | zero =>
      intro q c a b g1 g2
      have g1 : q = wdP u p := g1
      have g2 : c = wdC u p := g2
      refine x_le rfl (by omega) (by omega) (fun w => ?_) (fun w => absurd (by omega) w)
      exact out q _ _ g1 (by rw [g2]) (by exact ⟨rfl, rfl, trivial⟩)
    | succ m ih =>
      intro q c a b g1 g2
      have hFK := hF.up (f := 15) (v := c) (by omega)
      have hcq := hcu q
      refine x_le rfl (by omega) (by omega) (fun w => by omega) (fun w => ?_)
      repeat refine x_step rfl ?_
      refine x_call rfl (hat _ hFK q 97 104 (by omega) (by omega) (by omega)) ?_
      by_cases g : 97 ≤ u q ∧ u q ≤ 104
      · rw [if_pos g]
        rw [rwF, if_pos g] at g1 g2
        have hq := hcq.2 (by omega)
        have eq121 : I 121 q = u q := by
          rw [← e121 q]
          unfold cuS
          rw [if_pos (by omega)]
        have e15 : xup H 117 15 c 117 15 = c := by rw [xup_at, if_pos rfl]
        have et : xup H 117 15 c 121 q = u q := by rw [xup_ne (by omega), hF.1 121 (by omega), eq121]
        refine x_eq rfl (by omega) (by omega) (fun w => by omega) (fun w => ?_)
        repeat refine x_step rfl ?_
        rw [e15]
        refine x_ald (len := 79) rfl (by omega) (by omega) ?_
        rw [et]
        repeat refine x_step rfl ?_
        rw [xup_xup, show 9 * c + u q - 97 + 1 = c * 9 + (u q - 96) by omega]
        exact x_to rfl (by rw [show q + 1 - p = q + 1 - p by rfl]) rfl (x_loc (by exact ⟨rfl, rfl, rfl, trivial⟩) (ih (q + 1) _ (by omega) (by omega) g1 g2))
      · rw [if_neg g]
        rw [rwF, if_neg g] at g1 g2
        have g1 : q = wdP u p := g1
        have g2 : c = wdC u p := g2
        refine x_eq rfl (by omega) (by omega) (fun w => ?_) (fun w => absurd rfl w)
        exact out q _ _ g1 (by rw [g2]) (by exact ⟨rfl, rfl, trivial⟩)
  have go := loop 7 p 0 (by omega) (by omega) rfl rfl
  repeat refine x_step rfl ?_
  exact x_loc (by exact ⟨rfl, rfl, rfl, trivial⟩) go
end RORD
