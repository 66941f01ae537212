/-! the first fault of a text -/
section FLT
variable {I : Nat → Int → Int}
theorem rwF_le {u : Int → Int} {len : Int} (hu : ∀ q, u q ≠ 0 → q < len) : ∀ (n : Nat) (p c : Int), p ≤ len → (rwF u n p c).1 ≤ len := by
  intro n
  induction n with
  | zero => intro p c h; exact h
  | succ n ih =>
    intro p c h
    by_cases w : 97 ≤ u p ∧ u p ≤ 104
    · rw [rwF, if_pos w]
      have := hu p (by omega)
      exact ih (p + 1) _ (by omega)
    · rw [rwF, if_neg w]
      exact h
theorem roE_R {u : Int → Int} {len p : Int} (hu : ∀ q, u q ≠ 0 → q < len) (h0 : 0 ≤ p) (h1 : p ≤ len) : (0 ≤ roE u p → p + 3 ≤ roE u p ∧ roE u p ≤ len) ∧ 0 ≤ psE (roE u p) ∧ psE (roE u p) ≤ p + 20 := by
  have hp := hu p
  unfold roE
  by_cases hs : u p = 43 ∨ u p = 45
  · rw [if_pos hs]
    have hl := rwF_le hu 7 (p + 1) 0 (by have := hp (by omega); omega)
    have hR := wdP_R u (p + 1)
    obtain ⟨e1, e2, e3⟩ := wdE_n u (p := p + 1) (by omega)
    have hl : wdP u (p + 1) ≤ len := hl
    rw [e1]
    refine ⟨fun w => ?_, by omega, by omega⟩
    have := e3 w
    have : ¬ (wdP u (p + 1) - (p + 1) < 2) := fun x => by have := e2.mpr x; omega
    omega
  · rw [if_neg hs]
    obtain ⟨e1, e2, e3⟩ := wdE_n u (p := p) (by omega)
    have hR := wdP_R u p
    by_cases w : wdE u p < 0
    · rw [if_pos w, e1]
      exact ⟨fun x => by omega, by omega, by omega⟩
    · rw [if_neg w]
      have ew := e3 (by omega)
      have hg := hu (wdE u p + 2)
      have : ¬ (wdP u p - p < 2) := fun x => by have := e2.mpr x; omega
      unfold plE psE
      by_cases g1 : 49 ≤ u (wdE u p) ∧ u (wdE u p) ≤ 57
      · rw [if_neg (fun x => x g1)]
        by_cases g2 : 49 ≤ u (wdE u p + 1) ∧ u (wdE u p + 1) ≤ 57
        · rw [if_neg (fun x => x g2)]
          by_cases g3 : u (wdE u p + 2) = 62 ∨ u (wdE u p + 2) = 118
          · rw [if_neg (fun x => x g3), if_neg (by omega)]
            have := hg (by omega)
            omega
          · rw [if_pos g3, if_pos (by omega)]
            omega
        · rw [if_pos g2, if_pos (by omega)]
          omega
      · rw [if_pos g1, if_pos (by omega)]
        omega
theorem cO_firstFault (h : TX I) : ∃ J, XR mO_firstFault [.inr 110] (hN I) (some (.inl (ffF (cuS (I 111) (I 110 1)) (I 110 1) 80 0))) (hN J) ∧ FO I J := by
  have hcu := fun q => (h.cu q).1
  have hul : ∀ q, cuS (I 111) (I 110 1) q ≠ 0 → q < I 110 1 := fun q w => ((h.cu q).2 w).2
  have t0 := h.1
  have t1 := h.2.1
  have hro := fun (X : Nat → Int → Int) (q : Int) (hX : FO I X) (e : X 110 2 = q) (hq : 0 ≤ q ∧ q ≤ 150) => cO_readOrder h hX e hq
  have hcur := fun (X : Nat → Int → Int) (q : Int) (hX : FO I X) (e : X 110 2 = q) (hq : 0 ≤ q ∧ q ≤ 1000) => by
    have := cO_current h hX (by rw [e]; omega)
    rw [e] at this
    exact this
  generalize hu : cuS (I 111) (I 110 1) = u at *
  have loop : ∀ (n : Nat) (i p : Int) (H : Nat → Int → Int), i + n = 80 → 0 ≤ i → FO I H → H 110 2 = p → 0 ≤ p → p ≤ I 110 1 → ∃ J, XE mO_firstFault (some (.inl (ffF u (I 110 1) n p))) (hN J) 10 [(1, .inl i), (0, .inr 110)] [.inl 80, .inl i] (hN H) ∧ FO I J := by
    intro n
    induction n with
    | zero =>
      intro i p H a b hF e2 p0 p1
      refine ⟨H, ?_, hF⟩
      refine x_le rfl (by omega) (by omega) (fun w => ?_) (fun w => absurd (by omega) w)
      repeat refine x_step rfl ?_
      exact x_iret rfl rfl e2 rfl
    | succ n ih =>
      intro i p H a b hF e2 p0 p1
      obtain ⟨K, k1, k2, k3, -, -⟩ := hro H p hF e2 (by omega)
      obtain ⟨r1, r2, r3⟩ := roE_R hul p0 p1
      have k21 := k2.2
      rw [ffF]
      by_cases w : roE u p < 0
      · rw [if_pos w] at k1
        rw [if_pos w]
        have ep : psE (roE u p) = -1 - roE u p := if_pos w
        refine ⟨K, ?_, k2⟩
        refine x_le rfl (by omega) (by omega) (fun w1 => by omega) (fun w1 => ?_)
        repeat refine x_step rfl ?_
        refine x_call rfl k1 ?_
        refine x_eq rfl (by omega) (by omega) (fun w2 => ?_) (fun w2 => absurd rfl w2)
        repeat refine x_step rfl ?_
        exact x_iret rfl rfl (by rw [k3, ep]) rfl
      · rw [if_neg w] at k1
        rw [if_neg w]
        have ep : psE (roE u p) = roE u p := if_neg w
        rw [ep] at k3
        obtain ⟨q1, q2⟩ := r1 (by omega)
        have hcK := hcur K (roE u p) k2 k3 (by omega)
        have hce := hcu (roE u p)
        -- up to the end of the order
        have pre : ∀ (v : Int) (J : Nat → Int → Int), XE mO_firstFault (some (.inl v)) (hN J) 33 [(1, .inl i), (0, .inr 110)] [.inl (I 110 1), .inl (roE u p)] (hN K) → XE mO_firstFault (some (.inl v)) (hN J) 10 [(1, .inl i), (0, .inr 110)] [.inl 80, .inl i] (hN H) := by
          intro v J x
          refine x_le rfl (by omega) (by omega) (fun w1 => by omega) (fun w1 => ?_)
          repeat refine x_step rfl ?_
          refine x_call rfl k1 ?_
          refine x_eq rfl (by omega) (by omega) (fun w2 => by omega) (fun w2 => ?_)
          repeat refine x_step rfl ?_
          rw [k3, k21]
          exact x_loc (by exact ⟨rfl, rfl, trivial⟩) x
        by_cases g : roE u p = I 110 1
        · rw [if_pos g]
          refine ⟨K, pre _ _ ?_, k2⟩
          refine x_eq rfl (by omega) (by omega) (fun w2 => ?_) (fun w2 => absurd g w2)
          repeat refine x_step rfl ?_
          exact x_iret rfl rfl rfl rfl
        · rw [if_neg g]
          by_cases g2 : u (roE u p) = 44
          · rw [if_pos g2]
            obtain ⟨J, x1, x2⟩ := ih (i + 1) (roE u p + 1) (xup K 110 2 (roE u p + 1)) (by omega) (by omega) (k2.up (by omega)) (by rw [xup_at, if_pos rfl]) (by omega) (by omega)
            refine ⟨J, pre _ _ ?_, x2⟩
            refine x_eq rfl (by omega) (by omega) (fun w2 => absurd w2 g) (fun w2 => ?_)
            repeat refine x_step rfl ?_
            refine x_call rfl hcK ?_
            repeat refine x_step rfl ?_
            refine x_eq rfl (by omega) (by omega) (fun w3 => ?_) (fun w3 => absurd g2 w3)
            repeat refine x_step rfl ?_
            rw [k3]
            exact x_loc (by exact ⟨rfl, rfl, trivial⟩) x1
          · rw [if_neg g2]
            refine ⟨K, pre _ _ ?_, k2⟩
            refine x_eq rfl (by omega) (by omega) (fun w2 => absurd w2 g) (fun w2 => ?_)
            repeat refine x_step rfl ?_
            refine x_call rfl hcK ?_
            repeat refine x_step rfl ?_
            refine x_eq rfl (by omega) (by omega) (fun w3 => absurd w3 g2) (fun w3 => ?_)
            repeat refine x_step rfl ?_
            exact x_iret rfl rfl k3 rfl
  have hF0 : FO I I := ⟨fun _ _ => rfl, rfl⟩
  obtain ⟨J, x1, x2⟩ := loop 80 0 0 (xup I 110 2 0) (by omega) (by omega) (hF0.up (by omega)) (by rw [xup_at, if_pos rfl]) (by omega) (by omega)
  refine ⟨J, ?_, x2⟩
  refine XRa.of (by decide) (Nat.le_of_ble_eq_true rfl) ?_
  repeat refine x_step rfl ?_
  exact x_loc (by exact ⟨rfl, rfl, trivial⟩) x1
end FLT
