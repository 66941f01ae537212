/-! the orders of a text: the class -/
/-- the character at a place; 0 behind the end -/
def cuS (t : Int → Int) (len p : Int) : Int := if 0 ≤ p ∧ p < len then t p else 0
/-- a word is read: the place behind it and its number -/
def rwF (u : Int → Int) : Nat → Int → Int → Int × Int
  | 0, p, c => (p, c)
  | n + 1, p, c => if 97 ≤ u p ∧ u p ≤ 104 then rwF u n (p + 1) (c * 9 + (u p - 96)) else (p, c)
def wdP (u : Int → Int) (p : Int) : Int := (rwF u 7 p 0).1
def wdC (u : Int → Int) (p : Int) : Int := (rwF u 7 p 0).2
theorem rwF_R (u : Int → Int) : ∀ (n : Nat) (p c : Int), p ≤ (rwF u n p c).1 ∧ (rwF u n p c).1 ≤ p + n := by
  intro n
  induction n with
  | zero => intro p c; exact ⟨Int.le_refl _, by show p ≤ p + ((0 : Nat) : Int); omega⟩
  | succ n ih =>
    intro p c
    by_cases h : 97 ≤ u p ∧ u p ≤ 104
    · rw [rwF, if_pos h]
      have := ih (p + 1) (c * 9 + (u p - 96))
      omega
    · rw [rwF, if_neg h]
      show p ≤ p ∧ p ≤ p + ((n + 1 : Nat) : Int)
      omega
theorem wdP_R (u : Int → Int) (p : Int) : p ≤ wdP u p ∧ wdP u p ≤ p + 7 := rwF_R u 7 p 0
def wdE (u : Int → Int) (p : Int) : Int := if wdP u p - p < 2 then -1 - wdP u p else wdP u p
def plE (u : Int → Int) (p : Int) : Int := if ¬ (49 ≤ u p ∧ u p ≤ 57) then -1 - p else if ¬ (49 ≤ u (p + 1) ∧ u (p + 1) ≤ 57) then -2 - p else if ¬ (u (p + 2) = 62 ∨ u (p + 2) = 118) then -3 - p else p + 3
def roE (u : Int → Int) (p : Int) : Int := if u p = 43 ∨ u p = 45 then wdE u (p + 1) else if wdE u p < 0 then wdE u p else plE u (wdE u p)
/-- where the number stands, whether it is a fault's or not -/
def psE (e : Int) : Int := if e < 0 then -1 - e else e
def plQ (u : Int → Int) (p : Int) : Int := 9 * (u p - 49) + (u (p + 1) - 49)
def plD (u : Int → Int) (p : Int) : Int := if u (p + 2) = 118 then 1 else 0
def FO (I H : Nat → Int → Int) : Prop := (∀ a : Nat, a ≠ 110 → H a = I a) ∧ H 110 1 = I 110 1
section ORD
variable {I : Nat → Int → Int}
theorem TX.cu (h : TX I) (p : Int) : (0 ≤ cuS (I 111) (I 110 1) p ∧ cuS (I 111) (I 110 1) p ≤ 126) ∧ (cuS (I 111) (I 110 1) p ≠ 0 → 0 ≤ p ∧ p < I 110 1) := by
  unfold cuS
  by_cases w : 0 ≤ p ∧ p < I 110 1
  · have := h.2.2.2 p w.1 w.2
    rw [if_pos w]
    exact ⟨by omega, fun _ => w⟩
  · rw [if_neg w]
    exact ⟨by omega, fun x => absurd rfl x⟩
theorem cO_current (h : TX I) {H : Nat → Int → Int} (hF : FO I H) (hp : -1000 ≤ H 110 2 ∧ H 110 2 ≤ 1000) : XR mO_current [.inr 110] (hN H) (some (.inl (cuS (I 111) (I 110 1) (H 110 2)))) (hN H) := by
  refine XRa.of (by decide) (Nat.le_of_ble_eq_true rfl) ?_
  obtain ⟨t0, t1, t2, t3⟩ := h
  have e1 := hF.2
  have e111 : H 111 = I 111 := hF.1 111 (by omega)
  have no : ∀ L : XL, ¬ (0 ≤ H 110 2 ∧ H 110 2 < I 110 1) → XE mO_current (some (.inl (cuS (I 111) (I 110 1) (H 110 2)))) (hN H) 27 L [] (hN H) := fun L hc => by
    repeat refine x_step rfl ?_
    exact x_iret rfl rfl (by unfold cuS; rw [if_neg hc]) rfl
  repeat refine x_step rfl ?_
  refine x_lt rfl (by omega) (by omega) (fun w => no _ (by omega)) (fun w => ?_)
  repeat refine x_step rfl ?_
  rw [e1]
  refine x_le rfl (by omega) (by omega) (fun w => no _ (by omega)) (fun w => ?_)
  repeat refine x_step rfl ?_
  refine x_lt rfl (by omega) (by omega) (fun w => ?_) (fun w => by omega)
  repeat refine x_step rfl ?_
  refine x_ald (len := 79) rfl (by omega) (by omega) ?_
  exact x_iret rfl rfl (by unfold cuS; rw [if_pos (by omega), e111]) rfl
def rwK (H : Nat → Int → Int) (p c : Int) : Nat → Int → Int := xup (xup H 110 4 c) 110 2 p
theorem rwK_at {H : Nat → Int → Int} {p c f : Int} : rwK H p c 110 f = if f = 2 then p else if f = 4 then c else H 110 f := by unfold rwK; rw [xup_at, xup_at]
theorem rwK_ne {H : Nat → Int → Int} {p c : Int} {a : Nat} (h : a ≠ 110) : rwK H p c a = H a := by unfold rwK; rw [xup_ne h, xup_ne h]
theorem rwK_s {H : Nat → Int → Int} {p c p' c' : Int} : xup (xup (rwK H p c) 110 4 c') 110 2 p' = rwK H p' c' := by
  funext a f
  by_cases h : a = 110
  · subst h
    rw [xup_at, xup_at, rwK_at, rwK_at]
    by_cases h2 : f = 2
    · rw [if_pos h2, if_pos h2]
    · by_cases h4 : f = 4
      · rw [if_neg h2, if_neg h2, if_pos h4, if_neg h2, if_pos h4]
      · rw [if_neg h2, if_neg h2, if_neg h4, if_neg h4, if_neg h2, if_neg h4]
  · rw [xup_ne h, xup_ne h, rwK_ne h, rwK_ne h]
theorem FO.rw {H : Nat → Int → Int} (hF : FO I H) (p c : Int) : FO I (rwK H p c) := ⟨fun a w => by rw [rwK_ne w]; exact hF.1 a w, by rw [rwK_at, if_neg (by omega), if_neg (by omega)]; exact hF.2⟩
theorem cO_readWord (h : TX I) {H : Nat → Int → Int} (hF : FO I H) {p : Int} (hp : H 110 2 = p) (h0 : 0 ≤ p ∧ p ≤ 200) : XR mO_readWord [.inr 110] (hN H) (some (.inl (if wdP (cuS (I 111) (I 110 1)) p - p < 2 then 0 else 1))) (hN (rwK H (wdP (cuS (I 111) (I 110 1)) p) (wdC (cuS (I 111) (I 110 1)) p))) := by
  refine XRa.of (by decide) (Nat.le_of_ble_eq_true rfl) ?_
  have hcu := fun q => (h.cu q).1
  generalize hu : cuS (I 111) (I 110 1) = u at *
  have hR := wdP_R u p
  -- out
  have out : ∀ (n : Int) (p' : Int) (L : XL) (J : Nat → Int → Int), p' = p + n → p' = wdP u p → J = rwK H (wdP u p) (wdC u p) → xsub L [(1, .inl n)] → XE mO_readWord (some (.inl (if wdP u p - p < 2 then 0 else 1))) (hN (rwK H (wdP u p) (wdC u p))) 68 L [] (hN J) := by
    intro n p' L J e1 e2 e3 hL
    rw [e3]
    refine x_loc hL ?_
    repeat refine x_step rfl ?_
    refine x_lt rfl (by omega) (by omega) (fun w => ?_) (fun w => ?_)
    · repeat refine x_step rfl ?_
      exact x_zret rfl rfl (by rw [if_pos (by omega)]) (Or.inl rfl) rfl
    · repeat refine x_step rfl ?_
      exact x_zret rfl rfl (by rw [if_neg (by omega)]) (Or.inr rfl) rfl
  have loop : ∀ (m : Nat) (n q c : Int), n + m = 7 → 0 ≤ n → q = p + n → (rwF u m q c).1 = wdP u p → (rwF u m q c).2 = wdC u p → XE mO_readWord (some (.inl (if wdP u p - p < 2 then 0 else 1))) (hN (rwK H (wdP u p) (wdC u p))) 10 [(1, .inl n), (0, .inr 110)] [.inl 7, .inl n] (hN (rwK H q c)) := by
    intro m
    induction m with
    | zero =>
      intro n q c a b e g1 g2
      have g1 : q = wdP u p := g1
      have g2 : c = wdC u p := g2
      refine x_le rfl (by omega) (by omega) (fun w => ?_) (fun w => absurd (by omega) w)
      exact out n q _ _ e g1 (by rw [g1, g2]) (by exact ⟨rfl, trivial⟩)
    | succ m ih =>
      intro n q c a b e g1 g2
      have hFK := hF.rw q c
      have ek : rwK H q c 110 2 = q := by rw [rwK_at, if_pos rfl]
      have hcur := cO_current h hFK (by rw [ek]; omega)
      rw [ek, hu] at hcur
      have hcq := hcu q
      refine x_le rfl (by omega) (by omega) (fun w => by omega) (fun w => ?_)
      repeat refine x_step rfl ?_
      refine x_call rfl hcur ?_
      repeat refine x_step rfl ?_
      refine x_lt rfl (by omega) (by omega) (fun w1 => ?_) (fun w1 => ?_)
      · rw [rwF, if_neg (by omega)] at g1 g2
        have g1 : q = wdP u p := g1
        have g2 : c = wdC u p := g2
        exact out n q _ _ e g1 (by rw [g1, g2]) (by exact ⟨rfl, trivial⟩)
      · repeat refine x_step rfl ?_
        refine x_call rfl hcur ?_
        repeat refine x_step rfl ?_
        refine x_lt rfl (by omega) (by omega) (fun w2 => ?_) (fun w2 => ?_)
        · rw [rwF, if_neg (by omega)] at g1 g2
          have g1 : q = wdP u p := g1
          have g2 : c = wdC u p := g2
          exact out n q _ _ e g1 (by rw [g1, g2]) (by exact ⟨rfl, trivial⟩)
        · rw [rwF, if_pos (by omega)] at g1 g2
          have ek4 : rwK H q c 110 4 = c := by rw [rwK_at, if_neg (by omega), if_pos rfl]
          repeat refine x_step rfl ?_
          rw [ek4]
          refine x_call rfl hcur ?_
          refine x_step rfl ?_
          refine x_step rfl ?_
          refine x_step rfl ?_
          refine x_step rfl ?_
          refine x_step rfl ?_
          refine x_step rfl ?_
          have ek2 : ∀ v, xup (rwK H q c) 110 4 v 110 2 = q := fun v => by rw [xup_at, if_neg (by omega), ek]
          repeat refine x_step rfl ?_
          rw [ek2, rwK_s, show c * 9 + (u q - 97 + 1) = c * 9 + (u q - 96) by omega]
          exact x_loc (by exact ⟨rfl, rfl, trivial⟩) (ih (n + 1) (q + 1) _ (by omega) (by omega) (by omega) g1 g2)
  have go := loop 7 0 p 0 (by omega) (by omega) (by omega) rfl rfl
  have e0 : xup H 110 4 0 = rwK H p 0 := by
    funext a f
    by_cases ha : a = 110
    · subst ha
      rw [xup_at, rwK_at]
      by_cases h2 : f = 2
      · rw [if_pos h2, if_neg (by omega), h2, hp]
      · rw [if_neg h2]
    · rw [xup_ne ha, rwK_ne ha]
  repeat refine x_step rfl ?_
  rw [e0]
  exact x_loc (by exact ⟨rfl, rfl, trivial⟩) go
end ORD
