/-! the law's scores -/
/-- the law's value of any number -/
def vlL (x : Int) : Int := if x = 1 ∨ x = 5 then 1 else if x = 2 ∨ x = 4 then 2 else if x = 3 ∨ x = 7 then 3 else 4
theorem vlL_S {x : Int} (h1 : 1 ≤ x) (h8 : x ≤ 8) : vlL x = vlS x := by
  have hx : x = 1 ∨ x = 2 ∨ x = 3 ∨ x = 4 ∨ x = 5 ∨ x = 6 ∨ x = 7 ∨ x = 8 := by omega
  rcases hx with rfl | rfl | rfl | rfl | rfl | rfl | rfl | rfl <;> decide +kernel
theorem cL_valueA (h : XH) (x : Int) (hx : InR x) : XR mL_value [.inl x] h (some (.inl (vlL x))) h := by
  refine XRa.of (by decide) (Nat.le_of_ble_eq_true rfl) ?_
  obtain ⟨n, r, I⟩ := h
  unfold vlL
  repeat refine x_step rfl ?_
  refine x_eq rfl (by omega) (by omega) (fun w => ?_) (fun w1 => ?_)
  · repeat refine x_step rfl ?_
    exact x_iret rfl rfl (by rw [if_pos (by omega)]) rfl
  · repeat refine x_step rfl ?_
    refine x_eq rfl (by omega) (by omega) (fun w => ?_) (fun w5 => ?_)
    · repeat refine x_step rfl ?_
      exact x_iret rfl rfl (by rw [if_pos (by omega)]) rfl
    · rw [if_neg (by omega)]
      repeat refine x_step rfl ?_
      refine x_eq rfl (by omega) (by omega) (fun w => ?_) (fun w2 => ?_)
      · repeat refine x_step rfl ?_
        exact x_iret rfl rfl (by rw [if_pos (by omega)]) rfl
      · repeat refine x_step rfl ?_
        refine x_eq rfl (by omega) (by omega) (fun w => ?_) (fun w4 => ?_)
        · repeat refine x_step rfl ?_
          exact x_iret rfl rfl (by rw [if_pos (by omega)]) rfl
        · rw [if_neg (by omega)]
          repeat refine x_step rfl ?_
          refine x_eq rfl (by omega) (by omega) (fun w => ?_) (fun w3 => ?_)
          · repeat refine x_step rfl ?_
            exact x_iret rfl rfl (by rw [if_pos (by omega)]) rfl
          · repeat refine x_step rfl ?_
            refine x_eq rfl (by omega) (by omega) (fun w => ?_) (fun w7 => ?_)
            · repeat refine x_step rfl ?_
              exact x_iret rfl rfl (by rw [if_pos (by omega)]) rfl
            · repeat refine x_step rfl ?_
              exact x_iret rfl rfl (by rw [if_neg (by omega)]) rfl
/-- the values of the digits of a number -/
def dgF : Nat → Int → Int
  | 0, _ => 0
  | n + 1, r => if r ≤ 0 then 0 else vlL (r % 9) + dgF n (r / 9)
theorem dgF_0 (n : Nat) {r : Int} (h : r ≤ 0) : dgF n r = 0 := by
  cases n with
  | zero => rfl
  | succ n => unfold dgF; rw [if_pos h]
theorem dgF_f : ∀ (n : Nat) (r : Int), r < p9 n → dgF (n + 1) r = dgF n r := by
  intro n
  induction n with
  | zero =>
    intro r h
    have h : r < 1 := h
    rw [dgF_0 1 (by omega), dgF_0 0 (by omega)]
  | succ n ih =>
    intro r h
    have h : r < 9 * p9 n := h
    have e1 : dgF (n + 1 + 1) r = if r ≤ 0 then 0 else vlL (r % 9) + dgF (n + 1) (r / 9) := rfl
    have e2 : dgF (n + 1) r = if r ≤ 0 then 0 else vlL (r % 9) + dgF n (r / 9) := rfl
    rw [e1, e2]
    by_cases hz : r ≤ 0
    · rw [if_pos hz, if_pos hz]
    · rw [if_neg hz, if_neg hz, ih (r / 9) (by omega)]
theorem p9_pos : ∀ n : Nat, 1 ≤ p9 n := by
  intro n
  induction n with
  | zero => exact Int.le_refl 1
  | succ n ih => show 1 ≤ 9 * p9 n; omega
theorem p9_mono (n m : Nat) : p9 n ≤ p9 (n + m) := by
  induction m with
  | zero => exact Int.le_refl _
  | succ m ih =>
    have := p9_pos (n + m)
    show p9 n ≤ 9 * p9 (n + m)
    omega
theorem dg_step {c v : Int} (h0 : 0 ≤ c) (h1 : c < p9 10) (v1 : 1 ≤ v) (v8 : v ≤ 8) : dgF 11 (c * 9 + v) = vlS v + dgF 11 c := by
  have e1 : dgF 11 (c * 9 + v) = if c * 9 + v ≤ 0 then 0 else vlL ((c * 9 + v) % 9) + dgF 10 ((c * 9 + v) / 9) := rfl
  rw [e1, if_neg (by omega), show (c * 9 + v) % 9 = v by omega, show (c * 9 + v) / 9 = c by omega, vlL_S v1 v8, dgF_f 10 c h1]
/-- the values of the letters along a line -/
def svF (f : Int → Int) (x : Int) : Nat → Int → Int
  | 0, _ => 0
  | n + 1, k => if (if k = 0 then x else f k) = 0 then 0 else vlS (if k = 0 then x else f k) + svF f x n (k + 1)
theorem sv_up {f : Int → Int} {x : Int} : ∀ (n : Nat) (k : Int), 1 ≤ k → svF f x n k = upS f n k := by
  intro n
  induction n with
  | zero => intro k _; rfl
  | succ n ih =>
    intro k hk
    unfold svF upS
    rw [if_neg (show ¬ k = 0 by omega), ih (k + 1) (by omega)]
theorem sv_head {f : Int → Int} {x : Int} (hx : x ≠ 0) : ∀ (n : Nat) (k : Int), -k = n → (∀ j, k ≤ j → j < 0 → f j ≠ 0) → svF f x (n + 9) k = tS f n + (vlS x + upS f 8 1) := by
  intro n
  induction n with
  | zero =>
    intro k hk _
    have ek : k = 0 := by omega
    subst ek
    have e : svF f x (0 + 9) 0 = if x = 0 then 0 else vlS x + svF f x 8 (0 + 1) := rfl
    rw [e, if_neg hx, sv_up 8 (0 + 1) (by omega)]
    show _ = 0 + (vlS x + upS f 8 (0 + 1))
    omega
  | succ n ih =>
    intro k hk hj
    have e : svF f x (n + 1 + 9) k = if (if k = 0 then x else f k) = 0 then 0 else vlS (if k = 0 then x else f k) + svF f x (n + 9) (k + 1) := rfl
    have e2 : tS f (n + 1) = tS f n + vlS (f (-(n : Int) - 1)) := rfl
    rw [e, if_neg (show ¬ k = 0 by omega), if_neg (hj k (by omega) (by omega)), ih (k + 1) (by omega) (fun j a b => hj j (by omega) b), e2, show -(n : Int) - 1 = k by omega]
    omega
/-- the letters' values of a run -/
theorem dg_rn {b : Int → Int} (hb : bdR b) {q d x : Int} (h0 : 0 ≤ q) (h1 : q ≤ 80) (hd : d = 0 ∨ d = 1) (hx : 1 ≤ x ∧ x ≤ 8) (hr : rnS b q d x ≠ 0) : dgF 11 (rnS b q d x) = otS b q d + vlS x := by
  have hf := lfS_R hb q d
  have hc := c0_R (d := d) h0 h1
  have hin : ∀ k, lfS b q d k ≠ 0 → -(c0S q d) ≤ k := fun k hk => by
    have := lfC h0 h1 hd hk
    omega
  have hbk := bkS_ge hin 9 0 (by omega)
  have hbt := @bkS_tile (lfS b q d) 9 0
  have h9 : lfS b q d (-9) = 0 := by
    by_cases g : lfS b q d (-9) = 0
    · exact g
    · have := hin _ g; omega
  have hdw := dwS_t h9 8 (-1) (by omega) (by omega)
  rw [show (-1 : Int) + 1 = 0 by omega, show (8 : Nat) + 1 = 9 by rfl, show tS (lfS b q d) (-(0 : Int)).toNat = 0 from rfl] at hdw
  have er : rnS b q d x = (fwS (lfS b q d) x (9 - bkS (lfS b q d) 9 0).toNat (bkS (lfS b q d) 9 0) 0 0).1 := by
    unfold rnS rnF at hr ⊢
    by_cases g : 2 ≤ (fwS (lfS b q d) x (9 - bkS (lfS b q d) 9 0).toNat (bkS (lfS b q d) 9 0) 0 0).2
    · rw [if_pos g]
    · rw [if_neg g] at hr
      exact absurd rfl hr
  have hsv := sv_head (f := lfS b q d) (x := x) (by omega) (-(bkS (lfS b q d) 9 0)).toNat (bkS (lfS b q d) 9 0) (by omega) (fun j a b => hbt j a b)
  have hN : (9 - bkS (lfS b q d) 9 0).toNat ≤ 17 := by omega
  -- at most nine squares carry letters
  rw [er]
  have hcut : ∀ (n : Nat) (k c m : Int), k + c0S q d = 9 → fwS (lfS b q d) x n k c m = (c, m) ∨ k = 0 := fun n k c m hk => by
    by_cases k0 : k = 0
    · exact Or.inr k0
    · left
      refine fwS_end k0 ?_ n
      by_cases g : lfS b q d k = 0
      · exact g
      · have := lfC h0 h1 hd g; omega
  have key : ∀ (n : Nat) (k c m : Int) (j : Nat), 0 ≤ c → c < p9 j → k + c0S q d = j → (j : Int) ≤ 9 → k + n = 9 → dgF 11 (fwS (lfS b q d) x n k c m).1 = dgF 11 c + svF (lfS b q d) x n k := by
    intro n
    induction n with
    | zero => intro k c m j _ _ _ _ _; show dgF 11 c = dgF 11 c + 0; omega
    | succ n ih =>
      intro k c m j c0 c1 hk hj hn
      unfold fwS svF
      have hv : 0 ≤ (if k = 0 then x else lfS b q d k) ∧ (if k = 0 then x else lfS b q d k) ≤ 8 := by
        split
        · omega
        · exact hf k
      by_cases hz : (if k = 0 then x else lfS b q d k) = 0
      · rw [if_pos hz, if_pos hz]
        exact (Int.add_zero _).symm
      · rw [if_neg hz, if_neg hz]
        have hj8 : (j : Int) ≤ 8 := by
          by_cases k0 : k = 0
          · omega
          · rw [if_neg k0] at hz
            have := lfC h0 h1 hd hz
            omega
        generalize (if k = 0 then x else lfS b q d k) = v at *
        have hm := p9_mono j (10 - j)
        rw [show j + (10 - j) = 10 by omega] at hm
        have e : p9 (j + 1) = 9 * p9 j := rfl
        rw [ih (k + 1) (c * 9 + v) (m + 1) (j + 1) (by omega) (by rw [e]; omega) (by omega) (by omega) (by omega), dg_step c0 (by omega) (by omega) hv.2]
        omega
  have h3 := key (9 - bkS (lfS b q d) 9 0).toNat (bkS (lfS b q d) 9 0) 0 0 (bkS (lfS b q d) 9 0 + c0S q d).toNat (by omega) (by have := p9_pos (bkS (lfS b q d) 9 0 + c0S q d).toNat; omega) (by omega) (by omega) (by omega)
  rw [h3, dgF_0 11 (by omega), show (9 - bkS (lfS b q d) 9 0).toNat = (-(bkS (lfS b q d) 9 0)).toNat + 9 by omega, hsv]
  unfold otS
  omega
theorem kd_1 (q : Int) : kdS q = 1 ↔ zlsS q = 1 := by
  unfold kdS zwsS zlsS
  generalize (if 0 ≤ q / 9 - 4 then q / 9 - 4 else 0 - (q / 9 - 4)) = u
  generalize (if 0 ≤ q % 9 - 4 then q % 9 - 4 else 0 - (q % 9 - 4)) = v
  by_cases w : u = v ∧ 0 < u
  · rw [if_pos w, if_pos rfl, if_neg (show ¬ (u + v = 4 ∧ u ≠ 2) by omega)]
    omega
  · rw [if_neg w, if_neg (by omega)]
    by_cases w2 : u + v = 4 ∧ u ≠ 2
    · rw [if_pos w2, if_pos rfl]
    · rw [if_neg w2, if_neg (by omega)]
theorem kd_2 (q : Int) : kdS q = 2 ↔ zwsS q = 1 := by
  unfold kdS
  by_cases w : zwsS q = 1
  · rw [if_pos w]; omega
  · rw [if_neg w]
    constructor
    · intro g; split at g <;> omega
    · intro g; exact absurd g w
theorem kd_R (q : Int) : 0 ≤ kdS q ∧ kdS q ≤ 2 := by
  unfold kdS
  split
  · omega
  · split <;> omega
section LAW4
variable {I : Nat → Int → Int}
set_option maxRecDepth 20000 in
set_option maxHeartbeats 4000000 in
theorem cL_score (h : SIM I) (c q d : Int) (hr : plR c q d) (h9 : c0S q d + lnS c ≤ 9) : XR mL_score [.inr 3, .inl c, .inl q, .inl d] (hN I) (some (.inl (woS (I 118) c q d))) (hN I) := by
  obtain ⟨r1, r2, r3, r4, hd⟩ := id hr
  obtain ⟨l1, l2, l3, l4, l5⟩ := lnS_pos r2
  have hb := h.1.2.bd
  have hc0 := c0_R (d := d) r3 r4
  have hd1 : 1 - d = 0 ∨ 1 - d = 1 := by omega
  refine XRa.of (by decide) (Nat.le_of_ble_eq_true rfl) ?_
  have loop : ∀ (n i : Nat), (i : Int) + n = lnS c → XE mL_score (some (.inl (woS (I 118) c q d))) (hN I) 18 [(8, .inl (i : Int)), (7, .inl (neF (I 118) q d i)), (6, .inl (crF (I 118) c q d i)), (5, .inl (ftF (I 118) q d i)), (4, .inl (smF (I 118) c q d i)), (3, .inl d), (2, .inl q), (1, .inl c), (0, .inr 3)] [.inl c, .inl (i : Int)] (hN I) := by
    intro n
    induction n with
    | zero =>
      intro i e1
      have ei : (lnS c).toNat = i := by omega
      have hne := neF_R (I 118) q d i
      refine x_call rfl (cL_size _ c l1 r1) ?_
      rw [l5]
      refine x_le rfl (by omega) (by omega) (fun _ => ?_) (fun g => absurd (by omega) g)
      repeat refine x_step rfl ?_
      refine x_eq rfl (by omega) (by omega) (fun g => ?_) (fun g => ?_)
      · repeat refine x_step rfl ?_
        exact x_iret rfl rfl (by unfold woS; rw [ei, if_pos g]) rfl
      · repeat refine x_step rfl ?_
        exact x_iret rfl rfl (by unfold woS; rw [ei, if_neg g]) rfl
    | succ n ih =>
      intro i e1
      have kn : (i : Int) < lnS c := by clear ih; omega
      have k0 : (0 : Int) ≤ i := by clear ih; omega
      have a1 := at_in (k := i) r3 r4 hd (by clear ih; omega) (by clear ih; omega)
      have a2 : aoS q d i = atS q d i := by unfold aoS; rw [if_pos (by clear ih; omega)]
      have a3 := lf_in (b := I 118) (k := i) hd r3 r4 (by clear ih; omega) (by clear ih; omega)
      have hl := lfS_R hb q d i
      have hw := wlS_R r2 k0 kn
      have next := ih (i + 1) (by clear ih; omega)
      have ei : ((i + 1 : Nat) : Int) = (i : Int) + 1 := by omega
      rw [neF_s, crF_s, ftF_s, smF_s, ei] at next
      clear ih
      have hk1 := kd_1 (atS q d i)
      have hk2 := kd_2 (atS q d i)
      have hkR := kd_R (atS q d i)
      have hrn := rnS_R hb a1.1 a1.2.1 hd1 (x := wlS c i) (by omega)
      have hr0 := rnS_0 hb a1.1 a1.2.1 hd1 hw
      have hdg := dg_rn hb a1.1 a1.2.1 hd1 hw
      refine x_call rfl (cL_size _ c l1 r1) ?_
      rw [l5]
      refine x_le rfl (by omega) (by omega) (fun g => absurd g (by omega)) (fun _ => ?_)
      repeat refine x_step rfl ?_
      refine x_call rfl (cL_further _ q d i r3 r4 hd (by omega)) ?_
      rw [a2]
      repeat refine x_step rfl ?_
      refine x_call rfl (B_tile h _ a1.1 a1.2.1) ?_
      rw [a3]
      refine x_eq rfl (by omega) (by omega) (fun hz => ?_) (fun hz => ?_)
      · -- a new tile
        rw [if_pos hz, if_pos hz, if_pos hz, if_pos hz] at next
        -- from the run on
        have rest : ∀ (u w : Int), u = tvS (atS q d i) (wlS c i) → w = tfS (atS q d i) → XE mL_score (some (.inl (woS (I 118) c q d))) (hN I) 119 [(12, .inl w), (11, .inl u), (10, .inl 1), (9, .inl (atS q d i)), (8, .inl (i : Int)), (7, .inl (neF (I 118) q d i)), (6, .inl (crF (I 118) c q d i)), (5, .inl (ftF (I 118) q d i * w)), (4, .inl (smF (I 118) c q d i + u)), (3, .inl d), (2, .inl q), (1, .inl c), (0, .inr 3)] [.inl 1, .inl (neF (I 118) q d i)] (hN I) := by
          intro u w hu hw2
          have run : ∀ L : XL, xsub L [(12, .inl w), (11, .inl u), (9, .inl (atS q d i)), (8, .inl (i : Int)), (7, .inl (neF (I 118) q d i + 1)), (6, .inl (crF (I 118) c q d i)), (5, .inl (ftF (I 118) q d i * w)), (4, .inl (smF (I 118) c q d i + u)), (3, .inl d), (2, .inl q), (1, .inl c), (0, .inr 3)] → XE mL_score (some (.inl (woS (I 118) c q d))) (hN I) 150 L [.inl (i : Int), .inl c, .inl (1 - d), .inl (atS q d i), .inr 3] (hN I) := by
            intro L hL
            refine x_loc hL ?_
            refine x_call rfl (cL_letter _ c i r2 r1 k0 kn) ?_
            refine x_call rfl (cL_run h (atS q d i) (1 - d) (wlS c i) a1.1 a1.2.1 hd1 hw) ?_
            by_cases hz2 : rnS (I 118) (atS q d i) (1 - d) (wlS c i) = 0
            · rw [if_pos hz2]
              have ex : xwS (I 118) (atS q d i) (1 - d) (wlS c i) = 0 := by unfold xwS; rw [if_pos (hr0.mp hz2)]
              repeat refine x_step rfl ?_
              refine x_le rfl (by omega) (by omega) (fun g => absurd g (by omega)) (fun _ => ?_)
              repeat refine x_step rfl ?_
              exact x_loc (by exact ⟨rfl, rfl, xsi (by rw [ex]; omega), xsi (by rw [hw2]), xsi (by rw [hu]), rfl, rfl, rfl, rfl, trivial⟩) next
            · rw [if_neg hz2]
              have hdg2 := hdg hz2
              have ex : xwS (I 118) (atS q d i) (1 - d) (wlS c i) = w * (otS (I 118) (atS q d i) (1 - d) + u) := by
                unfold xwS
                rw [if_neg (fun g => hz2 (hr0.mpr g)), hu, hw2, Int.mul_comm]
              have digits : ∀ (F : Nat) (rs al : Int), rs < p9 F → 0 ≤ rs → InR rs → F ≤ 11 → al + dgF F rs = otS (I 118) (atS q d i) (1 - d) + u → XE mL_score (some (.inl (woS (I 118) c q d))) (hN I) 191 [(15, .inl rs), (14, .inl al), (12, .inl w), (8, .inl (i : Int)), (7, .inl (neF (I 118) q d i + 1)), (6, .inl (crF (I 118) c q d i)), (5, .inl (ftF (I 118) q d i * w)), (4, .inl (smF (I 118) c q d i + u)), (3, .inl d), (2, .inl q), (1, .inl c), (0, .inr 3)] [.inl rs] (hN I) := by
                intro F
                have done : ∀ (rs al : Int), rs ≤ 0 → InR rs → al = otS (I 118) (atS q d i) (1 - d) + u → XE mL_score (some (.inl (woS (I 118) c q d))) (hN I) 191 [(15, .inl rs), (14, .inl al), (12, .inl w), (8, .inl (i : Int)), (7, .inl (neF (I 118) q d i + 1)), (6, .inl (crF (I 118) c q d i)), (5, .inl (ftF (I 118) q d i * w)), (4, .inl (smF (I 118) c q d i + u)), (3, .inl d), (2, .inl q), (1, .inl c), (0, .inr 3)] [.inl rs] (hN I) := by
                  intro rs al g1 g2 g3
                  refine x_le rfl g2 (by omega) (fun _ => ?_) (fun g => absurd g1 g)
                  repeat refine x_step rfl ?_
                  exact x_loc (by exact ⟨rfl, rfl, xsi (by rw [ex, g3]), xsi (by rw [hw2]), xsi (by rw [hu]), rfl, rfl, rfl, rfl, trivial⟩) next
                induction F with
                | zero =>
                  intro rs al g1 g2 g3 g4 g5
                  have g1 : rs < 1 := g1
                  rw [dgF_0 0 (by omega)] at g5
                  exact done rs al (by omega) g3 (by omega)
                | succ F ih =>
                  intro rs al g1 g2 g3 g4 g5
                  have g1 : rs < 9 * p9 F := g1
                  by_cases gz : rs ≤ 0
                  · rw [dgF_0 _ gz] at g5
                    exact done rs al gz g3 (by omega)
                  · have e : dgF (F + 1) rs = vlL (rs % 9) + dgF F (rs / 9) := if_neg gz
                    rw [e] at g5
                    refine x_le rfl g3 (by omega) (fun g => absurd g gz) (fun _ => ?_)
                    repeat refine x_step rfl ?_
                    refine x_rem rfl (by omega) (by omega) (by omega) (by omega) ?_
                    refine x_call rfl (cL_valueA _ (rs % 9) (by omega)) ?_
                    repeat refine x_step rfl ?_
                    refine x_div rfl (by omega) (by omega) (by omega) (by omega) ?_
                    repeat refine x_step rfl ?_
                    exact x_loc (by exact ⟨rfl, rfl, rfl, rfl, rfl, rfl, rfl, rfl, rfl, rfl, rfl, rfl, trivial⟩) (ih (rs / 9) (al + vlL (rs % 9)) (by omega) (by omega) (by omega) (by omega) (by omega))
              repeat refine x_step rfl ?_
              refine x_le rfl (by omega) (by omega) (fun _ => ?_) (fun g => absurd (by omega) g)
              repeat refine x_step rfl ?_
              refine x_call rfl (cL_letter _ c i r2 r1 k0 kn) ?_
              refine x_call rfl (cL_value _ _ hw.1 hw.2) ?_
              repeat refine x_step rfl ?_
              exact x_loc (by exact ⟨rfl, rfl, rfl, rfl, rfl, rfl, rfl, rfl, rfl, rfl, rfl, rfl, trivial⟩) (digits 11 _ (u - vlS (wlS c i)) (by have := hrn.2; simp only [p9]; omega) hrn.1 (by omega) (by omega) (by rw [hdg2]; omega))
          refine x_eq rfl (by omega) (by omega) (fun g => absurd g (by omega)) (fun _ => ?_)
          repeat refine x_step rfl ?_
          refine x_eq rfl (by omega) (by omega) (fun g => absurd g (by omega)) (fun _ => ?_)
          repeat refine x_step rfl ?_
          refine x_eq rfl (by omega) (by omega) (fun g => ?_) (fun g => ?_)
          · repeat refine x_step rfl ?_
            exact x_stk (S' := [.inl (i : Int), .inl c, .inl (1 - d), .inl (atS q d i), .inr 3]) (by rw [show 1 - d = 1 by omega]) (run _ (by exact ⟨rfl, rfl, rfl, rfl, rfl, rfl, rfl, rfl, rfl, rfl, rfl, rfl, trivial⟩))
          · repeat refine x_step rfl ?_
            exact x_stk (S' := [.inl (i : Int), .inl c, .inl (1 - d), .inl (atS q d i), .inr 3]) (by rw [show 1 - d = 0 by omega]) (run _ (by exact ⟨rfl, rfl, rfl, rfl, rfl, rfl, rfl, rfl, rfl, rfl, rfl, rfl, trivial⟩))
        have fac : ∀ (u : Int) (L : XL), u = tvS (atS q d i) (wlS c i) → xsub L [(11, .inl u), (10, .inl 1), (9, .inl (atS q d i)), (8, .inl (i : Int)), (7, .inl (neF (I 118) q d i)), (6, .inl (crF (I 118) c q d i)), (5, .inl (ftF (I 118) q d i)), (4, .inl (smF (I 118) c q d i)), (3, .inl d), (2, .inl q), (1, .inl c), (0, .inr 3)] → XE mL_score (some (.inl (woS (I 118) c q d))) (hN I) 80 L [] (hN I) := by
          intro u L hu hL
          refine x_loc hL ?_
          repeat refine x_step rfl ?_
          refine x_eq rfl (by omega) (by omega) (fun g => absurd g (by omega)) (fun _ => ?_)
          repeat refine x_step rfl ?_
          refine x_call rfl (cL_kind _ _ a1.1 a1.2.1) ?_
          repeat refine x_step rfl ?_
          refine x_eq rfl (by omega) (by omega) (fun g => ?_) (fun g => ?_)
          · repeat refine x_step rfl ?_
            exact x_loc (by exact ⟨rfl, rfl, rfl, rfl, rfl, rfl, rfl, rfl, rfl, rfl, rfl, rfl, rfl, trivial⟩) (rest u 2 hu (by unfold tfS; rw [if_pos (hk2.mp g)]))
          · repeat refine x_step rfl ?_
            exact x_loc (by exact ⟨rfl, rfl, rfl, rfl, rfl, rfl, rfl, rfl, rfl, rfl, rfl, rfl, rfl, trivial⟩) (rest u 1 hu (by unfold tfS; rw [if_neg (fun v => g (hk2.mpr v))]))
        repeat refine x_step rfl ?_
        refine x_call rfl (cL_letter _ c i r2 r1 k0 kn) ?_
        refine x_call rfl (cL_value _ _ hw.1 hw.2) ?_
        repeat refine x_step rfl ?_
        refine x_eq rfl (by omega) (by omega) (fun g => absurd g (by omega)) (fun _ => ?_)
        repeat refine x_step rfl ?_
        refine x_call rfl (cL_kind _ _ a1.1 a1.2.1) ?_
        repeat refine x_step rfl ?_
        refine x_eq rfl (by omega) (by omega) (fun g => ?_) (fun g => ?_)
        · refine x_step rfl ?_
          refine x_step rfl ?_
          refine x_step rfl ?_
          refine x_step rfl ?_
          exact fac (vlS (wlS c i) * 3) _ (by unfold tvS; rw [if_pos (hk1.mp g)]) (by exact ⟨rfl, rfl, rfl, rfl, rfl, rfl, rfl, rfl, rfl, rfl, rfl, rfl, trivial⟩)
        · refine x_step rfl ?_
          refine x_step rfl ?_
          refine x_step rfl ?_
          exact fac (vlS (wlS c i) * 1) _ (by unfold tvS; rw [if_neg (fun v => g (hk1.mpr v))]) (by exact ⟨rfl, rfl, rfl, rfl, rfl, rfl, rfl, rfl, rfl, rfl, rfl, rfl, trivial⟩)
      · -- a tile is there
        rw [if_neg hz, if_neg hz, if_neg hz, if_neg hz] at next
        repeat refine x_step rfl ?_
        refine x_call rfl (cL_letter _ c i r2 r1 k0 kn) ?_
        refine x_call rfl (cL_value _ _ hw.1 hw.2) ?_
        repeat refine x_step rfl ?_
        refine x_eq rfl (by omega) (by omega) (fun _ => ?_) (fun g => absurd rfl g)
        repeat refine x_step rfl ?_
        refine x_eq rfl (by omega) (by omega) (fun _ => ?_) (fun g => absurd rfl g)
        repeat refine x_step rfl ?_
        refine x_eq rfl (by omega) (by omega) (fun _ => ?_) (fun g => absurd rfl g)
        repeat refine x_step rfl ?_
        refine x_eq rfl (by omega) (by omega) (fun _ => ?_) (fun g => absurd rfl g)
        repeat refine x_step rfl ?_
        refine x_le rfl (by omega) (by omega) (fun g => absurd g (by omega)) (fun _ => ?_)
        repeat refine x_step rfl ?_
        exact x_loc (by exact ⟨rfl, rfl, xsi (by omega), rfl, xsi (by omega), rfl, rfl, rfl, rfl, trivial⟩) next
  repeat refine x_step rfl ?_
  exact x_loc (by exact ⟨rfl, rfl, rfl, rfl, rfl, rfl, rfl, rfl, rfl, trivial⟩) (loop (lnS c).toNat 0 (by omega))
end LAW4
