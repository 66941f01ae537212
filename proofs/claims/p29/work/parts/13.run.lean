/-! runs -/
theorem lfS_in {b : Int → Int} {q d k : Int} (h0 : 0 ≤ q) (h1 : q ≤ 80) (hd : d = 0 ∨ d = 1) (h : lfS b q d k ≠ 0) : 0 ≤ (if d = 0 then q % 9 else q / 9) + k ∧ (if d = 0 then q % 9 else q / 9) + k ≤ 8 := by
  unfold lfS at h
  rcases hd with rfl | rfl
  · simp only [if_true] at h ⊢
    by_cases w : 0 ≤ q / 9 + 0 ∧ q / 9 + 0 < 9 ∧ 0 ≤ q % 9 + k ∧ q % 9 + k < 9
    · omega
    · rw [if_neg w] at h
      exact absurd rfl h
  · simp only [show ¬ (1 : Int) = 0 by omega, if_false] at h ⊢
    by_cases w : 0 ≤ q / 9 + k ∧ q / 9 + k < 9 ∧ 0 ≤ q % 9 + 0 ∧ q % 9 + 0 < 9
    · omega
    · rw [if_neg w] at h
      exact absurd rfl h
/-- back along a line as long as there are tiles -/
def bkS (f : Int → Int) : Nat → Int → Int
  | 0, k => k
  | n + 1, k => if f (k - 1) = 0 then k else bkS f n (k - 1)
/-- on along a line: the code and the number of the letters, x standing at 0 -/
def fwS (f : Int → Int) (x : Int) : Nat → Int → Int → Int → Int × Int
  | 0, _, c, m => (c, m)
  | n + 1, k, c, m => if (if k = 0 then x else f k) = 0 then (c, m) else fwS f x n (k + 1) (c * 9 + (if k = 0 then x else f k)) (m + 1)
def rnF (f : Int → Int) (x : Int) (k0 : Int) : Int := if 2 ≤ (fwS f x (9 - k0).toNat k0 0 0).2 then (fwS f x (9 - k0).toNat k0 0 0).1 else 0
/-- the number of the run through a square with the letter x there; 0 for none -/
def rnS (b : Int → Int) (q d x : Int) : Int := rnF (lfS b q d) x (bkS (lfS b q d) 9 0)
theorem cS_runThrough (I : Nat → Int → Int) (hb : bdR (I 8)) (q d x : Int) (h0 : 0 ≤ q) (h1 : q ≤ 80) (hd : d = 0 ∨ d = 1) (hx : InR x) : XR mS_runThrough [.inr 7, .inl q, .inl d, .inl x] (hN I) (some (.inl (rnS (I 8) q d x))) (hN I) := by
  refine XRa.of (by decide) (Nat.le_of_ble_eq_true rfl) ?_
  have loop2 : ∀ (n : Nat) (k cd m w : Int), k + n = 9 → -10 ≤ k → 0 ≤ m → m + n ≤ 20 → w = (if 2 ≤ (fwS (lfS (I 8) q d) x n k cd m).2 then (fwS (lfS (I 8) q d) x n k cd m).1 else 0) → XE mS_runThrough (some (.inl w)) (hN I) 43 [(7, .inl k), (6, .inl m), (5, .inl cd), (3, .inl x), (2, .inl d), (1, .inl q), (0, .inr 7)] [.inl 9, .inl k] (hN I) := by
    intro n
    induction n with
    | zero =>
      intro k cd m w hk hk2 hm hm2 hw
      unfold fwS at hw
      refine x_le rfl (by omega) (by omega) (fun hc => ?_) (fun hc => absurd (by omega) hc)
      repeat refine x_step rfl ?_
      refine x_lt rfl (by omega) (by omega) (fun hl => ?_) (fun hl => ?_)
      · repeat refine x_step rfl ?_
        exact x_iret rfl rfl (by rw [hw, if_neg (by omega)]) rfl
      · repeat refine x_step rfl ?_
        exact x_iret rfl rfl (by rw [hw, if_pos (by omega)]) rfl
    | succ n ih =>
      intro k cd m w hk hk2 hm hm2 hw
      unfold fwS at hw
      have J : ∀ (nx : Int) (L : XL), InR nx → nx = (if k = 0 then x else lfS (I 8) q d k) → xsub L [(7, .inl k), (6, .inl m), (5, .inl cd), (3, .inl x), (2, .inl d), (1, .inl q), (0, .inr 7), (8, .inl nx)] → XE mS_runThrough (some (.inl w)) (hN I) 67 L [.inl nx] (hN I) := by
        intro nx L hnx hnx2 hL
        rw [← hnx2] at hw
        refine x_loc hL ?_
        refine x_eq rfl hnx (by omega) (fun hz => ?_) (fun hz => ?_)
        · rw [if_pos hz] at hw
          repeat refine x_step rfl ?_
          refine x_lt rfl (by omega) (by omega) (fun hl => ?_) (fun hl => ?_)
          · repeat refine x_step rfl ?_
            exact x_iret rfl rfl (by rw [hw, if_neg (by omega)]) rfl
          · repeat refine x_step rfl ?_
            exact x_iret rfl rfl (by rw [hw, if_pos (by omega)]) rfl
        · rw [if_neg hz] at hw
          repeat refine x_step rfl ?_
          exact x_loc (by exact ⟨rfl, rfl, rfl, rfl, rfl, rfl, rfl, trivial⟩) (ih (k + 1) (cd * 9 + nx) (m + 1) w (by omega) (by omega) (by omega) (by omega) hw)
      refine x_le rfl (by omega) (by omega) (fun hc => absurd hc (by omega)) (fun hc => ?_)
      repeat refine x_step rfl ?_
      refine x_eq rfl (by omega) (by omega) (fun hz => ?_) (fun hz => ?_)
      · repeat refine x_step rfl ?_
        exact J x _ hx (by rw [if_pos hz]) (by exact ⟨rfl, rfl, rfl, rfl, rfl, rfl, rfl, rfl, trivial⟩)
      · repeat refine x_step rfl ?_
        refine x_call rfl (cS_letterFrom I q d k h0 h1 hd (by omega)) ?_
        repeat refine x_step rfl ?_
        have := lfS_R hb q d k
        exact J _ _ (by omega) (by rw [if_neg hz]) (by exact ⟨rfl, rfl, rfl, rfl, rfl, rfl, rfl, rfl, trivial⟩)
  have loop1 : ∀ (n : Nat) (k w : Int), k + 9 = n → k ≤ 0 → w = rnF (lfS (I 8) q d) x (bkS (lfS (I 8) q d) n k) → XE mS_runThrough (some (.inl w)) (hN I) 7 [(4, .inl k), (3, .inl x), (2, .inl d), (1, .inl q), (0, .inr 7)] [.inl (-9), .inl k] (hN I) := by
    intro n
    induction n with
    | zero =>
      intro k w hk hk2 hw
      refine x_le rfl (by omega) (by omega) (fun hc => ?_) (fun hc => absurd (by omega) hc)
      repeat refine x_step rfl ?_
      exact x_loc (by exact ⟨rfl, rfl, rfl, rfl, rfl, rfl, rfl, trivial⟩) (loop2 (9 - k).toNat k 0 0 w (by omega) (by omega) (by omega) (by omega) hw)
    | succ n ih =>
      intro k w hk hk2 hw
      unfold bkS at hw
      refine x_le rfl (by omega) (by omega) (fun hc => absurd hc (by omega)) (fun hc => ?_)
      repeat refine x_step rfl ?_
      refine x_call rfl (cS_letterFrom I q d (k - 1) h0 h1 hd (by omega)) ?_
      have := lfS_R hb q d (k - 1)
      refine x_eq rfl (by omega) (by omega) (fun hz => ?_) (fun hz => ?_)
      · rw [if_pos hz] at hw
        repeat refine x_step rfl ?_
        exact x_loc (by exact ⟨rfl, rfl, rfl, rfl, rfl, rfl, rfl, trivial⟩) (loop2 (9 - k).toNat k 0 0 w (by omega) (by omega) (by omega) (by omega) hw)
      · rw [if_neg hz] at hw
        repeat refine x_step rfl ?_
        exact x_loc (by exact ⟨rfl, rfl, rfl, rfl, rfl, trivial⟩) (ih (k - 1) w (by omega) (by omega) hw)
  repeat refine x_step rfl ?_
  exact x_loc (by exact ⟨rfl, rfl, rfl, rfl, rfl, trivial⟩) (loop1 9 0 _ rfl (by omega) rfl)
/-- how far a code can come -/
theorem fwS_R {f : Int → Int} {x lo : Int} (hf : ∀ k, f k ≠ 0 → lo ≤ k ∧ k ≤ lo + 8) (hf2 : ∀ k, 0 ≤ f k ∧ f k ≤ 8) (hx : 0 ≤ x ∧ x ≤ 8) (hlo : lo ≤ 0 ∧ 0 ≤ lo + 8) : ∀ (n : Nat) (k cd m : Int) (j : Nat), k = lo + j → j ≤ 9 → 0 ≤ cd → cd < p9 j → 0 ≤ (fwS f x n k cd m).1 ∧ (fwS f x n k cd m).1 < p9 9 := by
  have mono : ∀ j, j ≤ 9 → p9 j ≤ p9 9 := by decide +kernel
  intro n
  induction n with
  | zero =>
    intro k cd m j hk hj h0 h1
    have := mono j hj
    unfold fwS
    show 0 ≤ cd ∧ cd < p9 9
    omega
  | succ n ih =>
    intro k cd m j hk hj h0 h1
    have := mono j hj
    unfold fwS
    by_cases hz : (if k = 0 then x else f k) = 0
    · rw [if_pos hz]
      show 0 ≤ cd ∧ cd < p9 9
      omega
    · rw [if_neg hz]
      have hk8 : k ≤ lo + 8 := by
        by_cases hk0 : k = 0
        · omega
        · rw [if_neg hk0] at hz
          exact (hf k hz).2
      have hv : 0 ≤ (if k = 0 then x else f k) ∧ (if k = 0 then x else f k) ≤ 8 := by
        split
        · exact hx
        · exact hf2 k
      have hp : p9 (j + 1) = 9 * p9 j := rfl
      exact ih (k + 1) _ _ (j + 1) (by omega) (by omega) (by omega) (by omega)
theorem bkS_ge {f : Int → Int} {lo : Int} (hf : ∀ k, f k ≠ 0 → lo ≤ k) : ∀ (n : Nat) (k : Int), lo ≤ k → lo ≤ bkS f n k ∧ bkS f n k ≤ k := by
  intro n
  induction n with
  | zero => intro k h; exact ⟨h, Int.le_refl _⟩
  | succ n ih =>
    intro k h
    unfold bkS
    by_cases hz : f (k - 1) = 0
    · rw [if_pos hz]; omega
    · rw [if_neg hz]
      have := hf _ hz
      have := ih (k - 1) this
      omega
theorem rnS_R {b : Int → Int} (hb : bdR b) {q d x : Int} (h0 : 0 ≤ q) (h1 : q ≤ 80) (hd : d = 0 ∨ d = 1) (hx : 0 ≤ x ∧ x ≤ 8) : 0 ≤ rnS b q d x ∧ rnS b q d x < 387420489 := by
  unfold rnS rnF
  split
  · have hc : 0 ≤ (if d = 0 then q % 9 else q / 9) ∧ (if d = 0 then q % 9 else q / 9) ≤ 8 := by split <;> omega
    have hin : ∀ k, lfS b q d k ≠ 0 → -(if d = 0 then q % 9 else q / 9) ≤ k ∧ k ≤ -(if d = 0 then q % 9 else q / 9) + 8 := fun k hk => by
      have := lfS_in h0 h1 hd hk
      omega
    have hbk := bkS_ge (lo := -(if d = 0 then q % 9 else q / 9)) (fun k hk => (hin k hk).1) 9 0 (by omega)
    have hp : ∀ j, 0 < p9 j := by
      intro j
      induction j with
      | zero => decide
      | succ j ih => unfold p9; omega
    have := fwS_R hin (lfS_R hb q d) hx (by omega) (9 - bkS (lfS b q d) 9 0).toNat (bkS (lfS b q d) 9 0) 0 0 (bkS (lfS b q d) 9 0 + (if d = 0 then q % 9 else q / 9)).toNat (by omega) (by omega) (by omega) (hp _)
    have e : p9 9 = 387420489 := by decide +kernel
    rw [e] at this
    exact this
  · omega
/-- the values of the letters along a line -/
def upS (f : Int → Int) : Nat → Int → Int
  | 0, _ => 0
  | n + 1, k => if f k = 0 then 0 else vlS (f k) + upS f n (k + 1)
def dwS (f : Int → Int) : Nat → Int → Int
  | 0, _ => 0
  | n + 1, k => if f k = 0 then 0 else vlS (f k) + dwS f n (k - 1)
theorem cS_valueBeside (I : Nat → Int → Int) (hb : bdR (I 8)) (q d : Int) (h0 : 0 ≤ q) (h1 : q ≤ 80) (hd : d = 0 ∨ d = 1) : XR mS_valueBeside [.inr 7, .inl q, .inl d] (hN I) (some (.inl (upS (lfS (I 8) q d) 8 1 + dwS (lfS (I 8) q d) 8 (-1)))) (hN I) := by
  refine XRa.of (by decide) (Nat.le_of_ble_eq_true rfl) ?_
  have loop2 : ∀ (n : Nat) (k s w : Int), n = 9 + k → k ≤ 0 → w = s + dwS (lfS (I 8) q d) n k → XE mS_valueBeside (some (.inl w)) (hN I) 50 [(4, .inl k), (3, .inl s), (2, .inl d), (1, .inl q), (0, .inr 7)] [.inl (-9), .inl k] (hN I) := by
    intro n
    induction n with
    | zero =>
      intro k s w hk hk2 hw
      unfold dwS at hw
      refine x_le rfl (by omega) (by omega) (fun hc => ?_) (fun hc => absurd (by omega) hc)
      repeat refine x_step rfl ?_
      exact x_iret rfl rfl (by omega) rfl
    | succ n ih =>
      intro k s w hk hk2 hw
      unfold dwS at hw
      refine x_le rfl (by omega) (by omega) (fun hc => absurd hc (by omega)) (fun hc => ?_)
      repeat refine x_step rfl ?_
      refine x_call rfl (cS_letterFrom I q d k h0 h1 hd (by omega)) ?_
      have := lfS_R hb q d k
      refine x_eq rfl (by omega) (by omega) (fun hz => ?_) (fun hz => ?_)
      · rw [if_pos hz] at hw
        repeat refine x_step rfl ?_
        exact x_iret rfl rfl (by omega) rfl
      · rw [if_neg hz] at hw
        repeat refine x_step rfl ?_
        refine x_call rfl (cS_letterFrom I q d k h0 h1 hd (by omega)) ?_
        refine x_call rfl (cB_valueOf _ _ (by omega)) ?_
        repeat refine x_step rfl ?_
        exact x_loc (by exact ⟨rfl, rfl, rfl, rfl, rfl, trivial⟩) (ih (k - 1) (s + vlS (lfS (I 8) q d k)) w (by omega) (by omega) (by omega))
  have loop1 : ∀ (n : Nat) (k s w : Int), k + n = 9 → 0 ≤ k → w = s + upS (lfS (I 8) q d) n k + dwS (lfS (I 8) q d) 8 (-1) → XE mS_valueBeside (some (.inl w)) (hN I) 9 [(4, .inl k), (3, .inl s), (2, .inl d), (1, .inl q), (0, .inr 7)] [.inl 9, .inl k] (hN I) := by
    intro n
    induction n with
    | zero =>
      intro k s w hk hk2 hw
      unfold upS at hw
      refine x_le rfl (by omega) (by omega) (fun hc => ?_) (fun hc => absurd (by omega) hc)
      repeat refine x_step rfl ?_
      exact x_loc (by exact ⟨rfl, rfl, rfl, rfl, rfl, trivial⟩) (loop2 8 (-1) s w (by omega) (by omega) (by omega))
    | succ n ih =>
      intro k s w hk hk2 hw
      unfold upS at hw
      refine x_le rfl (by omega) (by omega) (fun hc => absurd hc (by omega)) (fun hc => ?_)
      repeat refine x_step rfl ?_
      refine x_call rfl (cS_letterFrom I q d k h0 h1 hd (by omega)) ?_
      have := lfS_R hb q d k
      refine x_eq rfl (by omega) (by omega) (fun hz => ?_) (fun hz => ?_)
      · rw [if_pos hz] at hw
        repeat refine x_step rfl ?_
        exact x_loc (by exact ⟨rfl, rfl, rfl, rfl, rfl, trivial⟩) (loop2 8 (-1) s w (by omega) (by omega) (by omega))
      · rw [if_neg hz] at hw
        repeat refine x_step rfl ?_
        refine x_call rfl (cS_letterFrom I q d k h0 h1 hd (by omega)) ?_
        refine x_call rfl (cB_valueOf _ _ (by omega)) ?_
        repeat refine x_step rfl ?_
        exact x_loc (by exact ⟨rfl, rfl, rfl, rfl, rfl, trivial⟩) (ih (k + 1) (s + vlS (lfS (I 8) q d k)) w (by omega) (by omega) (by omega))
  repeat refine x_step rfl ?_
  exact x_loc (by exact ⟨rfl, rfl, rfl, rfl, rfl, trivial⟩) (loop1 8 1 0 _ (by omega) (by omega) (by omega))
