/-! scores -/
theorem x_stk {y : Nat} {v : Option XV} {h' h : XH} {pc : Nat} {L : XL} {S S' : List XV} (e : S' = S) (k : XE y v h' pc L S' h) : XE y v h' pc L S h := e ▸ k
theorem snd_if {p : Prop} [Decidable p] {a b : Int × Int} : (if p then a else b).2 = if p then a.2 else b.2 := by split <;> rfl
theorem vlS_1 {x : Int} (h : 1 ≤ x) (h2 : x ≤ 8) : 1 ≤ vlS x := by
  have hx : x = 1 ∨ x = 2 ∨ x = 3 ∨ x = 4 ∨ x = 5 ∨ x = 6 ∨ x = 7 ∨ x = 8 := by omega
  rcases hx with rfl | rfl | rfl | rfl | rfl | rfl | rfl | rfl <;> decide +kernel
theorem upS_R (f : Int → Int) : ∀ (n : Nat) (k : Int), 0 ≤ upS f n k ∧ upS f n k ≤ 4 * n := by
  intro n
  induction n with
  | zero => intro k; exact ⟨Int.le_refl 0, Int.le_refl 0⟩
  | succ n ih =>
    intro k
    have h := ih (k + 1)
    have h2 := vlS_le (f k)
    unfold upS
    by_cases hz : f k = 0
    · rw [if_pos hz]; omega
    · rw [if_neg hz]; omega
theorem dwS_R (f : Int → Int) : ∀ (n : Nat) (k : Int), 0 ≤ dwS f n k ∧ dwS f n k ≤ 4 * n := by
  intro n
  induction n with
  | zero => intro k; exact ⟨Int.le_refl 0, Int.le_refl 0⟩
  | succ n ih =>
    intro k
    have h := ih (k - 1)
    have h2 := vlS_le (f k)
    unfold dwS
    by_cases hz : f k = 0
    · rw [if_pos hz]; omega
    · rw [if_neg hz]; omega
/-- the other letters of the run through a square -/
def otS (b : Int → Int) (q d : Int) : Int := upS (lfS b q d) 8 1 + dwS (lfS b q d) 8 (-1)
theorem otS_R (b : Int → Int) (q d : Int) : 0 ≤ otS b q d ∧ otS b q d ≤ 64 := by
  have h1 := upS_R (lfS b q d) 8 1
  have h2 := dwS_R (lfS b q d) 8 (-1)
  unfold otS
  omega
theorem otS_0 {b : Int → Int} (hb : bdR b) (q d : Int) : otS b q d = 0 ↔ lfS b q d 1 = 0 ∧ lfS b q d (-1) = 0 := by
  have hf := lfS_R hb q d
  have h1 := upS_R (lfS b q d) 7 (1 + 1)
  have h2 := dwS_R (lfS b q d) 7 (-1 - 1)
  have e1 : upS (lfS b q d) 8 1 = if lfS b q d 1 = 0 then 0 else vlS (lfS b q d 1) + upS (lfS b q d) 7 (1 + 1) := rfl
  have e2 : dwS (lfS b q d) 8 (-1) = if lfS b q d (-1) = 0 then 0 else vlS (lfS b q d (-1)) + dwS (lfS b q d) 7 (-1 - 1) := rfl
  unfold otS
  rw [e1, e2]
  by_cases g1 : lfS b q d 1 = 0
  · by_cases g2 : lfS b q d (-1) = 0
    · rw [if_pos g1, if_pos g2]
      exact ⟨fun _ => ⟨g1, g2⟩, fun _ => rfl⟩
    · have := vlS_1 (x := lfS b q d (-1)) (by have := hf (-1); omega) (by have := hf (-1); omega)
      rw [if_pos g1, if_neg g2]
      omega
  · have := vlS_1 (x := lfS b q d 1) (by have := hf 1; omega) (by have := hf 1; omega)
    have h3 := dwS_R (lfS b q d) 8 (-1)
    rw [e2] at h3
    rw [if_neg g1]
    omega
/-- what a new tile brings for the run that crosses the play -/
def xwS (b : Int → Int) (q d x : Int) : Int := if otS b q d = 0 then 0 else (otS b q d + tvS q x) * tfS q
theorem tvS_R (q x : Int) : 0 ≤ tvS q x ∧ tvS q x ≤ 12 := by
  have := vlS_le x
  unfold tvS
  split <;> omega
theorem tfS_R (q : Int) : tfS q = 1 ∨ tfS q = 2 := by
  unfold tfS
  split <;> simp
theorem xwS_R (b : Int → Int) (q d x : Int) : 0 ≤ xwS b q d x ∧ xwS b q d x ≤ 152 := by
  have h1 := otS_R b q d
  have h2 := tvS_R q x
  unfold xwS
  split
  · omega
  · rcases tfS_R q with e | e <;> rw [e] <;> omega
theorem cG_crossingWorth (I : Nat → Int → Int) (hb : bdR (I 8)) (q d x : Int) (h0 : 0 ≤ q) (h1 : q ≤ 80) (hd : d = 0 ∨ d = 1) (hx : InR x) : XR mG_crossingWorth [.inr 4, .inl q, .inl d, .inl x] (hN I) (some (.inl (xwS (I 8) q d x))) (hN I) := by
  refine XRa.of (by decide) (Nat.le_of_ble_eq_true rfl) ?_
  repeat refine x_step rfl ?_
  refine x_call rfl (cS_valueBeside I hb q d h0 h1 hd) ?_
  show XE mG_crossingWorth _ _ _ _ (.inl (otS (I 8) q d) :: _) _
  have h2 := otS_R (I 8) q d
  repeat refine x_step rfl ?_
  refine x_eq rfl (by omega) (by omega) (fun hc => ?_) (fun hc => ?_)
  · repeat refine x_step rfl ?_
    exact x_iret rfl rfl (by unfold xwS; rw [if_pos hc]) rfl
  · repeat refine x_step rfl ?_
    refine x_call rfl (cB_newTileValue _ q x h0 h1 hx) ?_
    repeat refine x_step rfl ?_
    refine x_call rfl (cB_newTileFactor _ q h0 h1) ?_
    repeat refine x_step rfl ?_
    exact x_iret rfl rfl (by unfold xwS; rw [if_neg hc]) rfl
/-! the same in the reference -/
theorem bkS_tile {f : Int → Int} : ∀ (n : Nat) (k j : Int), bkS f n k ≤ j → j < k → f j ≠ 0 := by
  intro n
  induction n with
  | zero => intro k j h1 h2; unfold bkS at h1; omega
  | succ n ih =>
    intro k j h1 h2
    unfold bkS at h1
    by_cases hz : f (k - 1) = 0
    · rw [if_pos hz] at h1; omega
    · rw [if_neg hz] at h1
      by_cases e : j = k - 1
      · rw [e]; exact hz
      · exact ih (k - 1) j h1 (by omega)
theorem fwS_mono {f : Int → Int} {x : Int} : ∀ (n : Nat) (k c m : Int), m ≤ (fwS f x n k c m).2 := by
  intro n
  induction n with
  | zero => intro k c m; exact Int.le_refl _
  | succ n ih =>
    intro k c m
    have := ih (k + 1) (c * 9 + if k = 0 then x else f k) (m + 1)
    rw [fwS, snd_if]
    by_cases h : (if k = 0 then x else f k) = 0
    · rw [if_pos h]
      exact Int.le_refl _
    · rw [if_neg h]
      generalize (fwS f x n (k + 1) (c * 9 + if k = 0 then x else f k) (m + 1)).2 = t at *
      omega
theorem rnS_0 {b : Int → Int} (hb : bdR b) {q d x : Int} (h0 : 0 ≤ q) (h1 : q ≤ 80) (hd : d = 0 ∨ d = 1) (hx : 1 ≤ x ∧ x ≤ 8) : rnS b q d x = 0 ↔ otS b q d = 0 := by
  have hc := c0_R (d := d) h0 h1
  have hin : ∀ k, lfS b q d k ≠ 0 → -(c0S q d) ≤ k := fun k hk => by
    have := lfC h0 h1 hd hk
    omega
  have hbk := bkS_ge hin 9 0 (by omega)
  have hbt := @bkS_tile (lfS b q d) 9 0
  have hb9 : bkS (lfS b q d) 9 0 = if lfS b q d (0 - 1) = 0 then 0 else bkS (lfS b q d) 8 (0 - 1) := rfl
  have hb8 := bkS_ge hin 8 (0 - 1)
  rw [otS_0 hb q d]
  unfold rnS
  rw [rnF_0 (fun k => (lfS_R hb q d k).1) (by omega)]
  obtain ⟨n, hn⟩ : ∃ n : Nat, (9 - bkS (lfS b q d) 9 0).toNat = n + 1 + 1 := ⟨(9 - bkS (lfS b q d) 9 0).toNat - 2, by omega⟩
  rw [hn]
  generalize hk : bkS (lfS b q d) 9 0 = k0 at *
  have s2 : ∀ (c : Int), (fwS (lfS b q d) x (n + 1) (k0 + 1) c 1).2 = (if (if k0 + 1 = 0 then x else lfS b q d (k0 + 1)) = 0 then 1 else (fwS (lfS b q d) x n (k0 + 1 + 1) (c * 9 + (if k0 + 1 = 0 then x else lfS b q d (k0 + 1))) (1 + 1)).2) := fun c => by
    rw [fwS, snd_if]
  have s1 : (if k0 = 0 then x else lfS b q d k0) ≠ 0 → (fwS (lfS b q d) x (n + 1 + 1) k0 0 0).2 = (fwS (lfS b q d) x (n + 1) (k0 + 1) (0 * 9 + (if k0 = 0 then x else lfS b q d k0)) (0 + 1)).2 := fun h => by
    rw [fwS, if_neg h]
  by_cases hz : k0 = 0
  · have hm : lfS b q d (-1) = 0 := by
      rw [hz] at hb9
      by_cases g : lfS b q d (0 - 1) = 0
      · exact g
      · rw [if_neg g] at hb9
        have := hb8 (hin _ g)
        omega
    rw [s1 (by rw [if_pos hz]; omega), show (0 : Int) + 1 = 1 by rfl, s2, if_neg (show ¬ k0 + 1 = 0 by omega), show lfS b q d (k0 + 1) = lfS b q d 1 by rw [hz]; rfl]
    by_cases g : lfS b q d 1 = 0
    · rw [if_pos g]
      exact ⟨fun _ => ⟨g, hm⟩, fun _ => by omega⟩
    · rw [if_neg g]
      have := @fwS_mono (lfS b q d) x n (k0 + 1 + 1) ((0 * 9 + (if k0 = 0 then x else lfS b q d k0)) * 9 + lfS b q d 1) (1 + 1)
      exact ⟨fun w => absurd (by omega) w, fun w => absurd w.1 g⟩
  · have hm : lfS b q d (-1) ≠ 0 := hbt (-1) (by omega) (by omega)
    have h2 : lfS b q d k0 ≠ 0 := hbt k0 (by omega) (by omega)
    rw [s1 (by rw [if_neg hz]; exact h2), show (0 : Int) + 1 = 1 by rfl, s2]
    have h3 : ¬ (if k0 + 1 = 0 then x else lfS b q d (k0 + 1)) = 0 := by
      by_cases e : k0 + 1 = 0
      · rw [if_pos e]; omega
      · rw [if_neg e]; exact hbt (k0 + 1) (by omega) (by omega)
    rw [if_neg h3]
    have := @fwS_mono (lfS b q d) x n (k0 + 1 + 1) ((0 * 9 + (if k0 = 0 then x else lfS b q d k0)) * 9 + (if k0 + 1 = 0 then x else lfS b q d (k0 + 1))) (1 + 1)
    exact ⟨fun w => absurd (by omega) w, fun w => absurd w.2 hm⟩
/-- the sum of the letters -1, -2 .. -n -/
def tS (f : Int → Int) : Nat → Int
  | 0 => 0
  | n + 1 => tS f n + vlS (f (-(n : Int) - 1))
theorem dwS_t {f : Int → Int} (hf : f (-9) = 0) : ∀ (n : Nat) (k : Int), (n : Int) - k = 9 → k < 0 → dwS f n k = tS f (-(bkS f (n + 1) (k + 1))).toNat - tS f (-(k + 1)).toNat := by
  intro n
  induction n with
  | zero =>
    intro k h1 h2
    have ek : k = -9 := by omega
    subst ek
    have e : bkS f (0 + 1) (-9 + 1) = -9 + 1 := by
      unfold bkS
      rw [show (-9 : Int) + 1 - 1 = -9 by omega, if_pos hf]
    rw [e]
    unfold dwS
    omega
  | succ n ih =>
    intro k h1 h2
    have e : bkS f (n + 1 + 1) (k + 1) = if f k = 0 then k + 1 else bkS f (n + 1) k := by
      show (if f (k + 1 - 1) = 0 then _ else bkS f (n + 1) (k + 1 - 1)) = _
      rw [show k + 1 - 1 = k by omega]
    rw [e]
    unfold dwS
    by_cases hz : f k = 0
    · rw [if_pos hz, if_pos hz]
      omega
    · rw [if_neg hz, if_neg hz]
      have h3 := ih (k - 1) (by omega) (by omega)
      rw [show k - 1 + 1 = k by omega] at h3
      have h4 : tS f (-k).toNat = tS f (-(k + 1)).toNat + vlS (f k) := by
        rw [show (-k).toNat = (-(k + 1)).toNat + 1 by omega]
        unfold tS
        rw [show (-((-(k + 1)).toNat : Int) - 1) = k by omega]
        cases h : (-(k + 1)).toNat <;> rfl
      omega
theorem upS_0 {f : Int → Int} {n : Nat} {k : Int} (h : f k = 0) : upS f n k = 0 := by
  cases n with
  | zero => rfl
  | succ n => unfold upS; rw [if_pos h]