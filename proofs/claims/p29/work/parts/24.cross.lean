/-! cross-checks as sets -/
noncomputable def csF (a : Int → Prop) : Nat → Int
  | 0 => 0
  | n + 1 => xor2 (csF a n) (sel (a ((n : Int) + 1)) (xpw n) 0)
def csB (f : Nat → Bool) : Nat → Int
  | 0 => 0
  | n + 1 => xor2 (csB f n) (bif f n then xpw n else 0)
theorem csB_bit : ∀ (b0 b1 b2 b3 b4 b5 b6 b7 : Bool), ∀ k : Fin 8, ((csB (fun n => List.getD [b0, b1, b2, b3, b4, b5, b6, b7] n false) 8 / xpw (k.val : Int)) % 2 = 1 ↔ List.getD [b0, b1, b2, b3, b4, b5, b6, b7] k.val false = true) ∧ 0 ≤ csB (fun n => List.getD [b0, b1, b2, b3, b4, b5, b6, b7] n false) 8 ∧ csB (fun n => List.getD [b0, b1, b2, b3, b4, b5, b6, b7] n false) 8 < 256 := by decide +kernel
noncomputable def dB (p : Prop) : Bool := @decide p (Classical.propDecidable p)
theorem dB_iff (p : Prop) : dB p = true ↔ p := by unfold dB; simp
theorem csF_B (a : Int → Prop) : ∀ n, n ≤ 8 → csF a n = csB (fun n => List.getD [dB (a 1), dB (a 2), dB (a 3), dB (a 4), dB (a 5), dB (a 6), dB (a 7), dB (a 8)] n false) n := by
  have key : ∀ n, n < 8 → List.getD [dB (a 1), dB (a 2), dB (a 3), dB (a 4), dB (a 5), dB (a 6), dB (a 7), dB (a 8)] n false = dB (a ((n : Int) + 1)) := by
    intro n hn
    have h : n = 0 ∨ n = 1 ∨ n = 2 ∨ n = 3 ∨ n = 4 ∨ n = 5 ∨ n = 6 ∨ n = 7 := by omega
    rcases h with rfl | rfl | rfl | rfl | rfl | rfl | rfl | rfl <;> rfl
  intro n
  induction n with
  | zero => intro _; rfl
  | succ n ih =>
    intro h
    unfold csF csB
    rw [ih (by omega), key n (by omega)]
    congr 1
    by_cases hp : a ((n : Int) + 1)
    · rw [sel_pos hp, (dB_iff _).mpr hp]
      rfl
    · rw [sel_neg hp]
      cases hd : dB (a ((n : Int) + 1)) with
      | true => exact absurd ((dB_iff _).mp hd) hp
      | false => rfl
theorem csF_bit (a : Int → Prop) (l : Int) (h1 : 1 ≤ l) (h2 : l ≤ 8) : ((csF a 8 / xpw (l - 1)) % 2 = 1 ↔ a l) ∧ 0 ≤ csF a 8 ∧ csF a 8 < 256 := by
  rw [csF_B a 8 (by omega)]
  have h : l = 1 ∨ l = 2 ∨ l = 3 ∨ l = 4 ∨ l = 5 ∨ l = 6 ∨ l = 7 ∨ l = 8 := by omega
  have key := csB_bit (dB (a 1)) (dB (a 2)) (dB (a 3)) (dB (a 4)) (dB (a 5)) (dB (a 6)) (dB (a 7)) (dB (a 8))
  rcases h with rfl | rfl | rfl | rfl | rfl | rfl | rfl | rfl
  · have := key 0; exact ⟨this.1.trans (dB_iff _), this.2⟩
  · have := key 1; exact ⟨this.1.trans (dB_iff _), this.2⟩
  · have := key 2; exact ⟨this.1.trans (dB_iff _), this.2⟩
  · have := key 3; exact ⟨this.1.trans (dB_iff _), this.2⟩
  · have := key 4; exact ⟨this.1.trans (dB_iff _), this.2⟩
  · have := key 5; exact ⟨this.1.trans (dB_iff _), this.2⟩
  · have := key 6; exact ⟨this.1.trans (dB_iff _), this.2⟩
  · have := key 7; exact ⟨this.1.trans (dB_iff _), this.2⟩
theorem xor2_R (a b : Int) : 0 ≤ xor2 a b := by unfold xor2; omega
theorem xor2_0 {a : Int} (h : 0 ≤ a) : xor2 a 0 = a := by
  unfold xor2
  simp
  omega
theorem csF_nn (a : Int → Prop) : ∀ n, 0 ≤ csF a n := by
  intro n
  cases n with
  | zero => exact Int.le_refl 0
  | succ n => exact xor2_R _ _
theorem xpw_nn (k : Int) : 0 ≤ xpw k := by unfold xpw; exact Int.natCast_nonneg _
theorem csF_congr {a a' : Int → Prop} (h : ∀ l, 1 ≤ l → l ≤ 8 → (a l ↔ a' l)) : ∀ n, n ≤ 8 → csF a n = csF a' n := by
  intro n
  induction n with
  | zero => intro _; rfl
  | succ n ih =>
    intro hn
    unfold csF
    rw [ih (by omega), sel_congr (h _ (by omega) (by omega)) (fun _ => rfl)]
theorem cG_crossSet (I : Nat → Int → Int) (hb : bdR (I 8)) (hw : wdR I) (q d : Int) (h0 : 0 ≤ q) (h1 : q ≤ 80) (hd : d = 0 ∨ d = 1) : XR mG_crossSet [.inr 4, .inl q, .inl d] (hN I) (some (.inl (csF (alP (I 8) (inC I) q d) 8))) (hN I) := by
  refine XRa.of (by decide) (Nat.le_of_ble_eq_true rfl) ?_
  have hd1 : 1 - d = 0 ∨ 1 - d = 1 := by omega
  have hw2 := hw.2.1
  have loop : ∀ (n : Nat) (i : Nat), i + n = 8 → XE mG_crossSet (some (.inl (csF (alP (I 8) (inC I) q d) 8))) (hN I) 9 [(4, .inl ((i : Int) + 1)), (3, .inl (csF (alP (I 8) (inC I) q d) i)), (0, .inr 4), (1, .inl q), (2, .inl d)] [.inl 8, .inl ((i : Int) + 1)] (hN I) := by
    intro n
    induction n with
    | zero =>
      intro i hi
      refine x_lt rfl (by omega) (by omega) (fun hc => ?_) (fun hc => absurd (by omega) hc)
      repeat refine x_step rfl ?_
      exact x_iret rfl rfl (by rw [show i = 8 by omega]) rfl
    | succ n ih =>
      intro i hi
      have hcs := csF_nn (alP (I 8) (inC I) q d) i
      have hrn := rnS_R hb h0 h1 hd1 (x := (i : Int) + 1) (by omega)
      have hno := no_in hw.1 (rnS (I 8) q (1 - d) ((i : Int) + 1))
      have hnoR := noS_R I hw.1 hw.2.1 (rnS (I 8) q (1 - d) ((i : Int) + 1))
      have yes : alP (I 8) (inC I) q d ((i : Int) + 1) → ∀ (L : XL), xsub L [(4, .inl ((i : Int) + 1)), (3, .inl (csF (alP (I 8) (inC I) q d) i)), (0, .inr 4), (1, .inl q), (2, .inl d)] → XE mG_crossSet (some (.inl (csF (alP (I 8) (inC I) q d) 8))) (hN I) 50 L [] (hN I) := by
        intro ha L hL
        refine x_loc hL ?_
        repeat refine x_step rfl ?_
        refine x_ishl rfl (by omega) (by omega) ?_
        refine x_ior rfl hcs (xpw_nn _) ?_
        repeat refine x_step rfl ?_
        exact x_loc (by exact ⟨rfl, xsi (by simp only [csF]; rw [sel_pos ha, show (i : Int) + 1 - 1 = i by omega]), rfl, rfl, rfl, trivial⟩) (ih (i + 1) (by omega))
      have J : XE mG_crossSet (some (.inl (csF (alP (I 8) (inC I) q d) 8))) (hN I) 28 [(4, .inl ((i : Int) + 1)), (3, .inl (csF (alP (I 8) (inC I) q d) i)), (0, .inr 4), (1, .inl q), (2, .inl d)] [.inl ((i : Int) + 1), .inl (1 - d), .inl q, .inr 7] (hN I) := by
        refine x_call rfl (cS_runThrough I hb q _ _ h0 h1 hd1 (by omega)) ?_
        repeat refine x_step rfl ?_
        refine x_eq rfl (by omega) (by omega) (fun hz => ?_) (fun hz => ?_)
        · exact yes (Or.inl hz) _ (by exact ⟨rfl, rfl, rfl, rfl, rfl, trivial⟩)
        · repeat refine x_step rfl ?_
          refine x_call rfl (cW_no I hw _ (by omega)) ?_
          refine x_lt rfl (by omega) (by omega) (fun hz2 => ?_) (fun hz2 => ?_)
          · have hna : ¬ alP (I 8) (inC I) q d ((i : Int) + 1) := by
              rintro (w | w)
              · exact hz w
              · have := hno.mpr w; omega
            repeat refine x_step rfl ?_
            exact x_loc (by exact ⟨rfl, xsi (by simp only [csF]; rw [sel_neg hna, xor2_0 hcs]), rfl, rfl, rfl, trivial⟩) (ih (i + 1) (by omega))
          · exact yes (Or.inr (hno.mp (by omega))) _ (by exact ⟨rfl, rfl, rfl, rfl, rfl, trivial⟩)
      refine x_lt rfl (by omega) (by omega) (fun hc => absurd hc (by omega)) (fun hc => ?_)
      repeat refine x_step rfl ?_
      rcases hd with rfl | rfl
      · refine x_eq rfl (by omega) (by omega) (fun hz => ?_) (fun hz => absurd rfl hz)
        repeat refine x_step rfl ?_
        exact x_loc (by exact ⟨rfl, rfl, rfl, rfl, rfl, trivial⟩) J
      · refine x_eq rfl (by omega) (by omega) (fun hz => absurd hz (by omega)) (fun hz => ?_)
        repeat refine x_step rfl ?_
        exact x_loc (by exact ⟨rfl, rfl, rfl, rfl, rfl, trivial⟩) J
  repeat refine x_step rfl ?_
  exact x_loc (by exact ⟨rfl, rfl, rfl, rfl, rfl, trivial⟩) (loop 8 0 (by omega))
/-- the words of the reference, as a set -/
def inM (I : Nat → Int → Int) (c : Int) : Prop := ∃ k, 0 ≤ k ∧ k < I 118 112 ∧ I 118 (113 + k) = c
theorem noM_in {I : Nat → Int → Int} (hm : 0 ≤ I 118 112) (c : Int) : (0 ≤ noM I c ↔ inM I c) := by
  unfold noM inM
  rcases laS_spec (fun j => I 118 (113 + j)) c (I 118 112).toNat with ⟨h1, h2⟩ | ⟨h1, h2, h3⟩
  · rw [h1]
    constructor
    · intro h; omega
    · rintro ⟨k, a1, a2, a3⟩
      exact absurd a3 (h2 k a1 (by omega))
  · constructor
    · intro _
      exact ⟨_, h1, by omega, h3⟩
    · intro _; exact h1