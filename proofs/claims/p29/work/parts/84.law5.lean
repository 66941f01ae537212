/-! words by chance, and plays by chance -/
theorem dn_f : ∀ (n : Nat) (r : Int), r < p9 n → dn (n + 1) r = dn n r := by
  intro n
  induction n with
  | zero =>
    intro r h
    have h : r < 1 := h
    rw [dn_zero 1 (by omega), dn_zero 0 (by omega)]
  | succ n ih =>
    intro r h
    have h : r < 9 * p9 n := h
    have e1 : dn (n + 1 + 1) r = if r ≤ 0 then 0 else dn (n + 1) (r / 9) + 1 := rfl
    have e2 : dn (n + 1) r = if r ≤ 0 then 0 else dn n (r / 9) + 1 := rfl
    rw [e1, e2]
    by_cases hz : r ≤ 0
    · rw [if_pos hz, if_pos hz]
    · rw [if_neg hz, if_neg hz, ih (r / 9) (by omega)]
theorem dz_f : ∀ (n : Nat) (r : Int), r < p9 n → dz (n + 1) r = dz n r := by
  intro n
  induction n with
  | zero =>
    intro r h
    have h : r < 1 := h
    rw [dz_zero 1 (by omega), dz_zero 0 (by omega)]
  | succ n ih =>
    intro r h
    have h : r < 9 * p9 n := h
    have e1 : dz (n + 1 + 1) r = if r ≤ 0 then true else (decide (0 < r % 9) && dz (n + 1) (r / 9)) := rfl
    have e2 : dz (n + 1) r = if r ≤ 0 then true else (decide (0 < r % 9) && dz n (r / 9)) := rfl
    rw [e1, e2]
    by_cases hz : r ≤ 0
    · rw [if_pos hz, if_pos hz]
    · rw [if_neg hz, if_neg hz, ih (r / 9) (by omega)]
/-- a number of so many letters -/
def GC (c : Int) (k : Nat) : Prop := 0 ≤ c ∧ c < p9 k ∧ dz 11 c = true ∧ dn 11 c = k
theorem GC_0 : GC 0 0 := ⟨by omega, by show (0 : Int) < 1; omega, rfl, rfl⟩
theorem GC_s {c x : Int} {k : Nat} (h : GC c k) (hk : k ≤ 7) (h1 : 1 ≤ x) (h8 : x ≤ 8) : GC (9 * c + x) (k + 1) := by
  obtain ⟨g1, g2, g3, g4⟩ := h
  have hm := p9_mono k (10 - k)
  rw [show k + (10 - k) = 10 by omega] at hm
  have e : p9 (k + 1) = 9 * p9 k := rfl
  have e1 : dz 11 (9 * c + x) = if 9 * c + x ≤ 0 then true else (decide (0 < (9 * c + x) % 9) && dz 10 ((9 * c + x) / 9)) := rfl
  have e2 : dn 11 (9 * c + x) = if 9 * c + x ≤ 0 then 0 else dn 10 ((9 * c + x) / 9) + 1 := rfl
  refine ⟨by omega, by rw [e]; omega, ?_, ?_⟩
  · rw [e1, if_neg (by omega), show (9 * c + x) / 9 = c by omega, ← dz_f 10 c (by omega), g3, decide_eq_true (show 0 < (9 * c + x) % 9 by omega)]
    rfl
  · rw [e2, if_neg (by omega), show (9 * c + x) / 9 = c by omega, ← dn_f 10 c (by omega), g4]
    omega
theorem GC.ln {c : Int} {k : Nat} (h : GC c k) (h2 : 2 ≤ k) (h7 : k ≤ 7) : 0 < lnS c ∧ InR c := by
  obtain ⟨g1, g2, g3, g4⟩ := h
  have hm := p9_mono k (7 - k)
  rw [show k + (7 - k) = 7 by omega] at hm
  have e7 : p9 7 = 4782969 := by decide +kernel
  refine ⟨?_, by omega, by omega⟩
  unfold lnS
  rw [if_pos ⟨g1, g3, by omega, by omega⟩]
  omega
section LAW5
variable {I : Nat → Int → Int}
theorem cL_ofRack (h : SIM I) (v : Int) : ∃ w, 1 ≤ w ∧ w ≤ 8 ∧ XR mL_ofRack [.inr 3, .inl v] (hN I) (some (.inl w)) (hN I) := by
  have htu := h.1.2.tu
  have hrz := fun l a b => h.1.2.rz htu l a b
  -- a sum of tiles
  have ht : ∀ l : Int, 1 ≤ l → l ≤ 8 → XR mB_tiles [.inr 3, .inl (I 118 106), .inl l] (hN I) (some (.inl (rkZ (I 118) (I 118 106) l))) (hN I) := fun l a b => B_tiles h (I 118 106) l (by omega) (by omega) a b
  have B : ∀ (idx : Int), 0 ≤ idx → InR idx → ∀ (n : Nat) (k fd : Int), k = n → k ≤ 8 → 1 ≤ fd → fd ≤ 8 → ∃ w, 1 ≤ w ∧ w ≤ 8 ∧ XE mL_ofRack (some (.inl w)) (hN I) 53 [(5, .inl k), (4, .inl fd), (3, .inl idx), (0, .inr 3)] [.inl k] (hN I) := by
    intro idx i0 i1 n
    induction n with
    | zero =>
      intro k fd e1 e2 e3 e4
      refine ⟨fd, e3, e4, ?_⟩
      refine x_le rfl (by omega) (by omega) (fun _ => ?_) (fun g => absurd (by omega) g)
      repeat refine x_step rfl ?_
      exact x_iret rfl rfl rfl rfl
    | succ n ih =>
      intro k fd e1 e2 e3 e4
      have inner : ∀ (m : Nat) (i bf : Int), i + m = k → 1 ≤ i → 0 ≤ bf → bf ≤ 8 * i → ∃ w, 1 ≤ w ∧ w ≤ 8 ∧ XE mL_ofRack (some (.inl w)) (hN I) 66 [(7, .inl i), (6, .inl bf), (5, .inl k), (4, .inl fd), (3, .inl idx), (0, .inr 3)] [.inl k, .inl i] (hN I) := by
        intro m
        induction m with
        | zero =>
          intro i bf g1 g2 g3 g4
          have hk := hrz k (by omega) e2
          by_cases c1 : idx < bf
          · obtain ⟨w, w1, w8, x1⟩ := ih (k - 1) fd (by omega) (by omega) e3 e4
            refine ⟨w, w1, w8, ?_⟩
            refine x_le rfl (by omega) (by omega) (fun _ => ?_) (fun g => absurd (by omega) g)
            repeat refine x_step rfl ?_
            refine x_lt rfl (by omega) (by omega) (fun _ => ?_) (fun g => absurd c1 g)
            repeat refine x_step rfl ?_
            exact x_loc (by exact ⟨rfl, rfl, rfl, rfl, trivial⟩) x1
          · by_cases c2 : bf + rkZ (I 118) (I 118 106) k ≤ idx
            · obtain ⟨w, w1, w8, x1⟩ := ih (k - 1) fd (by omega) (by omega) e3 e4
              refine ⟨w, w1, w8, ?_⟩
              refine x_le rfl (by omega) (by omega) (fun _ => ?_) (fun g => absurd (by omega) g)
              repeat refine x_step rfl ?_
              refine x_lt rfl (by omega) (by omega) (fun g => absurd g c1) (fun _ => ?_)
              repeat refine x_step rfl ?_
              refine x_call rfl (B_count6 h) ?_
              repeat refine x_step rfl ?_
              refine x_call rfl (ht k (by omega) e2) ?_
              repeat refine x_step rfl ?_
              refine x_le rfl (by omega) (by omega) (fun _ => ?_) (fun g => absurd c2 g)
              repeat refine x_step rfl ?_
              exact x_loc (by exact ⟨rfl, rfl, rfl, rfl, trivial⟩) x1
            · obtain ⟨w, w1, w8, x1⟩ := ih (k - 1) k (by omega) (by omega) (by omega) (by omega)
              refine ⟨w, w1, w8, ?_⟩
              refine x_le rfl (by omega) (by omega) (fun _ => ?_) (fun g => absurd (by omega) g)
              repeat refine x_step rfl ?_
              refine x_lt rfl (by omega) (by omega) (fun g => absurd g c1) (fun _ => ?_)
              repeat refine x_step rfl ?_
              refine x_call rfl (B_count6 h) ?_
              repeat refine x_step rfl ?_
              refine x_call rfl (ht k (by omega) e2) ?_
              repeat refine x_step rfl ?_
              refine x_le rfl (by omega) (by omega) (fun g => absurd g c2) (fun _ => ?_)
              repeat refine x_step rfl ?_
              exact x_loc (by exact ⟨rfl, rfl, rfl, rfl, trivial⟩) x1
        | succ m ih2 =>
          intro i bf g1 g2 g3 g4
          have hk := hrz i g2 (by omega)
          obtain ⟨w, w1, w8, x1⟩ := ih2 (i + 1) (bf + rkZ (I 118) (I 118 106) i) (by omega) (by omega) (by omega) (by omega)
          refine ⟨w, w1, w8, ?_⟩
          refine x_le rfl (by omega) (by omega) (fun g => absurd g (by omega)) (fun _ => ?_)
          repeat refine x_step rfl ?_
          refine x_call rfl (B_count6 h) ?_
          repeat refine x_step rfl ?_
          refine x_call rfl (ht i g2 (by omega)) ?_
          repeat refine x_step rfl ?_
          exact x_loc (by exact ⟨rfl, rfl, rfl, rfl, rfl, rfl, trivial⟩) x1
      obtain ⟨w, w1, w8, x1⟩ := inner (k - 1).toNat 1 0 (by omega) (by omega) (by omega) (by omega)
      refine ⟨w, w1, w8, ?_⟩
      refine x_le rfl (by omega) (by omega) (fun g => absurd g (by omega)) (fun _ => ?_)
      repeat refine x_step rfl ?_
      exact x_loc (by exact ⟨rfl, rfl, rfl, rfl, rfl, rfl, trivial⟩) x1
  have A : ∀ (n : Nat) (k many : Int), k + n = 9 → 1 ≤ k → 0 ≤ many → many ≤ 8 * k → ∃ w, 1 ≤ w ∧ w ≤ 8 ∧ XE mL_ofRack (some (.inl w)) (hN I) 7 [(3, .inl k), (2, .inl many), (1, .inl v), (0, .inr 3)] [.inl 9, .inl k] (hN I) := by
    intro n
    induction n with
    | zero =>
      intro k many e1 e2 e3 e4
      by_cases c1 : many = 0
      · obtain ⟨w, w1, w8, x1⟩ := B 0 (by omega) (by omega) 8 8 1 (by omega) (by omega) (by omega) (by omega)
        refine ⟨w, w1, w8, ?_⟩
        refine x_le rfl (by omega) (by omega) (fun _ => ?_) (fun g => absurd (by omega) g)
        repeat refine x_step rfl ?_
        refine x_eq rfl (by omega) (by omega) (fun _ => ?_) (fun g => absurd c1 g)
        repeat refine x_step rfl ?_
        exact x_loc (by exact ⟨rfl, rfl, rfl, rfl, trivial⟩) x1
      · have hq := Int.emod_lt_of_pos (v % 2147483648) (show 0 < many by omega)
        have hq0 := Int.emod_nonneg (v % 2147483648) c1
        obtain ⟨w, w1, w8, x1⟩ := B (v % 2147483648 % many) hq0 (by omega) 8 8 1 (by omega) (by omega) (by omega) (by omega)
        refine ⟨w, w1, w8, ?_⟩
        refine x_le rfl (by omega) (by omega) (fun _ => ?_) (fun g => absurd (by omega) g)
        repeat refine x_step rfl ?_
        refine x_eq rfl (by omega) (by omega) (fun g => absurd g c1) (fun _ => ?_)
        repeat refine x_step rfl ?_
        refine x_call rfl (cL_low _ v many (by omega) (by omega)) ?_
        repeat refine x_step rfl ?_
        exact x_loc (by exact ⟨rfl, rfl, rfl, rfl, trivial⟩) x1
    | succ n ih =>
      intro k many e1 e2 e3 e4
      have hk := hrz k e2 (by omega)
      obtain ⟨w, w1, w8, x1⟩ := ih (k + 1) (many + rkZ (I 118) (I 118 106) k) (by omega) (by omega) (by omega) (by omega)
      refine ⟨w, w1, w8, ?_⟩
      refine x_le rfl (by omega) (by omega) (fun g => absurd g (by omega)) (fun _ => ?_)
      repeat refine x_step rfl ?_
      refine x_call rfl (B_count6 h) ?_
      repeat refine x_step rfl ?_
      refine x_call rfl (ht k e2 (by omega)) ?_
      repeat refine x_step rfl ?_
      exact x_loc (by exact ⟨rfl, rfl, rfl, rfl, trivial⟩) x1
  obtain ⟨w, w1, w8, x1⟩ := A 8 1 0 (by omega) (by omega) (by omega) (by omega)
  refine ⟨w, w1, w8, XRa.of (by decide) (Nat.le_of_ble_eq_true rfl) ?_⟩
  repeat refine x_step rfl ?_
  exact x_loc (by exact ⟨rfl, rfl, rfl, rfl, trivial⟩) x1
theorem cL_random (h : SIM I) (v : Int) : ∃ c, 0 < lnS c ∧ InR c ∧ XR mL_random [.inr 3, .inl v] (hN I) (some (.inl c)) (hN I) := by
  have hb := h.1.2.bd
  have A : ∀ (n : Nat) (jn : Int), 2 ≤ n → n ≤ 5 → 0 ≤ jn → jn ≤ 8 → ∀ (m k : Nat) (c : Int), k + m = n → GC c k → ∃ c', 0 < lnS c' ∧ InR c' ∧ XE mL_random (some (.inl c')) (hN I) 31 [(5, .inl (k : Int)), (4, .inl c), (3, .inl jn), (2, .inl (n : Int)), (1, .inl v), (0, .inr 3)] [.inl (n : Int), .inl (k : Int)] (hN I) := by
    intro n jn n2 n5 j0 j8 m
    induction m with
    | zero =>
      intro k c e1 e2
      have ek : k = n := by omega
      obtain ⟨g1, g2⟩ := e2.ln (by omega) (by omega)
      refine ⟨c, g1, g2, ?_⟩
      refine x_le rfl (by omega) (by omega) (fun _ => ?_) (fun g => absurd (by omega) g)
      repeat refine x_step rfl ?_
      exact x_iret rfl rfl rfl rfl
    | succ m ih =>
      intro k c e1 e2
      have go : ∀ x : Int, 1 ≤ x → x ≤ 8 → ∃ c', 0 < lnS c' ∧ InR c' ∧ XE mL_random (some (.inl c')) (hN I) 31 [(5, .inl ((k : Int) + 1)), (4, .inl (9 * c + x)), (3, .inl jn), (2, .inl (n : Int)), (1, .inl v), (0, .inr 3)] [.inl (n : Int), .inl ((k : Int) + 1)] (hN I) := fun x h1 h8 => ih (k + 1) (9 * c + x) (by omega) (GC_s e2 (by omega) h1 h8)
      by_cases c1 : (k : Int) = nrm v / xpw 5 % 4 ∧ 0 < jn
      · obtain ⟨c', g1, g2, x1⟩ := go jn (by omega) j8
        refine ⟨c', g1, g2, ?_⟩
        refine x_le rfl (by omega) (by omega) (fun g => absurd g (by omega)) (fun _ => ?_)
        repeat refine x_step rfl ?_
        refine x_ishrG rfl (by omega) (by omega) ?_
        repeat refine x_step rfl ?_
        refine x_iand3 rfl ?_
        refine x_eq rfl (by omega) (by omega) (fun _ => ?_) (fun g => absurd c1.1 g)
        repeat refine x_step rfl ?_
        refine x_le rfl (by omega) (by omega) (fun g => absurd g (by omega)) (fun _ => ?_)
        repeat refine x_step rfl ?_
        exact x_loc (by exact ⟨rfl, rfl, rfl, rfl, rfl, rfl, trivial⟩) x1
      · obtain ⟨x, x1, x8, hx⟩ := cL_ofRack h (nrm v / xpw (3 * (k : Int)) + 7 * (k : Int))
        obtain ⟨c', g1, g2, x2⟩ := go x x1 x8
        refine ⟨c', g1, g2, ?_⟩
        have rest : ∀ L : XL, xsub L [(5, .inl (k : Int)), (3, .inl jn), (2, .inl (n : Int)), (1, .inl v), (0, .inr 3)] → XE mL_random (some (.inl c')) (hN I) 57 L [.inl (9 * c)] (hN I) := by
          intro L hL
          refine x_loc hL ?_
          repeat refine x_step rfl ?_
          refine x_ishrG rfl (by omega) (by omega) ?_
          repeat refine x_step rfl ?_
          refine x_call rfl hx ?_
          repeat refine x_step rfl ?_
          exact x_loc (by exact ⟨rfl, rfl, rfl, rfl, rfl, rfl, trivial⟩) x2
        refine x_le rfl (by omega) (by omega) (fun g => absurd g (by omega)) (fun _ => ?_)
        repeat refine x_step rfl ?_
        refine x_ishrG rfl (by omega) (by omega) ?_
        repeat refine x_step rfl ?_
        refine x_iand3 rfl ?_
        refine x_eq rfl (by omega) (by omega) (fun g => ?_) (fun g => rest _ (by exact ⟨rfl, rfl, rfl, rfl, rfl, trivial⟩))
        repeat refine x_step rfl ?_
        refine x_le rfl (by omega) (by omega) (fun g3 => rest _ (by exact ⟨rfl, rfl, rfl, rfl, rfl, trivial⟩)) (fun g3 => absurd ⟨g, by omega⟩ c1)
  have hq : 0 ≤ nrm v / xpw 9 % 2147483648 % 81 ∧ nrm v / xpw 9 % 2147483648 % 81 ≤ 80 := by omega
  have hj := hb _ hq.1 hq.2
  obtain ⟨c', g1, g2, x1⟩ := A (2 + v % 2147483648 % 4).toNat (I 118 (nrm v / xpw 9 % 2147483648 % 81)) (by omega) (by omega) hj.1 hj.2 (2 + v % 2147483648 % 4).toNat 0 0 (by omega) GC_0
  refine ⟨c', g1, g2, XRa.of (by decide) (Nat.le_of_ble_eq_true rfl) ?_⟩
  rw [show ((2 + v % 2147483648 % 4).toNat : Int) = 2 + v % 2147483648 % 4 by omega] at x1
  repeat refine x_step rfl ?_
  refine x_call rfl (cL_low _ v 4 (by omega) (by omega)) ?_
  repeat refine x_step rfl ?_
  refine x_ishrG rfl (by omega) (by omega) ?_
  repeat refine x_step rfl ?_
  refine x_call rfl (cL_low _ _ 81 (by omega) (by omega)) ?_
  refine x_call rfl (B_tile h _ hq.1 hq.2) ?_
  repeat refine x_step rfl ?_
  exact x_loc (by exact ⟨rfl, rfl, rfl, rfl, rfl, rfl, trivial⟩) x1
theorem RF_9 {c q d : Int} (hz : RF I c q d = 0 ∨ RF I c q d = 8) : c0S q d + lnS c ≤ 9 := rf_9 hz
set_option maxRecDepth 20000 in
set_option maxHeartbeats 4000000 in
theorem cL_arePlays (h : SIM I) (x : Int) : ∃ J, XR mL_arePlays [.inr 3, .inl x] (hN I) (some (.inl 1)) (hN J) ∧ FQ I J := by
  have loop : ∀ (n k : Nat) (H : Nat → Int → Int), k + n = 8 → FQ I H → ∃ J, XE mL_arePlays (some (.inl 1)) (hN J) 5 [(2, .inl (k : Int)), (1, .inl x), (0, .inr 3)] [.inl 8, .inl (k : Int)] (hN H) ∧ FQ I J := by
    intro n
    induction n with
    | zero =>
      intro k H e1 hF
      refine ⟨H, ?_, hF⟩
      refine x_le rfl (by omega) (by omega) (fun _ => ?_) (fun g => absurd (by omega) g)
      repeat refine x_step rfl ?_
      exact x_zret rfl rfl rfl (Or.inr rfl) rfl
    | succ n ih =>
      intro k H e1 hF
      have hS := FQ.sim h hF
      have hmn := hS.1.2.mn
      -- from the word on
      have rest : ∀ c : Int, 0 < lnS c → InR c → ∃ J, XE mL_arePlays (some (.inl 1)) (hN J) 45 [(2, .inl (k : Int)), (1, .inl x), (0, .inr 3)] [.inl c] (hN H) ∧ FQ I J := by
        intro c hl hc
        have hq : 0 ≤ nrm (x * ((k : Int) + 3)) / xpw 5 % 2147483648 % 81 ∧ nrm (x * ((k : Int) + 3)) / xpw 5 % 2147483648 % 81 ≤ 80 := by omega
        have fin : ∀ d : Int, d = 0 ∨ d = 1 → ∃ J, XE mL_arePlays (some (.inl 1)) (hN J) 76 [(4, .inl (nrm (x * ((k : Int) + 3)) / xpw 5 % 2147483648 % 81)), (3, .inl c), (2, .inl (k : Int)), (1, .inl x), (0, .inr 3)] [.inl d] (hN H) ∧ FQ I J := by
          intro d hd
          generalize nrm (x * ((k : Int) + 3)) / xpw 5 % 2147483648 % 81 = q at *
          have hr : plR c q d := ⟨hc, hl, hq.1, hq.2, hd⟩
          have f1 := cdH_FQ H c q d
          have f2 := cdH_FQ (cdH H c q d) c q d
          have h1 := FQ.sim hS f1
          obtain ⟨J, x1, x2⟩ := ih (k + 1) (cdH (cdH H c q d) c q d) (by omega) (hF.tr (f1.tr f2))
          refine ⟨J, ?_, x2⟩
          have hR := RF_R H c q d
          have hw := B_worth h1 c q d hc hl hq.1 hq.2 hd
          rw [RF_c f1.e8, f1.e8] at hw
          have hwR := woS_R (H 118) c q d
          have cmp : ∀ (due : Int) (L : XL), due = (if RF H c q d = 0 ∨ RF H c q d = 8 then woS (H 118) c q d else -5) → xsub L [(6, .inl (RF H c q d)), (5, .inl d), (4, .inl q), (3, .inl c), (2, .inl (k : Int)), (1, .inl x), (0, .inr 3)] → XE mL_arePlays (some (.inl 1)) (hN J) 115 L [.inl due] (hN H) := by
            intro due L hdue hL
            have hdR : InR due := by rw [hdue]; split <;> omega
            rw [← hdue] at hw
            refine x_step (L' := (7, .inl due) :: L) rfl ?_
            refine x_loc (L' := [(7, .inl due), (6, .inl (RF H c q d)), (5, .inl d), (4, .inl q), (3, .inl c), (2, .inl (k : Int)), (1, .inl x), (0, .inr 3)]) (by exact ⟨rfl, hL⟩) ?_
            repeat refine x_step rfl ?_
            refine x_call rfl (B_reason hS c q d hc hl hq.1 hq.2 hd) ?_
            repeat refine x_step rfl ?_
            refine x_eq rfl (by omega) (by omega) (fun _ => ?_) (fun g => absurd rfl g)
            repeat refine x_step rfl ?_
            refine x_call rfl hw ?_
            repeat refine x_step rfl ?_
            refine x_eq rfl hdR hdR (fun _ => ?_) (fun g => absurd rfl g)
            repeat refine x_step rfl ?_
            exact x_loc (by exact ⟨rfl, rfl, rfl, trivial⟩) x1
          have sc : ∀ L : XL, RF H c q d = 0 ∨ RF H c q d = 8 → xsub L [(6, .inl (RF H c q d)), (5, .inl d), (4, .inl q), (3, .inl c), (2, .inl (k : Int)), (1, .inl x), (0, .inr 3)] → XE mL_arePlays (some (.inl 1)) (hN J) 106 L [] (hN H) := by
            intro L g hL
            refine x_loc hL ?_
            repeat refine x_step rfl ?_
            refine x_call rfl (cL_score hS c q d hr (RF_9 g)) ?_
            exact cmp _ _ (by rw [if_pos g]) (by exact ⟨rfl, rfl, rfl, rfl, rfl, rfl, rfl, trivial⟩)
          repeat refine x_step rfl ?_
          refine x_call rfl (cL_reason hS c q d hr) ?_
          repeat refine x_step rfl ?_
          refine x_le rfl (by omega) (by omega) (fun g => sc _ (Or.inl (by omega)) (by exact ⟨rfl, rfl, rfl, rfl, rfl, rfl, rfl, trivial⟩)) (fun g => ?_)
          repeat refine x_step rfl ?_
          refine x_le rfl (by omega) (by omega) (fun g2 => sc _ (Or.inr (by omega)) (by exact ⟨rfl, rfl, rfl, rfl, rfl, rfl, rfl, trivial⟩)) (fun g2 => ?_)
          refine x_step rfl ?_
          refine x_step rfl ?_
          exact cmp _ _ (by rw [if_neg (by omega)]) (by exact ⟨rfl, rfl, rfl, rfl, rfl, rfl, rfl, trivial⟩)
        by_cases hd : nrm x / xpw ((k : Int) + 3) % 2 = 1
        · obtain ⟨J, x1, x2⟩ := fin 1 (Or.inr rfl)
          refine ⟨J, ?_, x2⟩
          repeat refine x_step rfl ?_
          refine x_ishrG rfl (by omega) (by omega) ?_
          repeat refine x_step rfl ?_
          refine x_call rfl (cL_low _ _ 81 (by omega) (by omega)) ?_
          repeat refine x_step rfl ?_
          refine x_ishrG rfl (by omega) (by omega) ?_
          repeat refine x_step rfl ?_
          refine x_iand1 rfl ?_
          repeat refine x_step rfl ?_
          refine x_eq rfl (by omega) (by omega) (fun _ => ?_) (fun g => absurd hd g)
          refine x_step rfl ?_
          refine x_step rfl ?_
          exact x_loc (by exact ⟨rfl, rfl, rfl, rfl, rfl, trivial⟩) x1
        · obtain ⟨J, x1, x2⟩ := fin 0 (Or.inl rfl)
          refine ⟨J, ?_, x2⟩
          repeat refine x_step rfl ?_
          refine x_ishrG rfl (by omega) (by omega) ?_
          repeat refine x_step rfl ?_
          refine x_call rfl (cL_low _ _ 81 (by omega) (by omega)) ?_
          repeat refine x_step rfl ?_
          refine x_ishrG rfl (by omega) (by omega) ?_
          repeat refine x_step rfl ?_
          refine x_iand1 rfl ?_
          repeat refine x_step rfl ?_
          refine x_eq rfl (by omega) (by omega) (fun g => absurd g hd) (fun _ => ?_)
          refine x_step rfl ?_
          exact x_loc (by exact ⟨rfl, rfl, rfl, rfl, rfl, trivial⟩) x1
      by_cases hk : H 118 112 = 0 ∨ (k : Int) = 7
      · obtain ⟨c, hl, hc, hx⟩ := cL_random hS x
        obtain ⟨J, x1, x2⟩ := rest c hl hc
        refine ⟨J, ?_, x2⟩
        have ran : ∀ L : XL, xsub L [(2, .inl (k : Int)), (1, .inl x), (0, .inr 3)] → XE mL_arePlays (some (.inl 1)) (hN J) 22 L [] (hN H) := by
          intro L hL
          refine x_loc hL ?_
          repeat refine x_step rfl ?_
          refine x_call rfl hx ?_
          refine x_step rfl ?_
          exact x_loc (by exact ⟨rfl, rfl, rfl, trivial⟩) x1
        refine x_le rfl (by omega) (by omega) (fun g => absurd g (by omega)) (fun _ => ?_)
        repeat refine x_step rfl ?_
        refine x_call rfl (B_count0 hS) ?_
        refine x_eq rfl (by omega) (by omega) (fun _ => ran _ (by exact ⟨rfl, rfl, rfl, trivial⟩)) (fun g => ?_)
        repeat refine x_step rfl ?_
        refine x_eq rfl (by omega) (by omega) (fun _ => ran _ (by exact ⟨rfl, rfl, rfl, trivial⟩)) (fun g2 => absurd hk (by omega))
      · have hi0 := Int.emod_nonneg (nrm x / xpw (k : Int) % 2147483648) (show H 118 112 ≠ 0 by omega)
        have hi1 := Int.emod_lt_of_pos (nrm x / xpw (k : Int) % 2147483648) (show 0 < H 118 112 by omega)
        obtain ⟨hl, hc⟩ := hS.1.2.wd _ hi0 hi1
        obtain ⟨J, x1, x2⟩ := rest _ hl hc
        refine ⟨J, ?_, x2⟩
        refine x_le rfl (by omega) (by omega) (fun g => absurd g (by omega)) (fun _ => ?_)
        repeat refine x_step rfl ?_
        refine x_call rfl (B_count0 hS) ?_
        refine x_eq rfl (by omega) (by omega) (fun g => absurd (Or.inl g) hk) (fun g => ?_)
        repeat refine x_step rfl ?_
        refine x_eq rfl (by omega) (by omega) (fun g2 => absurd (Or.inr g2) hk) (fun g2 => ?_)
        repeat refine x_step rfl ?_
        refine x_ishrG rfl (by omega) (by omega) ?_
        repeat refine x_step rfl ?_
        refine x_call rfl (B_count0 hS) ?_
        refine x_call rfl (cL_low _ _ _ (by omega) (by omega)) ?_
        refine x_call rfl (B_word hS _ hi0 hi1) ?_
        exact x_loc (by exact ⟨rfl, rfl, rfl, trivial⟩) x1
  obtain ⟨J, x1, x2⟩ := loop 8 0 I (by omega) (FQ.rf I)
  refine ⟨J, XRa.of (by decide) (Nat.le_of_ble_eq_true rfl) ?_, x2⟩
  repeat refine x_step rfl ?_
  exact x_loc (by exact ⟨rfl, rfl, rfl, trivial⟩) x1
end LAW5
