/-! the law looks at the board -/
theorem SIM.fre {I J : Nat → Int → Int} (h : SIM I) (hs : ∀ a : Nat, 1 ≤ a ∧ a ≤ 31 ∨ a = 118 → J a = I a) : SIM J := by
  obtain ⟨hG, hA, hH, hK⟩ := h
  refine ⟨⟨hG.1.congr (fun a a0 a1 => hs a (by omega)) (fun j _ _ => by rw [hs 118 (by omega)]), by rw [hs 118 (by omega)]; exact hG.2⟩, fun k a b => by rw [hs 16 (by omega)]; exact hA k a b, ?_, by rw [hs 118 (by omega)]; exact hK⟩
  unfold HS at hH ⊢
  rw [hs 30 (by omega)]
  exact hH
/-- with a row of the law's behind the others -/
def Hg (I : Nat → Int → Int) (g : Int → Int) : Nat → Int → Int := xset (xup I 0 0 (I 0 0 + 1)) (200 + (I 0 0).toNat) g
theorem Hg_ne {I : Nat → Int → Int} {g : Int → Int} {a : Nat} (h : a ≠ 0) (h2 : a ≠ 200 + (I 0 0).toNat) : Hg I g a = I a := by unfold Hg; rw [xset_ne h2, xup_ne h]
theorem Hg_0 {I : Nat → Int → Int} {g : Int → Int} : Hg I g 0 0 = I 0 0 + 1 := by unfold Hg; rw [xset_ne (by omega), xup_at, if_pos rfl]
theorem Hg_at {I : Nat → Int → Int} {g : Int → Int} : Hg I g (200 + (I 0 0).toNat) = g := xset_at
theorem Hg_up {I : Nat → Int → Int} {g : Int → Int} {j v : Int} : xup (Hg I g) (200 + (I 0 0).toNat) j v = Hg I (fun i => if i = j then v else g i) := xup_xset
theorem Hg_e8 {I : Nat → Int → Int} (g : Int → Int) : Hg I g 118 = I 118 := Hg_ne (by omega) (by omega)
theorem Hg_sim {I : Nat → Int → Int} (h : SIM I) (g : Int → Int) : SIM (Hg I g) := h.fre (fun a w => Hg_ne (by omega) (by omega))
/-- the tiles of each letter on the first squares -/
def gmF (z : Int → Int) (s : Nat) : Int → Int := fun j => if j = -1 then 9 else if 0 ≤ j ∧ j ≤ 8 then cntZ z j s else 0
theorem gmF_0 (z : Int → Int) : (fun j : Int => if j = -1 then ((9 : Nat) : Int) else 0) = gmF z 0 := by
  funext j
  unfold gmF
  by_cases w : j = -1
  · rw [if_pos w, if_pos w]; rfl
  · rw [if_neg w, if_neg w]
    split <;> rfl
theorem gmF_s (z : Int → Int) (s : Nat) (h : 0 ≤ z s ∧ z s ≤ 8) : (fun i => if i = z s then gmF z s (z s) + 1 else gmF z s i) = gmF z (s + 1) := by
  funext j
  have e : cntZ z j (s + 1) = cntZ z j s + (if z s = j then 1 else 0) := rfl
  unfold gmF
  by_cases w : j = z s
  · rw [if_pos w, if_neg (by omega), if_pos (by omega), if_neg (by omega), if_pos (by omega), e, if_pos w.symm, w]
  · rw [if_neg w]
    by_cases w2 : j = -1
    · rw [if_pos w2, if_pos w2]
    · rw [if_neg w2, if_neg w2, e, if_neg (show ¬ z s = j from fun g => w g.symm), Int.add_zero]
theorem gmF_n (z : Int → Int) (s : Nat) : gmF z s (-1) = 9 := if_pos rfl
theorem gmF_k (z : Int → Int) (s : Nat) {k : Int} (h0 : 0 ≤ k) (h8 : k ≤ 8) : gmF z s k = cntZ z k s := by
  unfold gmF
  rw [if_neg (by omega), if_pos ⟨h0, h8⟩]
theorem cnt_01 (z : Int → Int) (l : Int) (n : Nat) : 0 ≤ cntZ z l n ∧ cntZ z l n ≤ n := xsm_01 _ (fun j => by show (if z j = l then (1 : Int) else 0) = 0 ∨ (if z j = l then (1 : Int) else 0) = 1; exact if01) n
theorem toS_cnt (z : Int → Int) : ∀ n : Nat, xsm (fun j => if z j = 0 then 0 else 1) n = n - cntZ z 0 n := by
  intro n
  induction n with
  | zero => rfl
  | succ n ih =>
    have e1 : xsm (fun j => if z j = 0 then (0 : Int) else 1) (n + 1) = xsm (fun j => if z j = 0 then (0 : Int) else 1) n + (if z n = 0 then 0 else 1) := rfl
    have e2 : cntZ z 0 (n + 1) = cntZ z 0 n + (if z n = 0 then 1 else 0) := rfl
    rw [e1, e2, ih]
    by_cases w : z n = 0
    · rw [if_pos w, if_pos w]; omega
    · rw [if_neg w, if_neg w]; omega
/-- where a run begins -/
theorem first_sr {b : Int → Int} (hb : bdR b) {q d : Int} (h0 : 0 ≤ q) (h1 : q ≤ 80) (hd : d = 0 ∨ d = 1) : (b q ≠ 0 ∧ rnS b q d (b q) ≠ 0 ∧ lfS b q d (-1) = 0) ↔ srS b q d = 1 := by
  have hbq := hb q h0 h1
  have h3 := otS_0 hb q d
  unfold srS
  by_cases w : b q = 0
  · rw [if_neg (fun g => g.1 w)]
    constructor
    · intro g; exact absurd w g.1
    · intro g; omega
  · have h2 := rnS_0 hb h0 h1 hd (x := b q) (by omega)
    by_cases w2 : lfS b q d (-1) = 0
    · by_cases w3 : lfS b q d 1 = 0
      · rw [if_neg (fun g => g.2.2 w3)]
        constructor
        · intro g; exact absurd (h2.mpr (h3.mpr ⟨w3, w2⟩)) g.2.1
        · intro g; omega
      · rw [if_pos ⟨w, w2, w3⟩]
        exact ⟨fun _ => rfl, fun _ => ⟨w, fun g => w3 (h3.mp (h2.mp g)).1, w2⟩⟩
    · rw [if_neg (fun g => w2 g.2.1)]
      constructor
      · intro g; exact absurd g.2.2 w2
      · intro g; omega
section BOARD
variable {I : Nat → Int → Int}
set_option maxRecDepth 20000 in
set_option maxHeartbeats 4000000 in
theorem cL_isBoard (h : SIM I) (hi : 0 ≤ I 0 0) (x : Int) : XRa mL_isBoard 1 9 [.inr 3, .inl x] (hN I) (some (.inl 1)) (hN (Hg I (gmF (I 118) 81))) := by
  have hb := h.1.2.bd
  have hm : (I 0 0).toNat < (I 0 0 + 1).toNat := by omega
  -- what is asked, whatever the row holds
  have cT : ∀ (g : Int → Int) (q : Int), 0 ≤ q → q ≤ 80 → XR mB_tile [.inr 3, .inl q] (hN (Hg I g)) (some (.inl (I 118 q))) (hN (Hg I g)) := fun g q a b => by
    have := B_tile (Hg_sim h g) q a b
    rw [Hg_e8] at this
    exact this
  have cA : ∀ (g : Int → Int) (q : Int), 0 ≤ q → q ≤ 80 → XR mL_isAnchor [.inr 3, .inl q] (hN (Hg I g)) (some (.inl (anS (I 118) q))) (hN (Hg I g)) := fun g q a b => by
    have := cL_isAnchor (Hg_sim h g) q a b
    rw [Hg_e8] at this
    exact this
  have cB : ∀ (g : Int → Int) (q : Int), 0 ≤ q → q ≤ 80 → XR mB_anchor [.inr 3, .inl q] (hN (Hg I g)) (some (.inl (anS (I 118) q))) (hN (Hg I g)) := fun g q a b => by
    have := B_anchor (Hg_sim h g) q a b
    rw [Hg_e8] at this
    exact this
  have cR : ∀ (g : Int → Int) (q d x : Int), 0 ≤ q → q ≤ 80 → (d = 0 ∨ d = 1) → (1 ≤ x ∧ x ≤ 8) → XR mL_run [.inr 3, .inl q, .inl d, .inl x] (hN (Hg I g)) (some (.inl (if rnS (I 118) q d x = 0 then -5 else rnS (I 118) q d x))) (hN (Hg I g)) := fun g q d x a b c e => by
    have := cL_run (Hg_sim h g) q d x a b c e
    rw [Hg_e8] at this
    exact this
  have cS : ∀ (g : Int → Int) (q d : Int), 0 ≤ q → q ≤ 80 → (d = 0 ∨ d = 1) → XR mB_run [.inr 3, .inl q, .inl d] (hN (Hg I g)) (some (.inl (if I 118 q = 0 ∨ rnS (I 118) q d (I 118 q) = 0 then -5 else rnS (I 118) q d (I 118 q)))) (hN (Hg I g)) := fun g q d a b c => by
    have := B_run (Hg_sim h g) q d a b c
    rw [Hg_e8] at this
    exact this
  have cF : ∀ (g : Int → Int) (q d k : Int), 0 ≤ q → q ≤ 80 → (d = 0 ∨ d = 1) → XR mL_tile [.inr 3, .inl (aoS q d k)] (hN (Hg I g)) (some (.inl (lfS (I 118) q d k))) (hN (Hg I g)) := fun g q d k a b c => by
    have := cL_far (Hg_sim h g) q d k a b c
    rw [Hg_e8] at this
    exact this
  have cI : ∀ (g : Int → Int) (c : Int), InR c → XR mL_isInList [.inr 3, .inl c] (hN (Hg I g)) (some (.inl (sel (inM I c) 1 0))) (hN (Hg I g)) := fun g c a => by
    have := cL_isInList (Hg_sim h g) c a
    rw [inM_c (Hg_e8 g)] at this
    exact this
  -- the end
  have fin : ∀ L : XL, xsub L [(8, .inl (ttS (rkZ (I 118) 1))), (7, .inl (ttS (rkZ (I 118) 0))), (6, .inl (ttS (bgZ (I 118)))), (5, .inl (xsm (anS (I 118)) 81)), (4, .inl (xsm (ruF (I 118) (inM I) 1) 162)), (3, .inl (xsm (ruF (I 118) (inM I) 0) 162)), (2, .inr (117 + (I 0 0).toNat)), (0, .inr 3)] → XEa mL_isBoard 1 9 1 9 (some (.inl 1)) (hN (Hg I (gmF (I 118) 81))) 439 L [] (hN (Hg I (gmF (I 118) 81))) := by
    intro L hL
    refine x_loc hL ?_
    have hS := Hg_sim h (gmF (I 118) 81)
    have e8 := Hg_e8 (I := I) (gmF (I 118) 81)
    have c1 := B_count1 hS
    have c2 := B_count2 hS
    have c3 := B_count3 hS
    have c4 := B_count4 hS
    have c5 := B_count5 hS
    rw [e8] at c1 c2 c3
    rw [e8, inM_c e8] at c4 c5
    have ht := toS_R (I 118)
    have hc := cnt_01 (I 118) 0 81
    have et : toS (I 118) = 81 - cntZ (I 118) 0 81 := toS_cnt (I 118) 81
    have hbg := bg_nn h.1.2
    have hbz := amR_sum h.1.2.bz
    have hr0 := h.1.2.rn (p := 0) (Or.inl rfl)
    have hr1 := h.1.2.rn (p := 1) (Or.inr rfl)
    have ha := xsm_01 (anS (I 118)) (anS01 (I 118)) 81
    have hu0 := ruF_R (I 118) (inM I) 0 162
    have hu1 := ruF_R (I 118) (inM I) 1 162
    have hk := h.2.2.2.2
    clear cT cA cB cR cS cF cI
    repeat refine x_step rfl ?_
    refine x_calla (mc' := 0) (ms' := 0) rfl c1 ⟨by omega, by omega⟩ ?_
    repeat refine x_step rfl ?_
    refine x_aldE (t := (I 0 0).toNat) rfl (by rw [Hg_0]; exact hm) (by omega) (by rw [Hg_at, gmF_n]; omega) (by rw [Hg_at, gmF_n]; omega) ?_
    rw [Hg_at, gmF_k _ _ (by omega) (by omega)]
    repeat refine x_step rfl ?_
    refine x_eq rfl (by omega) (by omega) (fun _ => ?_) (fun g => absurd et g)
    repeat refine x_step rfl ?_
    refine x_calla (mc' := 0) (ms' := 0) rfl c2 ⟨by omega, by omega⟩ ?_
    repeat refine x_step rfl ?_
    refine x_eq rfl (by omega) (by omega) (fun _ => ?_) (fun g => absurd rfl g)
    repeat refine x_step rfl ?_
    refine x_calla (mc' := 0) (ms' := 0) rfl c3 ⟨by omega, by omega⟩ ?_
    repeat refine x_step rfl ?_
    refine x_eq rfl (by omega) (by omega) (fun _ => ?_) (fun g => absurd rfl g)
    repeat refine x_step rfl ?_
    refine x_calla (mc' := 0) (ms' := 0) rfl c4 ⟨by omega, by omega⟩ ?_
    repeat refine x_step rfl ?_
    refine x_eq rfl (by omega) (by omega) (fun _ => ?_) (fun g => absurd rfl g)
    repeat refine x_step rfl ?_
    refine x_calla (mc' := 0) (ms' := 0) rfl c5 ⟨by omega, by omega⟩ ?_
    repeat refine x_step rfl ?_
    refine x_eq rfl (by omega) (by omega) (fun _ => ?_) (fun g => absurd rfl g)
    repeat refine x_step rfl ?_
    refine x_lt rfl (by omega) (by omega) (fun g => absurd g (by omega)) (fun _ => ?_)
    repeat refine x_step rfl ?_
    refine x_lt rfl (by omega) (by omega) (fun g => absurd g (by omega)) (fun _ => ?_)
    repeat refine x_step rfl ?_
    refine x_eq rfl (by omega) (by omega) (fun _ => ?_) (fun g => ?_)
    · repeat refine x_step rfl ?_
      exact x_zret rfl rfl rfl (Or.inr rfl) rfl
    · have hk := hk.resolve_left g
      repeat refine x_step rfl ?_
      refine x_eq rfl (by omega) (by omega) (fun _ => ?_) (fun g => absurd hk.1 g)
      repeat refine x_step rfl ?_
      refine x_eq rfl (by omega) (by omega) (fun _ => ?_) (fun g => absurd hk.2 g)
      repeat refine x_step rfl ?_
      exact x_zret rfl rfl rfl (Or.inr rfl) rfl
  -- letter by letter
  have letters : ∀ (n i : Nat), i + n = 8 → XEa mL_isBoard 1 9 1 9 (some (.inl 1)) (hN (Hg I (gmF (I 118) 81))) 321 [(9, .inl ((i : Int) + 1)), (8, .inl (xsm (fun j => rkZ (I 118) 1 (j + 1)) i)), (7, .inl (xsm (fun j => rkZ (I 118) 0 (j + 1)) i)), (6, .inl (xsm (fun j => bgZ (I 118) (j + 1)) i)), (5, .inl (xsm (anS (I 118)) 81)), (4, .inl (xsm (ruF (I 118) (inM I) 1) 162)), (3, .inl (xsm (ruF (I 118) (inM I) 0) 162)), (2, .inr (117 + (I 0 0).toNat)), (0, .inr 3)] [.inl 9, .inl ((i : Int) + 1)] (hN (Hg I (gmF (I 118) 81))) := by
    intro n
    induction n with
    | zero =>
      intro i e1
      have e : i = 8 := by omega
      subst e
      rw [ttS_xsm, ttS_xsm, ttS_xsm]
      refine x_le rfl (by omega) (by omega) (fun _ => ?_) (fun g => absurd (by omega) g)
      exact fin _ (by exact ⟨rfl, rfl, rfl, rfl, rfl, rfl, rfl, rfl, trivial⟩)
    | succ n ih =>
      intro i e1
      have hS := Hg_sim h (gmF (I 118) 81)
      have e8 := Hg_e8 (I := I) (gmF (I 118) 81)
      have k1 : (1 : Int) ≤ (i : Int) + 1 := by omega
      have k8 : (i : Int) + 1 ≤ 8 := by omega
      have next := ih (i + 1) (by omega)
      have ei : ((i + 1 : Nat) : Int) + 1 = (i : Int) + 1 + 1 := by omega
      have s0 : xsm (fun j => rkZ (I 118) 0 (j + 1)) (i + 1) = xsm (fun j => rkZ (I 118) 0 (j + 1)) i + I 118 (80 + 8 * 0 + ((i : Int) + 1)) := rfl
      have s1 : xsm (fun j => rkZ (I 118) 1 (j + 1)) (i + 1) = xsm (fun j => rkZ (I 118) 1 (j + 1)) i + I 118 (80 + 8 * 1 + ((i : Int) + 1)) := rfl
      have s2 : xsm (fun j => bgZ (I 118) (j + 1)) (i + 1) = xsm (fun j => bgZ (I 118) (j + 1)) i + I 118 (80 + 8 * 2 + ((i : Int) + 1)) := rfl
      rw [s0, s1, s2, ei] at next
      have hk := h.2.2.2.1 ((i : Int) + 1) k1 k8
      have ham := h.1.2.am ((i : Int) + 1) k1 k8
      have hcn := cnt_01 (I 118) ((i : Int) + 1) 81
      have t0 := B_tiles hS 0 ((i : Int) + 1) (by omega) (by omega) k1 k8
      have t1 := B_tiles hS 1 ((i : Int) + 1) (by omega) (by omega) k1 k8
      have t2 := B_tiles hS 2 ((i : Int) + 1) (by omega) (by omega) k1 k8
      rw [e8] at t0 t1 t2
      have hsu : xSUPP ((i : Int) + 1).toNat = (if (i : Int) + 1 = 1 ∨ (i : Int) + 1 = 5 then 8 else if (i : Int) + 1 = 6 ∨ (i : Int) + 1 = 7 then 3 else 4) := by
        have hx : i = 0 ∨ i = 1 ∨ i = 2 ∨ i = 3 ∨ i = 4 ∨ i = 5 ∨ i = 6 ∨ i = 7 := by omega
        rcases hx with rfl | rfl | rfl | rfl | rfl | rfl | rfl | rfl <;> decide +kernel
      clear ih fin cT cA cB cR cS cF cI s0 s1 s2
      have sm : cntZ (I 118) ((i : Int) + 1) 81 + I 118 (80 + 8 * 0 + ((i : Int) + 1)) + I 118 (80 + 8 * 1 + ((i : Int) + 1)) + I 118 (80 + 8 * 2 + ((i : Int) + 1)) = xSUPP ((i : Int) + 1).toNat := by
        rw [show (80 : Int) + 8 * 0 + ((i : Int) + 1) = 80 + ((i : Int) + 1) by omega, show (80 : Int) + 8 * 1 + ((i : Int) + 1) = 88 + ((i : Int) + 1) by omega, show (80 : Int) + 8 * 2 + ((i : Int) + 1) = 96 + ((i : Int) + 1) by omega]
        exact hk
      have r0 : xSUPP ((i : Int) + 1).toNat ≤ 8 ∧ 0 ≤ xSUPP ((i : Int) + 1).toNat := by rw [hsu]; split <;> (try split) <;> omega
      have rest : ∀ (al : Int) (L : XL), al = xSUPP ((i : Int) + 1).toNat → xsub L [(9, .inl ((i : Int) + 1)), (8, .inl (xsm (fun j => rkZ (I 118) 1 (j + 1)) i)), (7, .inl (xsm (fun j => rkZ (I 118) 0 (j + 1)) i)), (6, .inl (xsm (fun j => bgZ (I 118) (j + 1)) i)), (5, .inl (xsm (anS (I 118)) 81)), (4, .inl (xsm (ruF (I 118) (inM I) 1) 162)), (3, .inl (xsm (ruF (I 118) (inM I) 0) 162)), (2, .inr (117 + (I 0 0).toNat)), (0, .inr 3)] → XEa mL_isBoard 1 9 1 9 (some (.inl 1)) (hN (Hg I (gmF (I 118) 81))) 360 L [.inl al] (hN (Hg I (gmF (I 118) 81))) := by
        intro al L hal hL
        refine x_step (L' := (10, .inl al) :: L) rfl ?_
        refine x_loc (L' := [(10, .inl al), (9, .inl ((i : Int) + 1)), (8, .inl (xsm (fun j => rkZ (I 118) 1 (j + 1)) i)), (7, .inl (xsm (fun j => rkZ (I 118) 0 (j + 1)) i)), (6, .inl (xsm (fun j => bgZ (I 118) (j + 1)) i)), (5, .inl (xsm (anS (I 118)) 81)), (4, .inl (xsm (ruF (I 118) (inM I) 1) 162)), (3, .inl (xsm (ruF (I 118) (inM I) 0) 162)), (2, .inr (117 + (I 0 0).toNat)), (0, .inr 3)]) (by exact ⟨rfl, hL⟩) ?_
        repeat refine x_step rfl ?_
        refine x_aldE (t := (I 0 0).toNat) rfl (by rw [Hg_0]; exact hm) (by omega) (by rw [Hg_at, gmF_n]; omega) (by rw [Hg_at, gmF_n]; omega) ?_
        rw [Hg_at, gmF_k _ _ (by omega) (by omega)]
        repeat refine x_step rfl ?_
        refine x_calla (mc' := 0) (ms' := 0) rfl t0 ⟨by omega, by omega⟩ ?_
        repeat refine x_step rfl ?_
        refine x_calla (mc' := 0) (ms' := 0) rfl t1 ⟨by omega, by omega⟩ ?_
        repeat refine x_step rfl ?_
        refine x_calla (mc' := 0) (ms' := 0) rfl t2 ⟨by omega, by omega⟩ ?_
        repeat refine x_step rfl ?_
        refine x_eq rfl (by rw [sm]; omega) (by omega) (fun _ => ?_) (fun g => absurd (by rw [sm, hal]) g)
        repeat refine x_step rfl ?_
        refine x_calla (mc' := 0) (ms' := 0) rfl t0 ⟨by omega, by omega⟩ ?_
        repeat refine x_step rfl ?_
        refine x_calla (mc' := 0) (ms' := 0) rfl t1 ⟨by omega, by omega⟩ ?_
        repeat refine x_step rfl ?_
        refine x_calla (mc' := 0) (ms' := 0) rfl t2 ⟨by omega, by omega⟩ ?_
        repeat refine x_step rfl ?_
        exact x_loc (by exact ⟨rfl, rfl, rfl, rfl, rfl, rfl, rfl, rfl, rfl, trivial⟩) next
      refine x_le rfl (by omega) (by omega) (fun g => absurd g (by omega)) (fun _ => ?_)
      repeat refine x_step rfl ?_
      refine x_eq rfl (by omega) (by omega) (fun g => ?_) (fun g1 => ?_)
      · refine x_step rfl ?_
        refine x_step rfl ?_
        exact rest 8 _ (by rw [hsu, if_pos (Or.inl g)]) (by exact ⟨rfl, rfl, rfl, rfl, rfl, rfl, rfl, rfl, rfl, trivial⟩)
      · repeat refine x_step rfl ?_
        refine x_eq rfl (by omega) (by omega) (fun g => ?_) (fun g5 => ?_)
        · refine x_step rfl ?_
          refine x_step rfl ?_
          exact rest 8 _ (by rw [hsu, if_pos (Or.inr g)]) (by exact ⟨rfl, rfl, rfl, rfl, rfl, rfl, rfl, rfl, rfl, trivial⟩)
        · rw [if_neg (by omega)] at hsu
          repeat refine x_step rfl ?_
          refine x_eq rfl (by omega) (by omega) (fun g => ?_) (fun g6 => ?_)
          · refine x_step rfl ?_
            refine x_step rfl ?_
            exact rest 3 _ (by rw [hsu, if_pos (Or.inl g)]) (by exact ⟨rfl, rfl, rfl, rfl, rfl, rfl, rfl, rfl, rfl, trivial⟩)
          · repeat refine x_step rfl ?_
            refine x_eq rfl (by omega) (by omega) (fun g => ?_) (fun g7 => ?_)
            · refine x_step rfl ?_
              refine x_step rfl ?_
              exact rest 3 _ (by rw [hsu, if_pos (Or.inr g)]) (by exact ⟨rfl, rfl, rfl, rfl, rfl, rfl, rfl, rfl, rfl, trivial⟩)
            · refine x_step rfl ?_
              exact rest 4 _ (by rw [hsu, if_neg (by omega)]) (by exact ⟨rfl, rfl, rfl, rfl, rfl, rfl, rfl, rfl, rfl, trivial⟩)
  -- six cross-checks
  have crosses : ∀ (n k : Nat), k + n = 6 → XEa mL_isBoard 1 9 1 9 (some (.inl 1)) (hN (Hg I (gmF (I 118) 81))) 229 [(6, .inl (k : Int)), (5, .inl (xsm (anS (I 118)) 81)), (4, .inl (xsm (ruF (I 118) (inM I) 1) 162)), (3, .inl (xsm (ruF (I 118) (inM I) 0) 162)), (2, .inr (117 + (I 0 0).toNat)), (1, .inl x), (0, .inr 3)] [.inl 6, .inl (k : Int)] (hN (Hg I (gmF (I 118) 81))) := by
    intro n
    induction n with
    | zero =>
      intro k e1
      refine x_le rfl (by omega) (by omega) (fun _ => ?_) (fun g => absurd (by omega) g)
      repeat refine x_step rfl ?_
      exact x_loc (by exact ⟨rfl, rfl, rfl, rfl, rfl, rfl, rfl, rfl, rfl, trivial⟩) (letters 8 0 (by omega))
    | succ n ih =>
      intro k e1
      have next := ih (k + 1) (by omega)
      have ei : ((k + 1 : Nat) : Int) = (k : Int) + 1 := by omega
      rw [ei] at next
      have hS := Hg_sim h (gmF (I 118) 81)
      have e8 := Hg_e8 (I := I) (gmF (I 118) 81)
      have hq : 0 ≤ (x + 977 * (k : Int)) % 2147483648 % 81 ∧ (x + 977 * (k : Int)) % 2147483648 % 81 ≤ 80 := by omega
      clear ih letters fin cA cB cR cS cF cI
      have rest : ∀ (q d : Int) (L : XL), 0 ≤ q → q ≤ 80 → (d = 0 ∨ d = 1) → xsub L [(7, .inl q), (6, .inl (k : Int)), (5, .inl (xsm (anS (I 118)) 81)), (4, .inl (xsm (ruF (I 118) (inM I) 1) 162)), (3, .inl (xsm (ruF (I 118) (inM I) 0) 162)), (2, .inr (117 + (I 0 0).toNat)), (1, .inl x), (0, .inr 3)] → XEa mL_isBoard 1 9 1 9 (some (.inl 1)) (hN (Hg I (gmF (I 118) 81))) 262 L [.inl d] (hN (Hg I (gmF (I 118) 81))) := by
        intro q d L q0 q1 hd hL
        have hz := hb q q0 q1
        have b1 := B_crossCheck hS q d q0 q1 hd
        have b2 := cL_crossCheck hS q d q0 q1 hd
        rw [e8, inM_c e8] at b1 b2
        have hcs := (csF_bit (alP (I 118) (inM I) q d) 1 (by omega) (by omega)).2
        refine x_step (L' := (8, .inl d) :: L) rfl ?_
        refine x_loc (L' := [(8, .inl d), (7, .inl q), (6, .inl (k : Int)), (5, .inl (xsm (anS (I 118)) 81)), (4, .inl (xsm (ruF (I 118) (inM I) 1) 162)), (3, .inl (xsm (ruF (I 118) (inM I) 0) 162)), (2, .inr (117 + (I 0 0).toNat)), (1, .inl x), (0, .inr 3)]) (by exact ⟨rfl, hL⟩) ?_
        repeat refine x_step rfl ?_
        refine x_calla (mc' := 0) (ms' := 0) rfl b1 ⟨by omega, by omega⟩ ?_
        repeat refine x_step rfl ?_
        refine x_calla (mc' := 0) (ms' := 0) rfl (cT _ q q0 q1) ⟨by omega, by omega⟩ ?_
        by_cases w : I 118 q = 0
        · rw [if_pos w]
          refine x_le rfl (by omega) (by omega) (fun _ => ?_) (fun g => absurd (by omega) g)
          repeat refine x_step rfl ?_
          refine x_calla (mc' := 0) (ms' := 0) rfl b2 ⟨by omega, by omega⟩ ?_
          refine x_eq rfl (by omega) (by omega) (fun _ => ?_) (fun g => absurd rfl g)
          repeat refine x_step rfl ?_
          exact x_loc (by exact ⟨rfl, rfl, rfl, rfl, rfl, rfl, rfl, trivial⟩) next
        · rw [if_neg w]
          refine x_le rfl (by omega) (by omega) (fun g => absurd g (by omega)) (fun _ => ?_)
          repeat refine x_step rfl ?_
          refine x_eq rfl (by omega) (by omega) (fun _ => ?_) (fun g => absurd rfl g)
          repeat refine x_step rfl ?_
          exact x_loc (by exact ⟨rfl, rfl, rfl, rfl, rfl, rfl, rfl, trivial⟩) next
      refine x_le rfl (by omega) (by omega) (fun g => absurd g (by omega)) (fun _ => ?_)
      repeat refine x_step rfl ?_
      refine x_calla (mc' := 0) (ms' := 0) rfl (cL_low _ (x + 977 * (k : Int)) 81 (by omega) (by omega)) ⟨by omega, by omega⟩ ?_
      repeat refine x_step rfl ?_
      refine x_ishrG rfl (by omega) (by omega) ?_
      repeat refine x_step rfl ?_
      refine x_iand1 rfl ?_
      repeat refine x_step rfl ?_
      refine x_eq rfl (by omega) (by omega) (fun _ => ?_) (fun _ => ?_)
      · refine x_step rfl ?_
        refine x_step rfl ?_
        exact rest _ 1 _ hq.1 hq.2 (Or.inr rfl) (by exact ⟨rfl, rfl, rfl, rfl, rfl, rfl, rfl, rfl, trivial⟩)
      · refine x_step rfl ?_
        exact rest _ 0 _ hq.1 hq.2 (Or.inl rfl) (by exact ⟨rfl, rfl, rfl, rfl, rfl, rfl, rfl, rfl, trivial⟩)
  -- square by square
  have squares : ∀ (n s : Nat), s + n = 81 → XEa mL_isBoard 1 9 1 9 (some (.inl 1)) (hN (Hg I (gmF (I 118) 81))) 20 [(6, .inl (s : Int)), (5, .inl (xsm (anS (I 118)) s)), (4, .inl (xsm (ruF (I 118) (inM I) 1) (2 * s))), (3, .inl (xsm (ruF (I 118) (inM I) 0) (2 * s))), (2, .inr (117 + (I 0 0).toNat)), (1, .inl x), (0, .inr 3)] [.inl 81, .inl (s : Int)] (hN (Hg I (gmF (I 118) s))) := by
    intro n
    induction n with
    | zero =>
      intro s e1
      have e : s = 81 := by omega
      subst e
      refine x_le rfl (by omega) (by omega) (fun _ => ?_) (fun g => absurd (by omega) g)
      repeat refine x_step rfl ?_
      exact x_loc (by exact ⟨rfl, rfl, rfl, rfl, rfl, rfl, rfl, trivial⟩) (crosses 6 0 (by omega))
    | succ n ih =>
      intro s e1
      have next := ih (s + 1) (by omega)
      have ei : ((s + 1 : Nat) : Int) = (s : Int) + 1 := by omega
      have s0 : (0 : Int) ≤ s := by omega
      have s1 : (s : Int) ≤ 80 := by omega
      have hz := hb s s0 s1
      have han := anS01 (I 118) s
      have ean : xsm (anS (I 118)) (s + 1) = xsm (anS (I 118)) s + anS (I 118) s := rfl
      rw [ei, ean] at next
      clear ih crosses letters fin
      have ways : ∀ (m w : Nat), w + m = 2 → XEa mL_isBoard 1 9 1 9 (some (.inl 1)) (hN (Hg I (gmF (I 118) 81))) 85 [(7, .inl (w : Int)), (6, .inl (s : Int)), (5, .inl (xsm (anS (I 118)) s + anS (I 118) s)), (4, .inl (xsm (ruF (I 118) (inM I) 1) (2 * s + w))), (3, .inl (xsm (ruF (I 118) (inM I) 0) (2 * s + w))), (2, .inr (117 + (I 0 0).toNat)), (1, .inl x), (0, .inr 3)] [.inl 2, .inl (w : Int)] (hN (Hg I (gmF (I 118) (s + 1)))) := by
        intro m
        induction m with
        | zero =>
          intro w e2
          have e : w = 2 := by omega
          subst e
          refine x_le rfl (by omega) (by omega) (fun _ => ?_) (fun g => absurd (by omega) g)
          repeat refine x_step rfl ?_
          exact x_loc (by exact ⟨rfl, rfl, rfl, rfl, rfl, rfl, rfl, trivial⟩) next
        | succ m ih =>
          intro w e2
          have nx := ih (w + 1) (by omega)
          have ew : ((w + 1 : Nat) : Int) = (w : Int) + 1 := by omega
          have hw : (w : Int) = 0 ∨ (w : Int) = 1 := by omega
          have ed : ((2 * s + w : Nat) : Int) / 2 = s := by omega
          have em : ((2 * s + w : Nat) : Int) % 2 = w := by omega
          have eu : ∀ u : Int, xsm (ruF (I 118) (inM I) u) (2 * s + (w + 1)) = xsm (ruF (I 118) (inM I) u) (2 * s + w) + sel (srS (I 118) s w = 1 ∧ (u = 0 ∨ ¬ inM I (rnS (I 118) s w (I 118 s)))) 1 0 := fun u => by
            have : xsm (ruF (I 118) (inM I) u) (2 * s + (w + 1)) = xsm (ruF (I 118) (inM I) u) (2 * s + w) + ruF (I 118) (inM I) u ((2 * s + w : Nat) : Int) := rfl
            rw [this]
            unfold ruF
            rw [ed, em]
          rw [ew, eu 0, eu 1] at nx
          have hfs := first_sr hb (q := s) (d := w) s0 s1 hw
          have hrR := rnS_R hb s0 s1 hw hz
          have hlf := lfS_R hb s w (-1)
          clear ih next
          -- with the run and whether it begins here
          have rest : ∀ (rn fs : Int) (L : XL), InR rn → (fs = 0 ∨ fs = 1) → (fs = 1 ↔ srS (I 118) s w = 1) → (fs = 1 → rn = rnS (I 118) s w (I 118 s)) → xsub L [(9, .inl rn), (7, .inl (w : Int)), (6, .inl (s : Int)), (5, .inl (xsm (anS (I 118)) s + anS (I 118) s)), (4, .inl (xsm (ruF (I 118) (inM I) 1) (2 * s + w))), (3, .inl (xsm (ruF (I 118) (inM I) 0) (2 * s + w))), (2, .inr (117 + (I 0 0).toNat)), (1, .inl x), (0, .inr 3)] → XEa mL_isBoard 1 9 1 9 (some (.inl 1)) (hN (Hg I (gmF (I 118) 81))) 171 L [.inl fs] (hN (Hg I (gmF (I 118) (s + 1)))) := by
            intro rn fs L hrn hfs01 e3 e4 hL
            refine x_step (L' := (10, .inl fs) :: L) rfl ?_
            refine x_loc (L' := [(10, .inl fs), (9, .inl rn), (7, .inl (w : Int)), (6, .inl (s : Int)), (5, .inl (xsm (anS (I 118)) s + anS (I 118) s)), (4, .inl (xsm (ruF (I 118) (inM I) 1) (2 * s + w))), (3, .inl (xsm (ruF (I 118) (inM I) 0) (2 * s + w))), (2, .inr (117 + (I 0 0).toNat)), (1, .inl x), (0, .inr 3)]) (by exact ⟨rfl, hL⟩) ?_
            repeat refine x_step rfl ?_
            refine x_eq rfl (by omega) (by omega) (fun g => ?_) (fun g => ?_)
            · have n1 : ¬ srS (I 118) s w = 1 := fun v => by have := e3.mpr v; omega
              rw [sel_neg (fun v => n1 v.1), sel_neg (fun v => n1 v.1)] at nx
              repeat refine x_step rfl ?_
              refine x_eq rfl (by omega) (by omega) (fun _ => ?_) (fun g2 => absurd g g2)
              repeat refine x_step rfl ?_
              exact x_loc (by exact ⟨rfl, rfl, rfl, rfl, rfl, rfl, rfl, rfl, trivial⟩) nx
            · have f1 : fs = 1 := by omega
              have y1 := e3.mp f1
              have er := e4 f1
              rw [sel_pos (show srS (I 118) s w = 1 ∧ ((0 : Int) = 0 ∨ ¬ inM I (rnS (I 118) s w (I 118 s))) from ⟨y1, Or.inl rfl⟩)] at nx
              repeat refine x_step rfl ?_
              refine x_eq rfl (by omega) (by omega) (fun g2 => absurd g2 g) (fun _ => ?_)
              repeat refine x_step rfl ?_
              refine x_calla (mc' := 0) (ms' := 0) rfl (cI _ rn hrn) ⟨by omega, by omega⟩ ?_
              rw [er]
              by_cases hin : inM I (rnS (I 118) s w (I 118 s))
              · rw [sel_neg (fun v => v.2.elim (fun u => by omega) (fun u => u hin))] at nx
                rw [sel_pos hin]
                refine x_eq rfl (by omega) (by omega) (fun g2 => absurd g2 (by omega)) (fun _ => ?_)
                repeat refine x_step rfl ?_
                exact x_loc (by exact ⟨rfl, rfl, rfl, rfl, rfl, rfl, rfl, rfl, trivial⟩) nx
              · rw [sel_pos ⟨y1, Or.inr hin⟩] at nx
                rw [sel_neg hin]
                refine x_eq rfl (by omega) (by omega) (fun _ => ?_) (fun g2 => absurd rfl g2)
                repeat refine x_step rfl ?_
                exact x_loc (by exact ⟨rfl, rfl, rfl, rfl, rfl, rfl, rfl, rfl, trivial⟩) nx
          -- with the run
          have run : ∀ (rn : Int) (L : XL), rn = (if I 118 s = 0 ∨ rnS (I 118) s w (I 118 s) = 0 then -5 else rnS (I 118) s w (I 118 s)) → xsub L [(8, .inl (w : Int)), (7, .inl (w : Int)), (6, .inl (s : Int)), (5, .inl (xsm (anS (I 118)) s + anS (I 118) s)), (4, .inl (xsm (ruF (I 118) (inM I) 1) (2 * s + w))), (3, .inl (xsm (ruF (I 118) (inM I) 0) (2 * s + w))), (2, .inr (117 + (I 0 0).toNat)), (1, .inl x), (0, .inr 3)] → XEa mL_isBoard 1 9 1 9 (some (.inl 1)) (hN (Hg I (gmF (I 118) 81))) 129 L [.inl rn] (hN (Hg I (gmF (I 118) (s + 1)))) := by
            intro rn L hrn hL
            have hR : InR rn := by rw [hrn]; split <;> omega
            refine x_step (L' := (9, .inl rn) :: L) rfl ?_
            refine x_loc (L' := [(9, .inl rn), (8, .inl (w : Int)), (7, .inl (w : Int)), (6, .inl (s : Int)), (5, .inl (xsm (anS (I 118)) s + anS (I 118) s)), (4, .inl (xsm (ruF (I 118) (inM I) 1) (2 * s + w))), (3, .inl (xsm (ruF (I 118) (inM I) 0) (2 * s + w))), (2, .inr (117 + (I 0 0).toNat)), (1, .inl x), (0, .inr 3)]) (by exact ⟨rfl, hL⟩) ?_
            have b1 := cS (gmF (I 118) (s + 1)) s w s0 s1 hw
            rw [← hrn] at b1
            repeat refine x_step rfl ?_
            refine x_calla (mc' := 0) (ms' := 0) rfl b1 ⟨by omega, by omega⟩ ?_
            repeat refine x_step rfl ?_
            refine x_eq rfl hR hR (fun _ => ?_) (fun g => absurd rfl g)
            repeat refine x_step rfl ?_
            by_cases g : I 118 s = 0 ∨ rnS (I 118) s w (I 118 s) = 0
            · rw [if_pos g] at hrn
              have n1 : ¬ srS (I 118) s w = 1 := fun v => by
                have := hfs.mpr v
                exact g.elim (fun u => this.1 u) (fun u => this.2.1 u)
              refine x_le rfl (by omega) (by omega) (fun _ => ?_) (fun g2 => absurd (by omega) g2)
              refine x_step rfl ?_
              exact rest rn 0 _ hR (Or.inl rfl) ⟨fun v => by omega, fun v => absurd v n1⟩ (fun v => by omega) (by exact ⟨rfl, rfl, rfl, rfl, rfl, rfl, rfl, rfl, rfl, trivial⟩)
            · rw [if_neg g] at hrn
              refine x_le rfl (by omega) (by omega) (fun g2 => absurd g2 (by omega)) (fun _ => ?_)
              repeat refine x_step rfl ?_
              refine x_calla (mc' := 0) (ms' := 0) rfl (cL_further _ s w (-1) s0 s1 hw (by omega)) ⟨by omega, by omega⟩ ?_
              refine x_calla (mc' := 0) (ms' := 0) rfl (cF _ s w (-1) s0 s1 hw) ⟨by omega, by omega⟩ ?_
              refine x_eq rfl (by omega) (by omega) (fun g3 => ?_) (fun g3 => ?_)
              · refine x_step rfl ?_
                refine x_step rfl ?_
                exact rest rn 1 _ hR (Or.inr rfl) ⟨fun _ => hfs.mp ⟨fun u => g (Or.inl u), fun u => g (Or.inr u), g3⟩, fun _ => rfl⟩ (fun _ => hrn) (by exact ⟨rfl, rfl, rfl, rfl, rfl, rfl, rfl, rfl, rfl, trivial⟩)
              · refine x_step rfl ?_
                exact rest rn 0 _ hR (Or.inl rfl) ⟨fun v => by omega, fun v => absurd (hfs.mpr v).2.2 g3⟩ (fun v => by omega) (by exact ⟨rfl, rfl, rfl, rfl, rfl, rfl, rfl, rfl, rfl, trivial⟩)
          -- with the direction
          have dir : ∀ (d : Int) (L : XL), d = (w : Int) → xsub L [(7, .inl (w : Int)), (6, .inl (s : Int)), (5, .inl (xsm (anS (I 118)) s + anS (I 118) s)), (4, .inl (xsm (ruF (I 118) (inM I) 1) (2 * s + w))), (3, .inl (xsm (ruF (I 118) (inM I) 0) (2 * s + w))), (2, .inr (117 + (I 0 0).toNat)), (1, .inl x), (0, .inr 3)] → XEa mL_isBoard 1 9 1 9 (some (.inl 1)) (hN (Hg I (gmF (I 118) 81))) 99 L [.inl d] (hN (Hg I (gmF (I 118) (s + 1)))) := by
            intro d L hd hL
            subst hd
            refine x_step (L' := (8, .inl (w : Int)) :: L) rfl ?_
            refine x_loc (L' := [(8, .inl (w : Int)), (7, .inl (w : Int)), (6, .inl (s : Int)), (5, .inl (xsm (anS (I 118)) s + anS (I 118) s)), (4, .inl (xsm (ruF (I 118) (inM I) 1) (2 * s + w))), (3, .inl (xsm (ruF (I 118) (inM I) 0) (2 * s + w))), (2, .inr (117 + (I 0 0).toNat)), (1, .inl x), (0, .inr 3)]) (by exact ⟨rfl, hL⟩) ?_
            repeat refine x_step rfl ?_
            refine x_calla (mc' := 0) (ms' := 0) rfl (cT _ s s0 s1) ⟨by omega, by omega⟩ ?_
            refine x_le rfl (by omega) (by omega) (fun g => ?_) (fun g => ?_)
            · refine x_step rfl ?_
              exact run (-5) _ (by rw [if_pos (Or.inl (by omega))]) (by exact ⟨rfl, rfl, rfl, rfl, rfl, rfl, rfl, rfl, rfl, trivial⟩)
            · repeat refine x_step rfl ?_
              refine x_calla (mc' := 0) (ms' := 0) rfl (cT _ s s0 s1) ⟨by omega, by omega⟩ ?_
              refine x_calla (mc' := 0) (ms' := 0) rfl (cR _ s w (I 118 s) s0 s1 hw (by omega)) ⟨by omega, by omega⟩ ?_
              refine x_step rfl ?_
              refine run _ _ ?_ (by exact ⟨rfl, rfl, rfl, rfl, rfl, rfl, rfl, rfl, rfl, trivial⟩)
              by_cases g2 : rnS (I 118) s w (I 118 s) = 0
              · rw [if_pos g2, if_pos (Or.inr g2)]
              · rw [if_neg g2, if_neg (fun v => v.elim (fun u => by omega) g2)]
          refine x_le rfl (by omega) (by omega) (fun g => absurd g (by omega)) (fun _ => ?_)
          repeat refine x_step rfl ?_
          refine x_eq rfl (by omega) (by omega) (fun g => ?_) (fun g => ?_)
          · refine x_step rfl ?_
            refine x_step rfl ?_
            exact dir 1 _ g.symm (by exact ⟨rfl, rfl, rfl, rfl, rfl, rfl, rfl, rfl, trivial⟩)
          · refine x_step rfl ?_
            exact dir 0 _ (by omega) (by exact ⟨rfl, rfl, rfl, rfl, rfl, rfl, rfl, rfl, trivial⟩)
      -- the anchors
      have anch : ∀ (L : XL), xsub L [(6, .inl (s : Int)), (5, .inl (xsm (anS (I 118)) s + anS (I 118) s)), (4, .inl (xsm (ruF (I 118) (inM I) 1) (2 * s))), (3, .inl (xsm (ruF (I 118) (inM I) 0) (2 * s))), (2, .inr (117 + (I 0 0).toNat)), (1, .inl x), (0, .inr 3)] → XEa mL_isBoard 1 9 1 9 (some (.inl 1)) (hN (Hg I (gmF (I 118) 81))) 54 L [] (hN (Hg I (gmF (I 118) (s + 1)))) := by
        intro L hL
        have go : ∀ L : XL, xsub L [(6, .inl (s : Int)), (5, .inl (xsm (anS (I 118)) s + anS (I 118) s)), (4, .inl (xsm (ruF (I 118) (inM I) 1) (2 * s))), (3, .inl (xsm (ruF (I 118) (inM I) 0) (2 * s))), (2, .inr (117 + (I 0 0).toNat)), (1, .inl x), (0, .inr 3)] → XEa mL_isBoard 1 9 1 9 (some (.inl 1)) (hN (Hg I (gmF (I 118) 81))) 74 L [.inl (anS (I 118) s), .inl (anS (I 118) s)] (hN (Hg I (gmF (I 118) (s + 1)))) := by
          intro L hL
          refine x_loc hL ?_
          refine x_eq rfl (by omega) (by omega) (fun _ => ?_) (fun g => absurd rfl g)
          repeat refine x_step rfl ?_
          exact x_loc (by exact ⟨rfl, rfl, rfl, rfl, rfl, rfl, rfl, rfl, trivial⟩) (ways 2 0 (by omega))
        refine x_loc hL ?_
        repeat refine x_step rfl ?_
        refine x_calla (mc' := 0) (ms' := 0) rfl (cB _ s s0 s1) ⟨by omega, by omega⟩ ?_
        repeat refine x_step rfl ?_
        refine x_calla (mc' := 0) (ms' := 0) rfl (cA _ s s0 s1) ⟨by omega, by omega⟩ ?_
        refine x_eq rfl (by omega) (by omega) (fun g => ?_) (fun g => ?_)
        · refine x_step rfl ?_
          have := go [(6, .inl (s : Int)), (5, .inl (xsm (anS (I 118)) s + anS (I 118) s)), (4, .inl (xsm (ruF (I 118) (inM I) 1) (2 * s))), (3, .inl (xsm (ruF (I 118) (inM I) 0) (2 * s))), (2, .inr (117 + (I 0 0).toNat)), (1, .inl x), (0, .inr 3)] (by exact ⟨rfl, rfl, rfl, rfl, rfl, rfl, rfl, trivial⟩)
          rw [g] at this ⊢
          exact this
        · have g1 : anS (I 118) s = 1 := by omega
          refine x_step rfl ?_
          refine x_step rfl ?_
          have := go [(6, .inl (s : Int)), (5, .inl (xsm (anS (I 118)) s + anS (I 118) s)), (4, .inl (xsm (ruF (I 118) (inM I) 1) (2 * s))), (3, .inl (xsm (ruF (I 118) (inM I) 0) (2 * s))), (2, .inr (117 + (I 0 0).toNat)), (1, .inl x), (0, .inr 3)] (by exact ⟨rfl, rfl, rfl, rfl, rfl, rfl, rfl, trivial⟩)
          rw [g1] at this ⊢
          exact this
      refine x_le rfl (by omega) (by omega) (fun g => absurd g (by omega)) (fun _ => ?_)
      repeat refine x_step rfl ?_
      refine x_calla (mc' := 0) (ms' := 0) rfl (cT _ s s0 s1) ⟨by omega, by omega⟩ ?_
      repeat refine x_step rfl ?_
      refine x_aldE (t := (I 0 0).toNat) rfl (by rw [Hg_0]; exact hm) (by omega) (by rw [Hg_at, gmF_n]; omega) (by rw [Hg_at, gmF_n]; omega) ?_
      rw [Hg_at]
      repeat refine x_step rfl ?_
      refine x_astE (t := (I 0 0).toNat) rfl (by rw [Hg_0]; exact hm) (by omega) (by rw [Hg_at, gmF_n]; omega) (by rw [Hg_at, gmF_n]; omega) ?_
      rw [Hg_up, gmF_s (I 118) s hz]
      repeat refine x_step rfl ?_
      refine x_calla (mc' := 0) (ms' := 0) rfl (cA _ s s0 s1) ⟨by omega, by omega⟩ ?_
      refine x_eq rfl (by omega) (by omega) (fun g => ?_) (fun g => ?_)
      · refine x_step rfl ?_
        refine x_step rfl ?_
        refine x_step rfl ?_
        exact anch _ (by exact ⟨rfl, xsi (by rw [g]), rfl, rfl, rfl, rfl, rfl, trivial⟩)
      · refine x_step rfl ?_
        refine x_step rfl ?_
        refine x_step rfl ?_
        refine x_step rfl ?_
        exact anch _ (by exact ⟨rfl, xsi (by omega), rfl, rfl, rfl, rfl, rfl, trivial⟩)
  refine XRa.of (by decide) (Nat.le_of_ble_eq_true rfl) ?_
  repeat refine x_step rfl ?_
  refine x_newE (len := 9) rfl (by omega) hi ⟨by omega, by omega⟩ ?_
  have e : mkE I 9 = Hg I (gmF (I 118) 0) := by
    unfold mkE Hg
    rw [gmF_0 (I 118)]
  rw [e]
  repeat refine x_step rfl ?_
  exact x_loc (by exact ⟨rfl, rfl, rfl, rfl, rfl, rfl, rfl, trivial⟩) (squares 81 0 (by omega))
end BOARD
