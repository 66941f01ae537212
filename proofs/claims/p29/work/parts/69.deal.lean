/-! the dealing; the class's constructor -/
section DEAL
variable {I : Nat → Int → Int} {z : Int → Int}
/-- the bag with the letters below k -/
def bgS (k : Int) : Int → Int := fun j => if 1 ≤ j ∧ j < k then xSUPP j.toNat else 0
theorem bgS_s {k : Int} (h : 1 ≤ k) : (fun j => if j = k then bgS k k + xSUPP k.toNat else bgS k j) = bgS (k + 1) := by
  funext j
  unfold bgS
  by_cases e : j = k
  · rw [if_pos e, if_neg (by omega), if_pos (by omega), e]
    omega
  · rw [if_neg e]
    by_cases g : 1 ≤ j ∧ j < k
    · rw [if_pos g, if_pos (by omega)]
    · rw [if_neg g, if_neg (by omega)]
theorem bgS_1 : bgS 1 = fun _ => 0 := by
  funext j
  exact if_neg (by omega)
def dlB (I : Nat → Int → Int) : Nat → Int → Int := xset I 14 (bgS 9)
def dl1 (I : Nat → Int → Int) : Nat → Int → Int := fiH (dlB I) 10 (fiT 6 (dlB I 4 6, dlB I 14, dlB I 10))
def dl2 (I : Nat → Int → Int) : Nat → Int → Int := fiH (dl1 I) 12 (fiT 6 (dl1 I 4 6, dl1 I 14, dl1 I 12))
theorem xtSR (hg : GM I 4 z) (hw : WZ z) {p : Int} (hp : p = 0 ∨ p = 1) : tsR (I 4 6, I 14, I (rkA p)) := by
  have e : I 4 6 = z 105 := hg.x 6 (by omega) (by omega)
  refine ⟨by show 0 ≤ I 4 6; rw [e]; exact hw.dr.1, by show I 4 6 ≤ 65536; rw [e]; exact hw.dr.2, fun k a b => ?_⟩
  have e : I 14 k = bgZ z k := hg.bg k a b
  show 0 ≤ I 14 k ∧ I 14 k ≤ 100
  rw [e]
  exact hw.bz k a b
theorem cG_deal (h14 : I 14 = fun _ => 0) (hg : GM (dlB I) 4 z) (hw : WZ z) (e0 : ttS (rkZ z 0) = 0) (e1 : ttS (rkZ z 1) = 0) : XR mG_deal [.inr 4] (117, xRf, I) none (117, xRf, dl2 I) ∧ GM (dl2 I) 4 (fzS 1 6 (fzS 0 6 z)) ∧ WZ (fzS 1 6 (fzS 0 6 z)) := by
  have t0 : ttS (dlB I 10) = 0 := by
    rw [← e0]
    exact ttS_c (fun k a b => hg.rz (p := 0) (Or.inl rfl) k a b)
  have g1 : GM (dl1 I) 4 (fzS 0 6 z) := hg.fz hw.tz (p := 0) (Or.inl rfl) 6
  have w1 : WZ (fzS 0 6 z) := hw.fz (p := 0) (Or.inl rfl) 6 (by omega)
  have ez : ttS (rkZ (fzS 0 6 z) 1) = 0 := (ttS_c (f := rkZ (fzS 0 6 z) 1) (g := rkZ z 1) (fun k a b => fz_ne (p := 0) (j := 80 + 8 * 1 + k) (Or.inl rfl) (by omega) 6 z hw.tz)).trans e1
  have t1 : ttS (dl1 I 12) = 0 := by
    rw [← ez]
    exact ttS_c (fun k a b => g1.rz (p := 1) (Or.inr rfl) k a b)
  have g2 : GM (dl2 I) 4 (fzS 1 6 (fzS 0 6 z)) := g1.fz w1.tz (p := 1) (Or.inr rfl) 6
  have w2 : WZ (fzS 1 6 (fzS 0 6 z)) := w1.fz (p := 1) (Or.inr rfl) 6 (by omega)
  refine ⟨?_, g2, w2⟩
  have f0 := cG_fill 117 rfl (dlB I) 9 10 (Or.inl ⟨rfl, rfl⟩) (xtSR hg hw (p := 0) (Or.inl rfl)) (by omega) (by omega)
  have f1 := cG_fill 117 rfl (dl1 I) 11 12 (Or.inr ⟨rfl, rfl⟩) (xtSR g1 w1 (p := 1) (Or.inr rfl)) (by omega) (by omega)
  rw [t0] at f0
  rw [t1] at f1
  refine XRa.of (by decide) (Nat.le_of_ble_eq_true rfl) ?_
  have fin : ∀ L : XL, xsub L [(0, .inr 4)] → XE mG_deal none (117, xRf, dl2 I) 27 L [] (117, xRf, dlB I) := by
    intro L hL
    refine x_loc hL ?_
    repeat refine x_step rfl ?_
    refine x_callv rfl f0 ?_
    repeat refine x_step rfl ?_
    refine x_callv rfl f1 ?_
    exact x_vret rfl rfl rfl
  have loop : ∀ (m : Nat) (k : Int), k + m = 9 → 1 ≤ k → XE mG_deal none (117, xRf, dl2 I) 5 [(1, .inl k), (0, .inr 4)] [.inl 8, .inl k] (117, xRf, xset I 14 (bgS k)) := by
    intro m
    induction m with
    | zero =>
      intro k a b
      have ek : k = 9 := by omega
      subst ek
      refine x_lt rfl (by omega) (by omega) (fun w => ?_) (fun w => absurd (by omega) w)
      exact fin _ (by exact ⟨rfl, trivial⟩)
    | succ m ih =>
      intro k a b
      refine x_lt rfl (by omega) (by omega) (fun w => absurd w (by omega)) (fun w => ?_)
      repeat refine x_step rfl ?_
      refine x_getsS rfl (by decide +kernel) ?_
      refine x_step rfl ?_
      refine x_aldS rfl (by omega) (by omega) ?_
      refine x_callv rfl (cT_change 117 rfl _ 13 14 (by unfold tsP; omega) k _ (by omega) (by omega)) ?_
      rw [xset_at, xup_xset, bgS_s b]
      repeat refine x_step rfl ?_
      exact x_loc (by exact ⟨rfl, rfl, trivial⟩) (ih (k + 1) (by omega) (by omega))
  have go := loop 8 1 (by omega) (by omega)
  rw [bgS_1, ← h14, xset_self] at go
  repeat refine x_step rfl ?_
  exact x_loc (by exact ⟨rfl, rfl, trivial⟩) go
/-- the references of the class, as its constructor puts them down -/
def rC : Nat → Nat → Option Nat := xur (xur (xur (xur (xur (xur (xur (xur (rHs (xur (xur (rG (xur (rG rN0 4) 3 0 4) 17) 3 1 17) 30 0 31) 6) 3 2 30) 110 0 111) 3 3 110) 112 0 113) 3 4 112) 115 0 116) 114 0 115) 3 5 114
def iC : Nat → Int → Int := xup (iHs (xup (xup iN0 4 6 1) 17 6 1) 6) 3 7 (-5)
theorem rC_ok : ∀ o, o < 117 → (xKd o = 10 ∨ ∀ j, j < xLn o → rC o j = xRf o j) := by decide +kernel
/-- the reference's numbers before the racks are filled -/
def zB : Int → Int := fun j => if 97 ≤ j ∧ j ≤ 104 then xSUPP (j - 96).toNat else if j = 105 then 1 else 0
end DEAL
