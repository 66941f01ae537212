/-! the constructors of the class -/
def rN0 : Nat → Nat → Option Nat := fun _ _ => none
def iN0 : Nat → Int → Int := fun _ _ => 0
section CINIT
variable {o : Nat} {r : Nat → Nat → Option Nat} {I : Nat → Int → Int}
theorem cW_init (ho : 3 ≤ o) (hn : o + 1 < 116) (k1 : xKd o = 2) (k2 : xKd (o + 1) = 10) (l2 : xLn (o + 1) = 20) (hI : I (o + 1) = fun _ => 0) : XRa 2 1 20 [.inr o] (o + 1, r, I) none (o + 2, xur r o 0 (o + 1), I) := by
  refine XRa.of (by decide) (Nat.le_of_ble_eq_true rfl) ?_
  refine x_step rfl ?_
  refine x_obj rfl (by decide) (by decide) (Nat.le_of_ble_eq_true rfl) ?_
  repeat refine x_step rfl ?_
  refine x_newI (len := 20) rfl k2 l2 (by omega) (fun w => by omega) hI ⟨by decide, by decide⟩ ?_
  refine x_putr rfl ho (by omega) k1 (by decide) (by decide +kernel) rfl (by decide +kernel) ?_
  exact x_vret rfl rfl rfl
theorem cS_init (ho : 3 ≤ o) (hn : o + 1 < 116) (k1 : xKd o = 3) (k2 : xKd (o + 1) = 10) (l2 : xLn (o + 1) = 81) (hI : I (o + 1) = fun _ => 0) : XRa 3 1 81 [.inr o] (o + 1, r, I) none (o + 2, xur r o 0 (o + 1), I) := by
  refine XRa.of (by decide) (Nat.le_of_ble_eq_true rfl) ?_
  refine x_step rfl ?_
  refine x_obj rfl (by decide) (by decide) (Nat.le_of_ble_eq_true rfl) ?_
  repeat refine x_step rfl ?_
  refine x_newI (len := 81) rfl k2 l2 (by omega) (fun w => by omega) hI ⟨by decide, by decide⟩ ?_
  refine x_putr rfl ho (by omega) k1 (by decide) (by decide +kernel) rfl (by decide +kernel) ?_
  exact x_vret rfl rfl rfl
theorem cT_init (ho : 3 ≤ o) (hn : o + 1 < 116) (k1 : xKd o = 4) (k2 : xKd (o + 1) = 10) (l2 : xLn (o + 1) = 9) (hI : I (o + 1) = fun _ => 0) : XRa 4 1 9 [.inr o] (o + 1, r, I) none (o + 2, xur r o 0 (o + 1), I) := by
  refine XRa.of (by decide) (Nat.le_of_ble_eq_true rfl) ?_
  refine x_step rfl ?_
  refine x_obj rfl (by decide) (by decide) (Nat.le_of_ble_eq_true rfl) ?_
  repeat refine x_step rfl ?_
  refine x_newI (len := 9) rfl k2 l2 (by omega) (fun w => by omega) hI ⟨by decide, by decide⟩ ?_
  refine x_putr rfl ho (by omega) k1 (by decide) (by decide +kernel) rfl (by decide +kernel) ?_
  exact x_vret rfl rfl rfl
theorem cO_init (ho : 3 ≤ o) (hn : o + 1 < 116) (k1 : xKd o = 6) (k2 : xKd (o + 1) = 10) (l2 : xLn (o + 1) = 80) (hI : I (o + 1) = fun _ => 0) : XRa 6 1 80 [.inr o] (o + 1, r, I) none (o + 2, xur r o 0 (o + 1), I) := by
  refine XRa.of (by decide) (Nat.le_of_ble_eq_true rfl) ?_
  refine x_step rfl ?_
  refine x_obj rfl (by decide) (by decide) (Nat.le_of_ble_eq_true rfl) ?_
  repeat refine x_step rfl ?_
  refine x_newI (len := 80) rfl k2 l2 (by omega) (fun w => by omega) hI ⟨by decide, by decide⟩ ?_
  refine x_putr rfl ho (by omega) k1 (by decide) (by decide +kernel) rfl (by decide +kernel) ?_
  exact x_vret rfl rfl rfl
theorem cP_init (ho : 3 ≤ o) (hn : o + 1 < 117) (hz0 : o + 1 = 116 → I 0 0 = 0) (k1 : xKd o = 7) (k2 : xKd (o + 1) = 10) (l2 : xLn (o + 1) = 7) (hI : I (o + 1) = fun _ => 0) : XRa 7 1 7 [.inr o] (o + 1, r, I) none (o + 2, xur r o 0 (o + 1), I) := by
  refine XRa.of (by decide) (Nat.le_of_ble_eq_true rfl) ?_
  refine x_step rfl ?_
  refine x_obj rfl (by decide) (by decide) (Nat.le_of_ble_eq_true rfl) ?_
  repeat refine x_step rfl ?_
  refine x_newI (len := 7) rfl k2 l2 hn hz0 hI ⟨by decide, by decide⟩ ?_
  refine x_putr rfl ho (by omega) k1 (by decide) (by decide +kernel) rfl (by decide +kernel) ?_
  exact x_vret rfl rfl rfl
theorem cF_init (hz0 : I 0 0 = 0) (hr : r 115 = fun _ => none) (hI : I 115 = fun _ => 0) (hI2 : I 116 = fun _ => 0) : XRa 8 2 12 [.inr 114] (115, r, I) none (117, xur (xur r 115 0 116) 114 0 115, I) := by
  refine XRa.of (by decide) (Nat.le_of_ble_eq_true rfl) ?_
  refine x_step rfl ?_
  refine x_obj rfl (by decide) (by decide) (Nat.le_of_ble_eq_true rfl) ?_
  refine x_step rfl ?_
  refine x_new rfl (by decide) rfl (by decide) hr hI ⟨by decide, by decide⟩ ?_
  refine x_step rfl ?_
  refine x_init rfl (by decide) (Or.inr rfl) (by decide) rfl rfl (Nat.le_of_ble_eq_true rfl) (cP_init (o := 115) (by decide) (by decide) (fun _ => hz0) rfl rfl rfl hI2) ⟨by decide, by decide⟩ ?_
  refine x_putr rfl (by decide) (by decide) rfl (by decide) (by decide +kernel) rfl (by decide +kernel) ?_
  exact x_vret rfl rfl rfl
/-- the references of a game -/
def rG (r : Nat → Nat → Option Nat) (g : Nat) : Nat → Nat → Option Nat := xur (xur (xur (xur (xur (xur (xur (xur (xur (xur (xur (xur r (g + 1) 0 (g + 2)) g 0 (g + 1)) (g + 3) 0 (g + 4)) g 1 (g + 3)) (g + 5) 0 (g + 6)) g 2 (g + 5)) (g + 7) 0 (g + 8)) g 3 (g + 7)) (g + 9) 0 (g + 10)) g 4 (g + 9)) (g + 11) 0 (g + 12)) g 5 (g + 11)
theorem rG_ne {g a : Nat} (h : a < g ∨ g + 13 ≤ a) : rG r g a = r a := by
  unfold rG
  rw [xur_ne (by omega), xur_ne (by omega), xur_ne (by omega), xur_ne (by omega), xur_ne (by omega), xur_ne (by omega), xur_ne (by omega), xur_ne (by omega), xur_ne (by omega), xur_ne (by omega), xur_ne (by omega), xur_ne (by omega)]
set_option maxRecDepth 100000 in
set_option maxHeartbeats 4000000 in
theorem cG_init (g : Nat) (hg : g = 4 ∨ g = 17 ∨ g = 32 ∨ g = 45 ∨ g = 58 ∨ g = 71 ∨ g = 84 ∨ g = 97) (hr : ∀ a, g + 1 ≤ a → r a = fun _ => none) (hI : ∀ a, g + 1 ≤ a → I a = fun _ => 0) : XRa 1 12 144 [.inr g] (g + 1, r, I) none (g + 13, rG r g, xup I g 6 1) := by
  have k : 3 ≤ g ∧ g + 12 < 116 ∧ xKd g = 1 ∧ (xKd (g + 1) = 2 ∧ xKd (g + 2) = 10 ∧ xLn (g + 2) = 20) ∧ (xKd (g + 3) = 3 ∧ xKd (g + 4) = 10 ∧ xLn (g + 4) = 81) ∧ (xKd (g + 5) = 4 ∧ xKd (g + 6) = 10 ∧ xLn (g + 6) = 9) ∧ (xKd (g + 7) = 4 ∧ xKd (g + 8) = 10 ∧ xLn (g + 8) = 9) ∧ (xKd (g + 9) = 4 ∧ xKd (g + 10) = 10 ∧ xLn (g + 10) = 9) ∧ (xKd (g + 11) = 4 ∧ xKd (g + 12) = 10 ∧ xLn (g + 12) = 9) := by
    rcases hg with rfl | rfl | rfl | rfl | rfl | rfl | rfl | rfl <;> decide +kernel
  obtain ⟨g3, g4, kg, ⟨a1, a2, a3⟩, ⟨b1, b2, b3⟩, ⟨c1, c2, c3⟩, ⟨d1, d2, d3⟩, ⟨e1, e2, e3⟩, ⟨f1, f2, f3⟩⟩ := k
  refine XRa.of (by decide) (Nat.le_of_ble_eq_true rfl) ?_
  refine x_step rfl ?_
  refine x_obj rfl (by decide) (by decide) (Nat.le_of_ble_eq_true rfl) ?_
  refine x_step rfl ?_
  refine x_new rfl (by decide) a1 (by omega) (hr _ (by omega)) (hI _ (by omega)) ⟨by decide, by decide⟩ ?_
  refine x_step rfl ?_
  refine x_init rfl (by decide) (Or.inr rfl) (by decide) rfl rfl (Nat.le_of_ble_eq_true rfl) (cW_init (o := g + 1) (by omega) (by omega) a1 a2 a3 (hI _ (by omega))) ⟨by decide, by decide⟩ ?_
  refine x_putr rfl g3 (by omega) kg (by decide) (by decide +kernel) rfl (by decide +kernel) ?_
  refine x_step rfl ?_
  refine x_new (n := g + 3) rfl (by decide) b1 (by omega) (by (repeat rw [xur_ne (by omega)]); exact hr _ (by omega)) (hI _ (by omega)) ⟨by decide, by decide⟩ ?_
  refine x_step rfl ?_
  refine x_init rfl (by decide) (Or.inr rfl) (by decide) rfl rfl (Nat.le_of_ble_eq_true rfl) (cS_init (o := g + 3) (by omega) (by omega) b1 b2 b3 (hI _ (by omega))) ⟨by decide, by decide⟩ ?_
  refine x_putr rfl g3 (by omega) kg (by decide) (by decide +kernel) rfl (by decide +kernel) ?_
  refine x_step rfl ?_
  refine x_new (n := g + 5) rfl (by decide) c1 (by omega) (by (repeat rw [xur_ne (by omega)]); exact hr _ (by omega)) (hI _ (by omega)) ⟨by decide, by decide⟩ ?_
  refine x_step rfl ?_
  refine x_init rfl (by decide) (Or.inr rfl) (by decide) rfl rfl (Nat.le_of_ble_eq_true rfl) (cT_init (o := g + 5) (by omega) (by omega) c1 c2 c3 (hI _ (by omega))) ⟨by decide, by decide⟩ ?_
  refine x_putr rfl g3 (by omega) kg (by decide) (by decide +kernel) rfl (by decide +kernel) ?_
  refine x_step rfl ?_
  refine x_new (n := g + 7) rfl (by decide) d1 (by omega) (by (repeat rw [xur_ne (by omega)]); exact hr _ (by omega)) (hI _ (by omega)) ⟨by decide, by decide⟩ ?_
  refine x_step rfl ?_
  refine x_init rfl (by decide) (Or.inr rfl) (by decide) rfl rfl (Nat.le_of_ble_eq_true rfl) (cT_init (o := g + 7) (by omega) (by omega) d1 d2 d3 (hI _ (by omega))) ⟨by decide, by decide⟩ ?_
  refine x_putr rfl g3 (by omega) kg (by decide) (by decide +kernel) rfl (by decide +kernel) ?_
  refine x_step rfl ?_
  refine x_new (n := g + 9) rfl (by decide) e1 (by omega) (by (repeat rw [xur_ne (by omega)]); exact hr _ (by omega)) (hI _ (by omega)) ⟨by decide, by decide⟩ ?_
  refine x_step rfl ?_
  refine x_init rfl (by decide) (Or.inr rfl) (by decide) rfl rfl (Nat.le_of_ble_eq_true rfl) (cT_init (o := g + 9) (by omega) (by omega) e1 e2 e3 (hI _ (by omega))) ⟨by decide, by decide⟩ ?_
  refine x_putr rfl g3 (by omega) kg (by decide) (by decide +kernel) rfl (by decide +kernel) ?_
  refine x_step rfl ?_
  refine x_new (n := g + 11) rfl (by decide) f1 (by omega) (by (repeat rw [xur_ne (by omega)]); exact hr _ (by omega)) (hI _ (by omega)) ⟨by decide, by decide⟩ ?_
  refine x_step rfl ?_
  refine x_init rfl (by decide) (Or.inr rfl) (by decide) rfl rfl (Nat.le_of_ble_eq_true rfl) (cT_init (o := g + 11) (by omega) (by omega) f1 f2 f3 (hI _ (by omega))) ⟨by decide, by decide⟩ ?_
  refine x_putr rfl g3 (by omega) kg (by decide) (by decide +kernel) rfl (by decide +kernel) ?_
  rcases hg with rfl | rfl | rfl | rfl | rfl | rfl | rfl | rfl
  all_goals
    refine x_step rfl ?_
    refine x_step rfl ?_
    refine x_step rfl ?_
    exact x_vret rfl rfl rfl
/-- the games of the history -/
def rHs (r : Nat → Nat → Option Nat) : Nat → Nat → Nat → Option Nat
  | 0 => r
  | i + 1 => xur (rG (rHs r i) (32 + 13 * i)) 31 i (32 + 13 * i)
def iHs (I : Nat → Int → Int) : Nat → Nat → Int → Int
  | 0 => I
  | i + 1 => xup (iHs I i) (32 + 13 * i) 6 1
theorem rHs_ne : ∀ (i a : Nat), 32 + 13 * i ≤ a → rHs r i a = r a := by
  intro i
  induction i with
  | zero => intro a _; rfl
  | succ i ih =>
    intro a h
    rw [rHs, xur_ne (by omega), rG_ne (by omega)]
    exact ih a (by omega)
theorem iHs_ne : ∀ (i a : Nat), 32 + 13 * i ≤ a ∨ a < 32 → iHs I i a = I a := by
  intro i
  induction i with
  | zero => intro a _; rfl
  | succ i ih =>
    intro a h
    rw [iHs, xup_ne (by omega)]
    exact ih a (by omega)
set_option maxRecDepth 100000 in
set_option maxHeartbeats 4000000 in
theorem cH_init (hr : ∀ a, 31 ≤ a → r a = fun _ => none) (hI : ∀ a, 31 ≤ a → I a = fun _ => 0) : XRa 5 79 948 [.inr 30] (31, r, I) none (110, rHs (xur r 30 0 31) 6, iHs I 6) := by
  refine XRa.of (by decide) (Nat.le_of_ble_eq_true rfl) ?_
  have hr1 : ∀ i a, 32 + 13 * i ≤ a → rHs (xur r 30 0 31) i a = fun _ => none := fun i a w => by
    rw [rHs_ne i a w, xur_ne (by omega)]
    exact hr a (by omega)
  have hI1 : ∀ i a, 32 + 13 * i ≤ a → iHs I i a = fun _ => 0 := fun i a w => by
    rw [iHs_ne i a (Or.inl w)]
    exact hI a (by omega)
  have it : ∀ i : Nat, i < 6 → XEa 5 79 948 (1 + 13 * (i + 1)) (6 + 157 * (i + 1)) none (110, rHs (xur r 30 0 31) 6, iHs I 6) 20 [(1, .inl ((i + 1 : Nat) : Int)), (0, .inr 30)] [.inr 31, .inl ((i + 1 : Nat) : Int)] (32 + 13 * (i + 1), rHs (xur r 30 0 31) (i + 1), iHs I (i + 1)) → XEa 5 79 948 (1 + 13 * i) (6 + 157 * i) none (110, rHs (xur r 30 0 31) 6, iHs I 6) 20 [(1, .inl (i : Int)), (0, .inr 30)] [.inr 31, .inl (i : Int)] (32 + 13 * i, rHs (xur r 30 0 31) i, iHs I i) := by
    intro i hi k
    have hr2 := hr1 i
    have hI2 := hI1 i
    have e1 : rHs (xur r 30 0 31) (i + 1) = xur (rG (rHs (xur r 30 0 31) i) (32 + 13 * i)) 31 i (32 + 13 * i) := rfl
    have e2 : iHs I (i + 1) = xup (iHs I i) (32 + 13 * i) 6 1 := rfl
    have e3 : rHs (xur r 30 0 31) i 30 0 = some 31 := by
      have hc : i = 0 ∨ i = 1 ∨ i = 2 ∨ i = 3 ∨ i = 4 ∨ i = 5 := by omega
      rcases hc with rfl | rfl | rfl | rfl | rfl | rfl <;> rfl
    rw [e1, e2] at k
    generalize rHs (xur r 30 0 31) i = r1 at *
    generalize iHs I i = I1 at *
    have hc : i = 0 ∨ i = 1 ∨ i = 2 ∨ i = 3 ∨ i = 4 ∨ i = 5 := by omega
    rcases hc with rfl | rfl | rfl | rfl | rfl | rfl
    all_goals
      refine x_alen (len := 6) rfl (by decide) rfl ?_
      refine x_le rfl (by decide) (by decide) (fun w => absurd w (by decide)) (fun w => ?_)
      refine x_step rfl ?_
      refine x_getr rfl (by decide) (by decide) rfl (by decide) (by decide +kernel) e3 ?_
      refine x_step rfl ?_
      refine x_new rfl (by decide) rfl (by decide) (hr2 _ (by decide)) (hI2 _ (by decide)) ⟨by decide, by decide⟩ ?_
      refine x_step rfl ?_
      refine x_init rfl (by decide) (Or.inr rfl) (by decide) rfl rfl (Nat.le_of_ble_eq_true rfl) (cG_init _ (by decide) (fun a w => hr2 a (by omega)) (fun a w => hI2 a (by omega))) ⟨by decide, by decide⟩ ?_
      refine x_aast rfl (by decide) (by decide) rfl (by decide) (by decide) (by decide) rfl ?_
      refine x_step rfl ?_
      refine x_step rfl ?_
      refine x_step rfl ?_
      refine x_step rfl ?_
      refine x_getr rfl (by decide) (by decide) rfl (by decide) (by decide +kernel) (by rw [xur_ne (by decide), rG_ne (by decide)]; exact e3) ?_
      exact x_loc (by exact ⟨rfl, rfl, trivial⟩) k
  refine x_step rfl ?_
  refine x_obj rfl (by decide) (by decide) (Nat.le_of_ble_eq_true rfl) ?_
  refine x_step rfl ?_
  refine x_step rfl ?_
  refine x_newR (len := 6) rfl (by decide) rfl rfl (by decide) (hr 31 (by decide)) ⟨by decide, by decide⟩ ?_
  refine x_putr rfl (by decide) (by decide) rfl (by decide) (by decide +kernel) rfl (by decide +kernel) ?_
  refine x_step rfl ?_
  refine x_step rfl ?_
  refine x_step rfl ?_
  refine x_step rfl ?_
  refine x_getr (q := 31) rfl (by decide) (by decide) rfl (by decide) (by decide +kernel) rfl ?_
  refine x_loc (by exact ⟨rfl, rfl, trivial⟩) (it 0 (by decide) (it 1 (by decide) (it 2 (by decide) (it 3 (by decide) (it 4 (by decide) (it 5 (by decide) ?_))))))
  refine x_alen (len := 6) rfl (by decide) rfl ?_
  refine x_le rfl (by decide) (by decide) (fun w => ?_) (fun w => absurd (by decide) w)
  exact x_vret rfl rfl rfl
end CINIT
