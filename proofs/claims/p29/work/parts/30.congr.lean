/-! what hangs on the squares of the board alone -/
def bdE (b b' : Int → Int) : Prop := ∀ j : Int, 0 ≤ j → j ≤ 80 → b j = b' j
theorem lfS_c {b b' : Int → Int} (h : bdE b b') : lfS b = lfS b' := by
  funext q d k
  unfold lfS
  generalize q / 9 + (if d = 0 then 0 else k) = r
  generalize q % 9 + (if d = 0 then k else 0) = c
  by_cases w : 0 ≤ r ∧ r < 9 ∧ 0 ≤ c ∧ c < 9
  · rw [if_pos w, if_pos w]
    exact h (9 * r + c) (by omega) (by omega)
  · rw [if_neg w, if_neg w]
theorem xsm_c {f g : Int → Int} : ∀ n : Nat, (∀ j : Int, 0 ≤ j → j < n → f j = g j) → xsm f n = xsm g n := by
  intro n
  induction n with
  | zero => intro _; rfl
  | succ n ih =>
    intro h
    unfold xsm
    rw [ih (fun j a b => h j a (by omega)), h n (by omega) (by omega)]
theorem toS_c {b b' : Int → Int} (h : bdE b b') : toS b = toS b' := by
  unfold toS
  refine xsm_c 81 (fun j h0 h1 => ?_)
  show (if b j = 0 then (0 : Int) else 1) = if b' j = 0 then 0 else 1
  rw [h j h0 (by omega)]
theorem anS_c {b b' : Int → Int} (h : bdE b b') {q : Int} (h0 : 0 ≤ q) (h1 : q ≤ 80) : anS b q = anS b' q := by
  unfold anS
  rw [lfS_c h, toS_c h, h q h0 h1]
theorem srS_c {b b' : Int → Int} (h : bdE b b') {q d : Int} (h0 : 0 ≤ q) (h1 : q ≤ 80) : srS b q d = srS b' q d := by
  unfold srS
  rw [lfS_c h, h q h0 h1]
theorem rnS_c {b b' : Int → Int} (h : bdE b b') (q d x : Int) : rnS b q d x = rnS b' q d x := by
  unfold rnS
  rw [lfS_c h]
theorem xwS_c {b b' : Int → Int} (h : bdE b b') : xwS b = xwS b' := by
  funext q d x
  unfold xwS otS
  rw [lfS_c h]
theorem ftF_c {b b' : Int → Int} (h : bdE b b') (q d : Int) : ∀ n, ftF b q d n = ftF b' q d n := by
  intro n
  induction n with
  | zero => rfl
  | succ n ih => unfold ftF; rw [ih, lfS_c h]
theorem woS_c {b b' : Int → Int} (h : bdE b b') (c q d : Int) : woS b c q d = woS b' c q d := by
  unfold woS smF crF neF
  rw [ftF_c h, lfS_c h, xwS_c h]
theorem alP_c {b b' : Int → Int} {W W' : Int → Prop} (h : bdE b b') (hW : ∀ c, W c ↔ W' c) (q d x : Int) : alP b W q d x ↔ alP b' W' q d x := by
  unfold alP
  rw [rnS_c h, hW]
theorem csF_c {b b' : Int → Int} {W W' : Int → Prop} (h : bdE b b') (hW : ∀ c, W c ↔ W' c) (q d : Int) : csF (alP b W q d) 8 = csF (alP b' W' q d) 8 := csF_congr (fun l _ _ => alP_c h hW q d l) 8 (by omega)
theorem nwF_c {b b' : Int → Int} (h : bdE b b') (c q d l : Int) (n : Nat) : nwF b c q d l n = nwF b' c q d l n := by
  unfold nwF
  rw [lfS_c h]
/-- the reasons, with the board, the list and the rack alike -/
theorem rfS_c {b b' : Int → Int} {W W' : Int → Prop} {rk rk' : Int → Int} (h : bdE b b') (hW : ∀ c, W c ↔ W' c) (hk : ∀ l : Int, 1 ≤ l → l ≤ 8 → rk l = rk' l) {c q d : Int} (h0 : 0 ≤ q) (h1 : q ≤ 80) (hd : d = 0 ∨ d = 1) : rfS b W rk c q d = rfS b' W' rk' c q d := by
  have hc0 := c0_R (d := d) h0 h1
  unfold rfS rf7
  refine sel_congr (by rw [hW]) (fun _ => ?_)
  refine sel_congr (Iff.refl _) (fun h9 => ?_)
  have hin : ∀ i, 0 ≤ i → i < lnS c → 0 ≤ atS q d i ∧ atS q d i ≤ 80 := fun i a b => by
    have := at_in (k := i) h0 h1 hd (by omega) (by omega)
    exact ⟨this.1, this.2.1⟩
  refine sel_congr (by unfold r3P; rw [lfS_c h]) (fun _ => ?_)
  refine sel_congr (by unfold r4P; rw [lfS_c h]) (fun _ => ?_)
  refine sel_congr (by unfold r5P; rw [lfS_c h]) (fun _ => ?_)
  refine sel_congr ?_ (fun _ => ?_)
  · unfold r6P
    exact ⟨fun w i a e => by rw [← anS_c h (hin i a e).1 (hin i a e).2]; exact w i a e, fun w i a e => by rw [anS_c h (hin i a e).1 (hin i a e).2]; exact w i a e⟩
  refine sel_congr ?_ (fun _ => ?_)
  · unfold r7P
    rw [lfS_c h]
    exact ⟨fun ⟨i, a, e, f, g⟩ => ⟨i, a, e, f, fun w => g ((alP_c h hW _ _ _).mpr w)⟩, fun ⟨i, a, e, f, g⟩ => ⟨i, a, e, f, fun w => g ((alP_c h hW _ _ _).mp w)⟩⟩
  refine sel_congr ?_ (fun _ => rfl)
  unfold r8P nwS
  exact ⟨fun ⟨l, a, e, f⟩ => ⟨l, a, e, by rw [← hk l a e, ← nwF_c h]; exact f⟩, fun ⟨l, a, e, f⟩ => ⟨l, a, e, by rw [hk l a e, nwF_c h]; exact f⟩⟩
