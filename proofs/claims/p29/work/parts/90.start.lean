/-! THE CLAIM OUT OF ONE WALK OF THE LAW'S BODY. Your part is whole_start (and what it stands on); all else here is the same for every law, but numbers. -/
def R_law : String := "CrosswordBoardLaw"
def lw_P (b : Addr) (xs : List Int32) (args : Array Value) (s : State) : Prop := args = #[.ref b] ∧ s.IntsAt b xs ∧ xs.length ≤ 260 ∧ (Jvm.Cond.and given_1 narrow_1).before args s = true
/-- what a walk over the start with the record d0 says of its end, said of the start itself -/
theorem lw_closed {s t : State} {o : Outcome} {d0 : Drawn} {L : List Loc} {k n : Nat} (hd0 : s.drawn.sameBut d0 lw_cs) (hv : ∃ v, o = .returned v) (hW : (s.setDrawn d0).WarmedH t.vm) (hs : (s.setDrawn d0).sameButNew ({ t with vm := s.vm } : State) L k n) : State.butDraws s t lw_cs (fun t1 => Framed s o t1 L k n) := by
  have h2 : t.drawn = d0 := congrArg State.drawn hs.1
  refine ⟨⟨hv, hW, State.sameButNew.setDrawn hs s.drawn⟩, ?_, by decide⟩
  rw [h2]
  exact hd0
def lw_Q (_ : Array Value) (s : State) (o : Outcome) (t : State) : Prop := o = .returned (some (.int 1)) ∧ State.butDraws s t lw_cs (fun t1 => Framed s o t1 [] 600000 7302250)
def lw_Z (below : List Frame) (a : Array Value) (s : State) : State → Prop := fun t => ∃ o, t.status = .running ∧ Ended t below o ∧ lw_Q a s o t
/-- the law's own end, with 1 on the stack, nothing written that was there before, its room as the claim has it; d0: the record of draws at this point (at the entry s.drawn: begin with 'refine W.base ?_' and 'have hd0 := Drawn.sameBut.refl s.drawn lw_cs') -/
theorem lw_ret {p : Program} {l : Launch} {e : Env} {s : State} {m : MethodId} {below : List Frame} {meth : Method} {c : Code} {b : Nat} {d0 : Drawn} (hd0 : s.drawn.sameBut d0 lw_cs) (hx : p.tables.exec = Jvm.exec) (hb : c.code = code) (hr : meth.sig.returnType = ret) (hlocks : meth.locks = false) {pc : Nat} {H : Heap} {ls : Array Slot} (hdg : decode code pc = .ok (.ireturn, 1)) : W p l e room_1 (s.setDrawn d0) m #[Value.ref b] below meth c H [] 600000 7302250 (lw_Z below #[Value.ref b] s) (F0 m pc ls [.int 1]) := by
  intro T hT X
  obtain ⟨fs, hret, hrun, hended, hW, hframe⟩ := X.leave (v := some (.int 1)) (hlocks := hlocks) (fun h => by rw [hr] at h; cases h)
  have hmeth' : T.vm.method? m = some meth := X.method'
  refine ⟨T.setFrames fs, ?_, .returned (some (.int 1)), hrun, hended, rfl, lw_closed hd0 ⟨_, rfl⟩ hW hframe⟩
  jvm_step X.here [X.here.top, hx, hb, hdg, hmeth', hr, ret, narrow_b1]
  (try refine ⟨rfl, ?_⟩); (try refine ⟨rfl, ?_⟩)
  first | (intro acts; rw [hret _ acts rfl rfl rfl]) | rw [hret _ _ rfl rfl rfl]
  exact Steps.refl _
/-- what holds at the law's entry: the machine, the code, the tables' words (any of lw_tbl by 'hts w (by decide +kernel)'), the script of L ints xs at the cell b, what the Statement gives of the start (any of its parts by flat_of_before) -/
def lw_At (p : Program) (s : State) (m : MethodId) (meth : Method) (c : Code) (b L : Nat) (xs : Nat → Int32) : Prop :=
  p.tables.exec = Jvm.exec ∧ c.code = code ∧ meth.sig.returnType = ret ∧ c.maxLocals = 5 ∧ s.vm.findClass R_law = some m.cls ∧ (∀ w ∈ lw_tbl, w.before #[Value.ref b] s = true) ∧ va_X b L xs s s.heap ∧ b < s.heap.size ∧ meth.locks = false ∧ (Jvm.Cond.and given_1 narrow_1).before #[Value.ref b] s = true ∧ meth.name = x.name
theorem xinst_ok : ∀ ci, ci < 10 → xInG (.instantiable (xcn ci) (xNF ci)) = true := by decide +kernel
theorem xover_ok : decide (Cond.arrayOver (.object "CrosswordBoard$Game") ∈ lw_tbl) = true := by decide +kernel
theorem xstV_ok : decide (Cond.laysStatic "CrosswordBoard" "VALUES" "[I" ∈ lw_tbl) = true ∧ decide (Cond.laysStatic "CrosswordBoard" "SUPPLY" "[I" ∈ lw_tbl) = true ∧ decide (Cond.initialized "CrosswordBoard" ∈ lw_tbl) = true := by decide +kernel
theorem xNest_of {w : Cond} (hw : w ∈ xNest) {A : Array Value} {U : State} (h : w.before A U = true) : va_Nw w U := by
  have h1 := (List.mem_filter.mp hw).2
  cases w <;> first | exact va_Nw.of rfl h | cases h1
theorem xVALS_of {A : Array Value} {s : State} (hs : ∀ w ∈ flatC (Jvm.Cond.and given_1 narrow_1), w.before A s = true) : ∀ j : Nat, j < 9 → (Term.elem (.static "CrosswordBoard" "VALUES" "[I") (.int (Int32.ofNat j))).eval A s none [] s = some (.int (zI (xVALS j))) := by
  intro j hj
  have h : j = 0 ∨ j = 1 ∨ j = 2 ∨ j = 3 ∨ j = 4 ∨ j = 5 ∨ j = 6 ∨ j = 7 ∨ j = 8 := by omega
  rcases h with rfl | rfl | rfl | rfl | rfl | rfl | rfl | rfl | rfl <;> exact va_eqt (hs _ (by decide +kernel))
theorem xSUPP_of {A : Array Value} {s : State} (hs : ∀ w ∈ flatC (Jvm.Cond.and given_1 narrow_1), w.before A s = true) : ∀ j : Nat, j < 9 → (Term.elem (.static "CrosswordBoard" "SUPPLY" "[I") (.int (Int32.ofNat j))).eval A s none [] s = some (.int (zI (xSUPP j))) := by
  intro j hj
  have h : j = 0 ∨ j = 1 ∨ j = 2 ∨ j = 3 ∨ j = 4 ∨ j = 5 ∨ j = 6 ∨ j = 7 ∨ j = 8 := by omega
  rcases h with rfl | rfl | rfl | rfl | rfl | rfl | rfl | rfl | rfl <;> exact va_eqt (hs _ (by decide +kernel))
/-- the context of the law's walk -/
theorem law_cx {p : Program} {s : State} {m : MethodId} {meth : Method} {c : Code} {b L : Nat} {xs : Nat → Int32} (hL : L ≤ 260) (C0 : lw_At p s m meth c b L xs) : ∃ G : XG, xCx 106 G p s m #[Value.ref b] meth c ∧ G.1.2.2.1 = s.heap.size ∧ G.1.2.2.2 = (b, L, xs) := by
  obtain ⟨hx, hb, hr, hml, hown, hts0, hX, hbl, hlocks, hgv, hnm⟩ := C0
  have hgood : ∀ w ∈ lw_good, w.before #[Value.ref b] s = true := fun w hw => hts0 w (List.mem_filter.mp hw).1
  have hK : ∀ ci : Nat, ∃ (cC : ClassId) (iS : Nat → Nat), ci < 10 → u_Kn s (xcn ci) (xTT ci) (xNF ci) cC iS := by
    intro ci
    by_cases h : ci < 10
    · obtain ⟨cC, iS, hk⟩ := u_known (ws := lw_good) hgood (fun w hw => xInG_of (xws_in ci h w hw)) (hgood _ (xInG_of (xinst_ok ci h)))
      exact ⟨cC, iS, fun _ => hk⟩
    · exact ⟨0, fun _ => 0, fun w => absurd w h⟩
  have hD : ∃ D : va_G, ∀ ci, ci < 10 → u_Kn s (xcn ci) (xTT ci) (xNF ci) (D.1 ci) (D.2 ci) := ⟨(fun ci => Classical.choose (hK ci), fun ci => Classical.choose (Classical.choose_spec (hK ci))), fun ci h => Classical.choose_spec (Classical.choose_spec (hK ci)) h⟩
  obtain ⟨D, hD⟩ := hD
  obtain ⟨cI, kI, compI, i1, i2, i3⟩ := Cond.arrayClass_spec (type := .int) (hgood _ (xInG_of xnew_in))
  have hover := hts0 _ (of_decide_eq_true xover_ok)
  obtain ⟨compG, cG, kG, g1, g2, g3, g4, g5⟩ := Cond.arrayOver_spec hover
  have hs := flat_of_before _ hgv
  have hA : ∀ a : Nat, a < s.heap.size → ¬ s.heap.size ≤ a := fun a h => Nat.not_le.mpr h
  obtain ⟨tV, v1, v2⟩ := va_Tof (A := fun q => s.heap.size ≤ q) (tm := .static "CrosswordBoard" "VALUES" "[I") (ty := .int) (N := 9) (f := fun j => .int (zI (xVALS j))) (by decide) (hs _ (by decide +kernel)) (va_eqt (hs _ (by decide +kernel))) (xVALS_of hs) hA
  obtain ⟨tS, s1, s2⟩ := va_Tof (A := fun q => s.heap.size ≤ q) (tm := .static "CrosswordBoard" "SUPPLY" "[I") (ty := .int) (N := 9) (f := fun j => .int (zI (xSUPP j))) (by decide) (hs _ (by decide +kernel)) (va_eqt (hs _ (by decide +kernel))) (xSUPP_of hs) hA
  have v3 : va_Z "CrosswordBoard" "VALUES" "[I" (.ref tV) (fun q => s.heap.size ≤ q) s s.heap := va_Zref (hts0 _ (of_decide_eq_true xstV_ok.1)) (hts0 _ (of_decide_eq_true xstV_ok.2.2)) v1 hA
  have s3 : va_Z "CrosswordBoard" "SUPPLY" "[I" (.ref tS) (fun q => s.heap.size ≤ q) s s.heap := va_Zref (hts0 _ (of_decide_eq_true xstV_ok.2.1)) (hts0 _ (of_decide_eq_true xstV_ok.2.2)) s1 hA
  have hKs : va_K D xCl [(cI, .int), (cG, .object "CrosswordBoard$Game")] s := by
    refine ⟨fun ci q hq => ?_, fun k q hq => ?_⟩
    · have hlt : ci < 10 := (List.getElem?_eq_some_iff.mp hq).1
      have e := xCl_at ci hlt
      rw [hq] at e
      cases e
      exact hD ci hlt
    · have hlt : k < 2 := (List.getElem?_eq_some_iff.mp hq).1
      have h2 : k = 0 ∨ k = 1 := by omega
      rcases h2 with rfl | rfl
      · cases hq
        exact ⟨fun n z => ⟨fun k h => (by cases h), kI, i2, compI, i3⟩, i1⟩
      · cases hq
        exact ⟨fun n z => ⟨fun k h => (by cases h), kG, g3, compG, g4⟩, kG, compG, g3, g4, g1, g5⟩
  obtain ⟨scr, x1, x2, x3, x4, x5⟩ := hX
  have hT : va_T .int b L (fun j => .int (xs j)) (fun q => s.heap.size ≤ q) s s.heap := ⟨scr, x1, x2, x3, by omega, by rw [x4], x5, hA b hbl⟩
  exact ⟨((tV, tS, s.heap.size, (b, L, xs)), D, cI, cG), ⟨by decide, hx, hb, hml, hown, hgood, hr, hlocks, hnm, ⟨hKs, fun w hw => xNest_of hw (hts0 w (List.mem_filter.mp hw).1), va_AO.of hover⟩, ⟨v3, s3, v2, s2, hT⟩⟩, rfl, rfl⟩
set_option maxHeartbeats 4000000 in
set_option maxRecDepth 100000 in
/-- from the entry, for every script, the law comes to its end with true -/
theorem whole_start {p : Program} {e : Env} {s : State} {m : MethodId} {below : List Frame} {meth : Method} {c : Code} (l : Launch) (hflags : l.flags = flags0) {b L : Nat} {xs : Nat → Int32} (hL : L ≤ 260) (C0 : lw_At p s m meth c b L xs) : W p l e room_1 s m #[Value.ref b] below meth c s.heap [] 0 0 (lw_Z below #[Value.ref b] s) (entryFrame m ([Value.ref b] : List Value).toArray 5) := by
  obtain ⟨G, C, hGs, hGb⟩ := law_cx hL C0
  obtain ⟨hx, hb, hr, hml, hown, hts0, hX0, hbl, hlocks, hgv, hnm⟩ := C0
  have d146 := (xdec (y := 106) (pc := 146) C.1 rfl).1
  have hG260 : G.1.2.2.2.2.1 ≤ 260 := by rw [hGb]; exact hL
  have ends : ∀ (cells slots : Nat) (Lc : XL) (h : XH), cells ≤ 600000 → slots ≤ 7302250 → xK 106 G p l e room_1 s m #[Value.ref b] below meth c (lw_Z below #[Value.ref b] s) cells slots 146 Lc [.inl 1] h := by
    intro cells slots Lc h hc hs
    intro H locs ls hR hS hL
    refine va_forget (fun q hq => ?_) ?_
    · have := hS.2.2 q hq
      unfold xA at this
      rw [hGs] at this
      exact this
    · refine W.widen (k := 600000) (n := 7302250) hc hs ?_
      refine W.base ?_
      show W p l e room_1 (s.setDrawn s.drawn) m #[Value.ref b] below meth c H [] 600000 7302250 (lw_Z below #[Value.ref b] s) (F0 m 146 ls [.int (zI 1)])
      rw [show zI 1 = 1 by decide +kernel]
      exact lw_ret (Drawn.sameBut.refl s.drawn lw_cs) hx hb hr hlocks d146
  have hl := lv_entry ([.ref b]) (n := 5) (Nat.le_of_ble_eq_true rfl)
  rw [lg_entry_eq]
  generalize (lg_sl ([.ref b]) ++ List.replicate (5 - (lg_sl ([.ref b])).length) Slot.unset).toArray = ls at hl ⊢
  have hl : lv_has ls 5 [(0, .ref b)] := hl
  have hR0 : xRel G (3, rN0, iN0) s.heap := ⟨⟨hGs.symm, fun t ht => by have ht : t < 0 := ht; omega⟩, by decide, by decide, fun k a b => by have b : k < 3 := b; omega⟩
  have hL0 : xLoc G ls 5 [(0, .inr 0)] := xLoc_has hl (fun q hq => by
    simp only [List.mem_cons, List.not_mem_nil, or_false] at hq
    subst hq
    show ((0 : Nat), Value.ref G.1.2.2.2.1) ∈ [((0 : Nat), Value.ref b)]
    rw [hGb]
    exact List.mem_cons_self)
  refine (?_ : xK 106 G p l e room_1 s m #[Value.ref b] below meth c (lw_Z below #[Value.ref b] s) 0 0 0 [(0, .inr 0)] [] (3, rN0, iN0)) s.heap [] ls hR0 va_S.rf hL0
  refine k_new C rfl (by decide) rfl (by decide) rfl rfl ⟨Nat.le_of_ble_eq_true rfl, Nat.le_of_ble_eq_true rfl⟩ ?_
  refine k_step C rfl ?_
  refine k_callI (as := []) (o := 3) (rest := [.inr 3]) C rfl (by decide) (Or.inl rfl) cB_init rfl (Nat.le_of_ble_eq_true rfl) rfl (by decide +kernel) ⟨Nat.le_of_ble_eq_true rfl, Nat.le_of_ble_eq_true rfl⟩ ?_
  refine k_step C rfl ?_
  refine k_rows (J := iS) (fun a w => xset_ne w) ?_
  exact k_loc (by exact ⟨rfl, rfl, trivial⟩) (L_body C hG260 ends)
