/-! the average in the class and in the reference -/
def xQf (G : XG) (q : UInt32) (h : XH) : Array Value → State → Outcome → State → Prop := fun _ st o t => o = .returned (some (.float q)) ∧ xRel G h t.heap ∧ va_F (xA G) st t
def XRf (y : Nat) (as : List XV) (h : XH) (q : UInt32) : Prop := ∀ (l : Launch) (G : XG), Met l (xname y) (xws y) (xRm y 0 0) (xPc G as h) (xQf G q h) 0 0 (xA G)
theorem xMet_of {y mc ms : Nat} {as : List XV} {h : XH} {Q : XG → Array Value → State → Outcome → State → Prop} (hy : y < 106) (hn : as.length ≤ xml y)
    (K : ∀ (G : XG) (p : Program) (l : Launch) (e : Env) (s : State) (m : MethodId) (args : Array Value) (below : List Frame) (meth : Method) (c : Code), xCx y G p s m args meth c → xK y G p l e (xRm y mc ms) s m args below meth c (MQ below (Q G) args s mc ms (xA G)) 0 0 0 (xini 0 as) [] h) : ∀ (l : Launch) (G : XG), Met l (xname y) (xws y) (xRm y mc ms) (xPc G as h) (Q G) mc ms (xA G) := by
  intro l G
  refine Met.ofW (cc := xbytes y) (maxL := xml y) (ret := xret y) (xM_of hy).2.2.2.1 rfl ?_
  intro p e s m args below meth c s₁ B hml hv
  obtain ⟨rfl, hKs, hFor, hR⟩ := hv
  have hts := atoms_spec (ws := xws y) B.pre
  have hC : xCx y G p s m (as.map (xT G)).toArray meth c := ⟨by omega, B.exec, B.bytes, hml, by rw [← (xM_of hy).2.2.1]; exact findClass_of_methodNamed B.named, fun w hw => hts w (List.mem_cons_of_mem _ hw), B.returns, B.notSynchronized, (name_of_methodNamed B.named B.method).1, hKs, hFor⟩
  have hl := lv_entry (as.map (xT G)) (n := xml y) (by rw [xsl_len]; exact hn)
  rw [lg_entry_eq]
  exact K G p l e s m _ below meth c hC s.heap [] _ hR va_S.rf ⟨hl.1, hl.2.1, fun k w hk => hl.2.2 (k, xT G w) (xini_args as 0 k w hk)⟩
section AVG
variable {y : Nat} {G : XG} {p : Program} {l : Launch} {e : Env} {R : Room} {s : State} {m : MethodId} {args : Array Value} {below : List Frame} {meth : Method} {c : Code} {Q : State → Prop} {cells slots : Nat} {H : Heap} {locs : List Loc} {ls : Array Slot}
variable {pc nx a b : Nat} {k : Int} {rest : List Value} {h : XH}
theorem w_getv {idx o : Nat} (C : xCx y G p s m args meth c) (hd : xlook (xcode y) pc = some (.getfield idx, nx, k, a, b)) (ho : 3 ≤ o) (ho2 : o < h.1) (hk : xKd o = a) (ha : a < 10) (hR : xRel G h H)
    (kk : W p l e R s m args below meth c H locs cells slots Q (F0 m nx ls (xvl G h a o b :: rest))) : W p l e R s m args below meth c H locs cells slots Q (F0 m pc ls (.ref (xph G o) :: rest)) := by
  obtain ⟨hdg, rfl, hlk⟩ := xd1 C (fun _ _ _ _ q => by cases q) hd
  have hm : (xown y, idx, a, b) ∈ xFL := of_decide_eq_true hlk
  obtain ⟨hb, hl⟩ := xFL_of hm
  obtain ⟨cell, q1, q2, q3, q4⟩ := xAt_obj (hR.2.2.2 o ho ho2) hk ha (by have := hR.2.2.1; omega)
  obtain ⟨hSl, hfc, kC, hkC, hkind⟩ := C.2.2.2.2.2.2.2.2.2.1.1.1 a _ (xCl_at a ha)
  obtain ⟨cf, kf, fi, f, hi, hsl⟩ := hSl b hb
  have hts := C.2.2.2.2.2.1
  refine W.getf C.2.1 C.2.2.1 C.2.2.2.2.1 (hts _ hl) hi (u_facts hfc hkC (u_lays hts (fun w hw => xInG_of (xws_in a ha w hw)) hb) hi).1 q1 (by rw [q3]; exact fun h => by cases h) (v := xvl G h a o b) ?_ rfl rfl hdg kk
  rw [hsl, q4 b hb]
theorem w_getr {idx o q : Nat} (C : xCx y G p s m args meth c) (hd : xlook (xcode y) pc = some (.getfield idx, nx, k, a, b)) (ho : 3 ≤ o) (ho2 : o < h.1) (hk : xKd o = a) (ha : a < 10) (hf : xFk a b = 2) (hq : h.2.1 o b = some q) (hR : xRel G h H)
    (kk : W p l e R s m args below meth c H locs cells slots Q (F0 m nx ls (.ref (xph G q) :: rest))) : W p l e R s m args below meth c H locs cells slots Q (F0 m pc ls (.ref (xph G o) :: rest)) := by
  refine w_getv C hd ho ho2 hk ha hR ?_
  unfold xvl
  rw [if_pos hf, hq]
  exact kk
theorem w_geti {idx o : Nat} (C : xCx y G p s m args meth c) (hd : xlook (xcode y) pc = some (.getfield idx, nx, k, a, b)) (ho : 3 ≤ o) (ho2 : o < h.1) (hk : xKd o = a) (ha : a < 10) (hf : xFk a b ≠ 2) (hR : xRel G h H)
    (kk : W p l e R s m args below meth c H locs cells slots Q (F0 m nx ls (.int (zI (h.2.2 o b)) :: rest))) : W p l e R s m args below meth c H locs cells slots Q (F0 m pc ls (.ref (xph G o) :: rest)) := by
  refine w_getv C hd ho ho2 hk ha hR ?_
  unfold xvl
  rw [if_neg hf]
  exact kk
theorem w_iald {o : Nat} {x : Int} (C : xCx y G p s m args meth c) (hd : xlook (xcode y) pc = some (.iaload, nx, k, a, b)) (ho : 3 ≤ o) (ho2 : o < h.1) (hk : xKd o = 10) (hx0 : 0 ≤ x) (hx : x < xLn o) (hR : xRel G h H)
    (kk : W p l e R s m args below meth c H locs cells slots Q (F0 m nx ls (.int (zI (h.2.2 o x)) :: rest))) : W p l e R s m args below meth c H locs cells slots Q (F0 m pc ls (.int (zI x) :: .ref (xph G o) :: rest)) := by
  obtain ⟨hdg, rfl, hlk⟩ := xd1 C (fun _ _ _ _ q => by cases q) hd
  have ho3 : o < 117 := by have := hR.2.2.1; omega
  have hsm := xLn_small o ho3
  have hc := xAt_int (hR.2.2.2 o ho ho2) hk
  refine W.iald (v := .int (zI (h.2.2 o x))) C.2.1 C.2.2.1 hc (xArr (t := 0) C rfl (xLn o) (fun j => .int (zI (h.2.2 o j)))) (fun q => by cases q) (j := zI x) ?_ ?_ rfl rfl hdg kk
  · rw [arrV_size]
    exact zI_in hx0 hx (by omega)
  · rw [zI_clamp hx0 ⟨by omega, by omega⟩, arrV_read _ _ (by omega), Int.toNat_of_nonneg hx0]
theorem w_fret {mc ms : Nat} {q : UInt32} (C : xCx y G p s m args meth c) (hr : xret y = some .float) (hdg : decode (xbytes y) pc = .ok (.freturn, 1)) (hR : xRel G h H) (hS : va_S (xA G) s.heap H locs) : W p l e R s m args below meth c H locs mc ms (MQ below (xQf G q h) args s mc ms (xA G)) (F0 m pc ls [.float q]) :=
  W.fret C.2.1 C.2.2.1 (by rw [C.2.2.2.2.2.2.1, hr]) (fun t ht hW => ⟨rfl, by rw [ht]; exact hR, hS.F ht⟩) hS.2.2 hdg C.2.2.2.2.2.2.2.1
end AVG
theorem cB_average (I : Nat → Int → Int) : XRf mB_average [.inr 3] (hN I) (avF (zI (I 4 8 + I 4 9)) (zI (I 4 10))) := by
  refine xMet_of (by decide) (Nat.le_of_ble_eq_true rfl) ?_
  intro G p l e s m args below meth c C
  have d7 := (xdec (y := 50) (pc := 7) C.1 rfl).1
  have d10 := (xdec (y := 50) (pc := 10) C.1 rfl).1
  have d11 := (xdec (y := 50) (pc := 11) C.1 rfl).1
  have d27 := (xdec (y := 50) (pc := 27) C.1 rfl).1
  have d28 := (xdec (y := 50) (pc := 28) C.1 rfl).1
  have d35 := (xdec (y := 50) (pc := 35) C.1 rfl).1
  have d36 := (xdec (y := 50) (pc := 36) C.1 rfl).1
  have d37 := (xdec (y := 50) (pc := 37) C.1 rfl).1
  repeat refine k_step C rfl ?_
  intro H locs ls hR hS hL
  refine lv_if_ne (tgt := 12) C.2.1 C.2.2.1 d7 (by decide) (fun hn => ?_) (fun hz => ?_)
  · refine (?_ : xK 50 G p l e (xRm 50 0 0) s m args below meth c (MQ below (xQf G (avF (zI (I 4 8 + I 4 9)) (zI (I 4 10))) (hN I)) args s 0 0 (xA G)) 0 0 12 [(0, .inr 3)] [] (hN I)) H locs ls hR hS hL
    have ea : avF (zI (I 4 8 + I 4 9)) (zI (I 4 10)) = FP.fdiv (FP.i2f (zI (I 4 8 + I 4 9))) (FP.i2f (zI (I 4 10))) := if_neg hn
    have en : vf_n32 (FP.fdiv (FP.i2f (zI (I 4 8 + I 4 9))) (FP.i2f (zI (I 4 10)))) := xnn32 (avQ hn)
    rw [ea]
    repeat refine k_step C rfl ?_
    intro H locs ls hR hS hL
    refine lv_i2f C.2.1 C.2.2.1 d27 ?_
    refine lv_aload_n C.2.1 C.2.2.1 d28 rfl (hL.2.2 0 (.inr 3) rfl) ?_
    refine w_getr (q := 4) C rfl (by decide) (Nat.le_of_ble_eq_true rfl) rfl (by decide) (by decide +kernel) rfl hR ?_
    refine w_geti C rfl (by decide) (Nat.le_of_ble_eq_true rfl) rfl (by decide) (by decide +kernel) hR ?_
    refine lv_i2f C.2.1 C.2.2.1 d35 ?_
    refine lv_fdiv C.2.1 C.2.2.1 d36 en ?_
    exact w_fret C rfl d37 hR hS
  · have ea : avF (zI (I 4 8 + I 4 9)) (zI (I 4 10)) = FP.fconst0 := if_pos hz
    rw [ea]
    refine lv_fconst0 C.2.1 C.2.2.1 d10 ?_
    exact w_fret C rfl d11 hR hS