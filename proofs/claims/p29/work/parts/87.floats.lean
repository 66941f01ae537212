/-! calls with a float below, the average held against a quotient; rows counted from nothing -/
theorem avC32 {a b : Int32} : FP.fcmp (avF a b) (avF a b) = some .eq := Jvm.FP.Core.fcmp_refl avN
section WCALL
variable {y : Nat} {G : XG} {p : Program} {l : Launch} {e : Env} {R : Room} {s : State} {m : MethodId} {args : Array Value} {below : List Frame} {meth : Method} {c : Code} {Q : State → Prop} {cells slots : Nat}
variable {pc nx a b : Nat} {k : Int} {h : XH}
/-- a call that answers a float -/
theorem w_callF {idx y' o : Nat} {q : UInt32} {H : Heap} {locs : List Loc} {ls : Array Slot} (C : xCx y G p s m args meth c) (hRm : xfr y ≤ R.frames ∧ 41 * xfr y ≤ R.locals) (hd : xlook (xcode y) pc = some (.invokevirtual idx, nx, k, y', b)) (hy' : y' < 106) (hb : b = 0) (hM : XRf y' [.inr o] h q) (ho : 3 ≤ o) (ho2 : o < h.1) (hk : xKd o = xown y') (hk2 : xKd o < 10) (hn : 0 = xnp y') (hfr : xfr y' < xfr y) (hc : cells ≤ R.cells ∧ slots ≤ R.slots) (hsz : ls.size = xml y) (hRl : xRel G h H) (hS : va_S (xA G) s.heap H locs)
    (kk : ∀ (H1 : Heap) (locs1 : List Loc), xRel G h H1 → va_S (xA G) s.heap H1 locs1 → W p l e R s m args below meth c H1 locs1 cells slots Q (F0 m nx ls [.float q])) : W p l e R s m args below meth c H locs cells slots Q (F0 m pc ls [.ref (xph G o)]) := by
  obtain ⟨hdg, rfl, hlk⟩ := xd1 C (fun _ _ _ _ q => by cases q) hd
  subst hb
  have hm : (xown y, idx, y', 0) ∈ xML := by
    have h1 : (Nat.ble 900 y' || decide ((xown y, idx, y', 0) ∈ xML)) = true := hlk
    rw [Bool.or_eq_true, decide_eq_true_eq] at h1
    rcases h1 with h1 | h1
    · have := Nat.le_of_ble_eq_true h1
      omega
    · exact h1
  obtain ⟨q0, -, hq1, hq2⟩ := xML_of hm
  simp only [xMLok, hq1, Bool.and_eq_true] at hq2
  obtain ⟨w1, w2, w3, w4, w5, w6, w7, w8⟩ := xM_of hy'
  have hgood : GoodIn lw_good (wsV (xcn (xown y)) idx (xname y').cls (xname y') (xws y')) := by
    intro w hw
    unfold wsV at hw
    rcases List.mem_append.mp hw with hw | hw
    · simp only [List.mem_cons, List.not_mem_nil, or_false] at hw
      rcases hw with rfl | rfl | rfl | rfl
      · exact xGood _ (xIg_of hq2.1.1)
      · exact xGood _ (xIg_of hq2.1.2)
      · exact xGood _ (xIg_of hq2.2)
      · exact xGood _ w2
    · exact xwsGood hy' _ hw
  have ho3 : o < 117 := by have := hRl.2.2.1; omega
  obtain ⟨cell, g1, g2, g3, -⟩ := xAt_obj (hRl.2.2.2 o ho ho2) rfl hk2 ho3
  have hRm2 : xfr y' + 1 ≤ R.frames ∧ 8 + (xml y' + 11) + 41 * xfr y' ≤ R.locals := by omega
  have hrun : va_Run p l e R s m args below meth c H locs cells slots 0 0 (F0 m pc ls [.ref (xph G o)]) [] (xQf G q h (Value.ref (xph G o) :: ([] : List Value)).toArray) (xA G) := by
    refine va_runV (As := []) (rest := []) (C := (xname y').cls) (n := xnp y') (bytes := xbytes y') (maxL := xml y') (ret := xret y') (ws := xws y') (rm := xRm y' 0 0) (xCF C) (hM l G) (cwV (xnp y') C.2.2.2.2.2.1 hgood rfl rfl rfl ⟨rfl, w5, w6, w7⟩ hRm2) ⟨xPc_blind, ⟨cell, g1, by rw [g3]; rfl, ?_⟩, fun U hU hW => xPc_at (as := [.inr o]) C hRl hS U hU hW⟩ rfl hn hsz rfl (Nat.zero_le _) hdg hc
    rw [g2, w3, ← hk]
    exact (C.2.2.2.2.2.2.2.2.2.1.1.1 _ _ (xCl_at _ hk2)).2.1
  intro T hT X
  obtain ⟨w, st₀, t, T', L', h0, X', hL', e1, e2, ⟨hv, hR1, hF⟩, stp⟩ := hrun T hT X
  have hw : w = some (.float q) := by cases hv; rfl
  subst hw
  rw [← e1] at hR1
  have hS1 : va_S (xA G) s.heap T'.heap (locs ++ L') := by
    refine ⟨?_, ?_, ?_⟩
    · have := hF.1
      rw [h0, ← e1] at this
      exact Nat.le_trans hS.1 this
    · intro u q1 q2
      have h5 := hF.2 u (by rw [h0]; exact Nat.lt_of_lt_of_le q1 hS.1) q2
      rw [e1, h5, h0]
      exact hS.2.1 u q1 q2
    · intro u hu
      rcases List.mem_append.mp hu with h6 | h6
      · exact hS.2.2 u h6
      · exact hL' u h6
  obtain ⟨t2, a1, b1⟩ := kk T'.heap (locs ++ L') hR1 hS1 T' rfl X'
  exact ⟨t2, stp t2 a1, b1⟩
/-- a call with any values below -/
theorem w_callI {idx y' o : Nat} {as : List XV} {rest : List Value} {v : XV} {H : Heap} {locs : List Loc} {ls : Array Slot} (C : xCx y G p s m args meth c) (hRm : xfr y ≤ R.frames ∧ 41 * xfr y ≤ R.locals) (hd : xlook (xcode y) pc = some (.invokevirtual idx, nx, k, y', b)) (hy' : y' < 106) (hb : b = 0) (hM : XR y' (.inr o :: as) h (some v) h) (ho : 3 ≤ o) (ho2 : o < h.1) (hk : xKd o = xown y') (hk2 : xKd o < 10) (hn : as.length = xnp y') (hr : (rest.map fun v => v.category).sum ≤ 8) (hfr : xfr y' < xfr y) (hc : cells ≤ R.cells ∧ slots ≤ R.slots) (hsz : ls.size = xml y) (hRl : xRel G h H) (hS : va_S (xA G) s.heap H locs)
    (kk : ∀ (H1 : Heap) (locs1 : List Loc), xRel G h H1 → va_S (xA G) s.heap H1 locs1 → W p l e R s m args below meth c H1 locs1 cells slots Q (F0 m nx ls (xT G v :: rest))) : W p l e R s m args below meth c H locs cells slots Q (F0 m pc ls ((as.map (xT G)).reverse ++ .ref (xph G o) :: rest)) := by
  obtain ⟨hdg, rfl, hlk⟩ := xd1 C (fun _ _ _ _ q => by cases q) hd
  subst hb
  have hm : (xown y, idx, y', 0) ∈ xML := by
    have h1 : (Nat.ble 900 y' || decide ((xown y, idx, y', 0) ∈ xML)) = true := hlk
    rw [Bool.or_eq_true, decide_eq_true_eq] at h1
    rcases h1 with h1 | h1
    · have := Nat.le_of_ble_eq_true h1
      omega
    · exact h1
  obtain ⟨q0, -, hq1, hq2⟩ := xML_of hm
  simp only [xMLok, hq1, Bool.and_eq_true] at hq2
  obtain ⟨w1, w2, w3, w4, w5, w6, w7, w8⟩ := xM_of hy'
  have hgood : GoodIn lw_good (wsV (xcn (xown y)) idx (xname y').cls (xname y') (xws y')) := by
    intro w hw
    unfold wsV at hw
    rcases List.mem_append.mp hw with hw | hw
    · simp only [List.mem_cons, List.not_mem_nil, or_false] at hw
      rcases hw with rfl | rfl | rfl | rfl
      · exact xGood _ (xIg_of hq2.1.1)
      · exact xGood _ (xIg_of hq2.1.2)
      · exact xGood _ (xIg_of hq2.2)
      · exact xGood _ w2
    · exact xwsGood hy' _ hw
  have ho3 : o < 117 := by have := hRl.2.2.1; omega
  obtain ⟨cell, g1, g2, g3, -⟩ := xAt_obj (hRl.2.2.2 o ho ho2) rfl hk2 ho3
  have hRm2 : xfr y' + 1 ≤ R.frames ∧ 8 + (xml y' + 11) + 41 * xfr y' ≤ R.locals := by omega
  have hrun : va_Run p l e R s m args below meth c H locs cells slots 0 0 (F0 m pc ls ((as.map (xT G)).reverse ++ .ref (xph G o) :: rest)) rest (xQ G (some v) h (Value.ref (xph G o) :: as.map (xT G)).toArray) (xA G) := by
    refine va_runV (As := as.map (xT G)) (rest := rest) (C := (xname y').cls) (n := xnp y') (bytes := xbytes y') (maxL := xml y') (ret := xret y') (ws := xws y') (rm := xRm y' 0 0) (xCF C) (hM l G) (cwV (xnp y') C.2.2.2.2.2.1 hgood rfl rfl rfl ⟨rfl, w5, w6, w7⟩ hRm2) ⟨xPc_blind, ⟨cell, g1, by rw [g3]; rfl, ?_⟩, fun U hU hW => xPc_at (as := .inr o :: as) C hRl hS U hU hW⟩ rfl (by rw [List.length_map]; exact hn) hsz rfl (lv_room hr) hdg hc
    rw [g2, w3, ← hk]
    exact (C.2.2.2.2.2.2.2.2.2.1.1.1 _ _ (xCl_at _ hk2)).2.1
  intro T hT X
  obtain ⟨w, st₀, t, T', L', h0, X', hL', e1, e2, ⟨hv, hR1, hF⟩, stp⟩ := hrun T hT X
  have hw : w = some (xT G v) := by cases hv; rfl
  subst hw
  rw [← e1] at hR1
  have hS1 : va_S (xA G) s.heap T'.heap (locs ++ L') := by
    refine ⟨?_, ?_, ?_⟩
    · have := hF.1
      rw [h0, ← e1] at this
      exact Nat.le_trans hS.1 this
    · intro u q1 q2
      have h5 := hF.2 u (by rw [h0]; exact Nat.lt_of_lt_of_le q1 hS.1) q2
      rw [e1, h5, h0]
      exact hS.2.1 u q1 q2
    · intro u hu
      rcases List.mem_append.mp hu with h6 | h6
      · exact hS.2.2 u h6
      · exact hL' u h6
  obtain ⟨t2, a1, b1⟩ := kk T'.heap (locs ++ L') hR1 hS1 T' rfl X'
  exact ⟨t2, stp t2 a1, b1⟩
end WCALL
/-! a row counted from nothing -/
def nzI (I : Nat → Int → Int) : Nat → Int → Int := xup I 0 0 ((I 0 0).toNat : Int)
theorem nzI_ne {I : Nat → Int → Int} {a : Nat} (h : a ≠ 0) : nzI I a = I a := xup_ne h
theorem nzI_0 (I : Nat → Int → Int) : nzI I 0 0 = ((I 0 0).toNat : Int) := by unfold nzI; rw [xup_at, if_pos rfl]
theorem xRel_nz {G : XG} {r : Nat → Nat → Option Nat} {I : Nat → Int → Int} {H : Heap} (hR : xRel G (117, r, I) H) : xRel G (117, r, nzI I) H := by
  have e0 : exN (117, r, nzI I) = exN (117, r, I) := by
    rw [exN_117, exN_117, nzI_0]
    omega
  refine ⟨⟨by rw [e0]; exact hR.1.1, fun t ht => ?_⟩, hR.2.1, hR.2.2.1, fun k k3 kn => ?_⟩
  · rw [e0] at ht
    have h3 := hR.1.2 t ht
    unfold xEx at h3 ⊢
    dsimp only at h3 ⊢
    rw [nzI_ne (by omega)]
    exact h3
  · have h3 := hR.2.2.2 k k3 kn
    unfold xAt at h3 ⊢
    unfold xvl at h3 ⊢
    dsimp only at h3 ⊢
    rw [nzI_ne (by omega)]
    exact h3
theorem XRa_pre {y mc ms : Nat} {as : List XV} {I : Nat → Int → Int} {v : Option XV} {h' : XH} (hB : XRa y mc ms as (hN (nzI I)) v h') : XRa y mc ms as (hN I) v h' := by
  intro l G p e ha hc hk s m args below hf happ hP ht
  exact hB l G p e ha hc hk s m args below hf happ ⟨hP.1, hP.2.1, hP.2.2.1, xRel_nz hP.2.2.2⟩ ht
theorem cL_isBoardN {I : Nat → Int → Int} (h : SIM I) (x : Int) : ∃ J, XRa mL_isBoard 1 9 [.inr 3, .inl x] (hN I) (some (.inl 1)) (hN J) ∧ SIM J ∧ J 118 = I 118 := by
  have hS : SIM (nzI I) := h.fre (fun a w => nzI_ne (by omega))
  have e8 : nzI I 118 = I 118 := nzI_ne (by omega)
  exact ⟨_, XRa_pre (cL_isBoard hS (by rw [nzI_0]; omega) x), Hg_sim hS _, (Hg_e8 _).trans e8⟩
theorem cL_isBestN {I : Nat → Int → Int} (h : SIM I) : ∃ J, XRa mL_isBest 1 4 [.inr 3] (hN I) (some (.inl 1)) (hN J) ∧ SIM J ∧ J 118 = I 118 := by
  have hS : SIM (nzI I) := h.fre (fun a w => nzI_ne (by omega))
  have e8 : nzI I 118 = I 118 := nzI_ne (by omega)
  obtain ⟨J, g, x1, x2⟩ := cL_isBest hS (by rw [nzI_0]; omega)
  exact ⟨J, XRa_pre x1, FQ.sim (Hg_sim hS g) x2, (BH_8 x2).trans e8⟩
/-! the average behind a play -/
set_option maxHeartbeats 4000000 in
set_option maxRecDepth 100000 in
theorem act_avg {J : Nat → Int → Int} (hJ : SIM J) {pl : Int} (hp : J 118 109 = pl + 1) (h0 : 0 ≤ pl) (h1 : pl ≤ 1000) : XE mL_act (some (.inl 1)) (hN J) 223 [(8, .inl pl), (0, .inr 3)] [.inr 3] (hN J) := by
  intro G p l e s m args below meth c C
  have d226 := (xdec (y := 82) (pc := 226) C.1 rfl).1
  have d227 := (xdec (y := 82) (pc := 227) C.1 rfl).1
  have d231 := (xdec (y := 82) (pc := 231) C.1 rfl).1
  have d232 := (xdec (y := 82) (pc := 232) C.1 rfl).1
  have d236 := (xdec (y := 82) (pc := 236) C.1 rfl).1
  have d237 := (xdec (y := 82) (pc := 237) C.1 rfl).1
  have d238 := (xdec (y := 82) (pc := 238) C.1 rfl).1
  have d240 := (xdec (y := 82) (pc := 240) C.1 rfl).1
  have d241 := (xdec (y := 82) (pc := 241) C.1 rfl).1
  have d242 := (xdec (y := 82) (pc := 242) C.1 rfl).1
  have d243 := (xdec (y := 82) (pc := 243) C.1 rfl).1
  have d244 := (xdec (y := 82) (pc := 244) C.1 rfl).1
  have d245 := (xdec (y := 82) (pc := 245) C.1 rfl).1
  have F1 := B_average hJ
  have S0 := B_score hJ 0 (Or.inl rfl)
  have S1 := B_score hJ 1 (Or.inr rfl)
  rw [show (107 : Int) + 0 = 107 by rfl] at S0
  rw [show (107 : Int) + 1 = 108 by rfl] at S1
  rw [hp] at F1
  have hb : ¬ zI (pl + 1) = 0 := zI_ne0 (by omega) (by omega)
  have eA : avF (zI (J 118 107 + J 118 108)) (zI (pl + 1)) = FP.fdiv (FP.i2f (zI (J 118 107 + J 118 108))) (FP.i2f (zI (pl + 1))) := if_neg hb
  have nA : vf_n32 (FP.fdiv (FP.i2f (zI (J 118 107 + J 118 108))) (FP.i2f (zI (pl + 1)))) := xnn32 (avQ hb)
  have cA : FP.fcmp (FP.fdiv (FP.i2f (zI (J 118 107 + J 118 108))) (FP.i2f (zI (pl + 1)))) (FP.fdiv (FP.i2f (zI (J 118 107 + J 118 108))) (FP.i2f (zI (pl + 1)))) = some .eq := by rw [← eA]; exact avC32
  rw [eA] at F1
  intro H locs ls hR hS hL
  refine w_callF (y' := 50) C ⟨Nat.le_refl _, Nat.le_refl _⟩ rfl (by decide) rfl F1 (by decide) (Nat.le_of_ble_eq_true rfl) rfl (by decide) rfl (by decide) ⟨Nat.le_of_ble_eq_true rfl, Nat.le_of_ble_eq_true rfl⟩ hL.1 hR hS (fun H1 locs1 hR1 hS1 => ?_)
  refine lv_aload_n C.2.1 C.2.2.1 d226 rfl (hL.2.2 0 (.inr 3) rfl) ?_
  refine lv_iconst C.2.1 C.2.2.1 d227 (v := zI 0) rfl ?_
  refine w_callI (y' := 96) (as := [.inl 0]) (rest := [.float _]) (v := .inl (J 118 107)) C ⟨Nat.le_refl _, Nat.le_refl _⟩ rfl (by decide) rfl S0 (by decide) (Nat.le_of_ble_eq_true rfl) rfl (by decide) rfl (Nat.le_of_ble_eq_true rfl) (by decide) ⟨Nat.le_of_ble_eq_true rfl, Nat.le_of_ble_eq_true rfl⟩ hL.1 hR1 hS1 (fun H2 locs2 hR2 hS2 => ?_)
  refine lv_aload_n C.2.1 C.2.2.1 d231 rfl (hL.2.2 0 (.inr 3) rfl) ?_
  refine lv_iconst C.2.1 C.2.2.1 d232 (v := zI 1) rfl ?_
  refine w_callI (y' := 96) (as := [.inl 1]) (rest := [.int (zI (J 118 107)), .float _]) (v := .inl (J 118 108)) C ⟨Nat.le_refl _, Nat.le_refl _⟩ rfl (by decide) rfl S1 (by decide) (Nat.le_of_ble_eq_true rfl) rfl (by decide) rfl (Nat.le_of_ble_eq_true rfl) (by decide) ⟨Nat.le_of_ble_eq_true rfl, Nat.le_of_ble_eq_true rfl⟩ hL.1 hR2 hS2 (fun H3 locs3 hR3 hS3 => ?_)
  refine lv_iadd C.2.1 C.2.2.1 d236 ?_
  rw [show zI (J 118 107) + zI (J 118 108) = zI (J 118 107 + J 118 108) from (Int32.ofInt_add _ _).symm]
  refine lv_i2f C.2.1 C.2.2.1 d237 ?_
  refine lv_iload C.2.1 C.2.2.1 d238 (hL.2.2 8 (.inl pl) rfl) ?_
  refine lv_iconst C.2.1 C.2.2.1 d240 (v := zI 1) rfl ?_
  refine lv_iadd C.2.1 C.2.2.1 d241 ?_
  rw [show zI pl + zI 1 = zI (pl + 1) from (Int32.ofInt_add _ _).symm]
  refine lv_i2f C.2.1 C.2.2.1 d242 ?_
  refine lv_fdiv C.2.1 C.2.2.1 d243 nA ?_
  refine lv_fcmp C.2.1 C.2.2.1 d244 ?_
  rw [cA]
  refine lv_if_ne (tgt := 252) C.2.1 C.2.2.1 d245 (by decide) (fun hn => absurd rfl hn) (fun _ => ?_)
  refine (?_ : xK 82 G p l e (xRm 82 0 0) s m args below meth c (MQ below (xQ G (some (.inl 1)) (hN J)) args s 0 0 (xA G)) 0 0 248 [(0, .inr 3)] [] (hN J)) H3 locs3 ls hR3 hS3 ⟨hL.1, hL.2.1, fun k w hk => ?_⟩
  · have fin : XE 82 (some (.inl 1)) (hN J) 248 [(0, .inr 3)] [] (hN J) := by
      repeat refine x_step rfl ?_
      exact x_zret rfl rfl rfl (Or.inr rfl) rfl
    exact fin G p l e s m args below meth c C
  · refine hL.2.2 k w ?_
    exact xsub_get (L := [(8, .inl pl), (0, .inr 3)]) [(0, .inr 3)] (by exact ⟨rfl, trivial⟩) k w hk
