/-! the rules of the law's walk -/
section LAWR
variable {y : Nat} {G : XG} {p : Program} {l : Launch} {e : Env} {R : Room} {s : State} {m : MethodId} {args : Array Value} {below : List Frame} {meth : Method} {c : Code} {Q : State → Prop} {cells slots : Nat}
variable {pc nx a b : Nat} {k : Int} {L : XL} {S S' : List XV} {h : XH}
theorem k_calla {y' mc' ms' n : Nat} {as : List XV} {r : Nat → Nat → Option Nat} {I : Nat → Int → Int} {w : Option XV} {h1 : XH} (C : xCx y G p s m args meth c) (hRm : xfr y ≤ R.frames ∧ 41 * xfr y ≤ R.locals) (hs : xcl y pc n S = some (y', nx, as, S')) (hM : XRa y' mc' ms' as (n, r, I) w h1) (hc : cells + mc' ≤ R.cells ∧ slots + ms' ≤ R.slots) (kk : xK y G p l e R s m args below meth c Q (cells + mc') (slots + ms') nx L (w.toList ++ S') h1) : xK y G p l e R s m args below meth c Q cells slots pc L S (n, r, I) := by
  unfold xcl at hs
  split at hs
  · rename_i hd
    unfold xclV at hs
    obtain ⟨h1, h2⟩ := cond_some hs
    simp only [Bool.and_eq_true] at h1
    obtain ⟨q1, q2, q3⟩ := h1
    split at h2
    · rename_i o as t hsp
      obtain ⟨h3, h4⟩ := cond_some h2
      simp only [Bool.and_eq_true] at h3
      obtain ⟨e1, e2, e3, e4, e5⟩ := h3
      cases h4
      obtain ⟨q, l1, l2, l3⟩ := xsplit_spec _ _ _ _ _ hsp
      rw [List.append_nil] at l3
      have l4 : q = as.reverse ++ [.inr o] := by
        have := congrArg List.reverse l3
        rw [List.reverse_reverse, List.reverse_cons] at this
        exact this.symm
      have l5 : S = as.reverse ++ .inr o :: S' := by rw [l2, l4, List.append_assoc]; rfl
      rw [l5]
      have l6 : as.length = xnp y' := by
        have := congrArg List.length l4
        rw [l1] at this
        simp at this
        omega
      have hfr := blt_of q3
      have hml := (xM_of (blt_of q1)).2.2.2.2.2.2.2
      exact k_callV (h := (n, r, I)) C hd (blt_of q1) (Nat.eq_of_beq_eq_true q2) hM (Nat.le_of_ble_eq_true e1) (blt_of e2) (Nat.eq_of_beq_eq_true e3) (blt_of e4) l6 (Nat.le_of_ble_eq_true e5) (by omega) hc kk
    · cases h2
  · rename_i hd
    unfold xclS at hs
    obtain ⟨h1, h2⟩ := cond_some hs
    simp only [Bool.and_eq_true] at h1
    obtain ⟨q1, q2, q3, q4⟩ := h1
    split at h2
    · rename_i hsp
      obtain ⟨h3, h4⟩ := cond_some h2
      cases h4
      obtain ⟨q, l1, l2, l3⟩ := xsplit_spec _ _ _ _ _ hsp
      rw [List.append_nil] at l3
      have l4 : q = as.reverse := by rw [l3, List.reverse_reverse]
      rw [l2, l4]
      have l6 : as.length = xnp y' := by rw [l3, List.length_reverse, l1]
      have hfr := blt_of q4
      have hml := (xM_of (blt_of q1)).2.2.2.2.2.2.2
      have hb0 := blt_of q2
      have hb1 := blt_of q3
      exact k_callS (h := (n, r, I)) C hd (blt_of q1) (by omega) hM l6 (Nat.le_of_ble_eq_true h3) (by omega) hc kk
    · cases h2
  · cases hs
theorem k_eq {t f : Nat} {x z : Int} (C : xCx y G p s m args meth c) (hs : xbr y pc S = some (0, x, z, t, f, S')) (hx : InR x) (hz : InR z) (kt : x = z → xK y G p l e R s m args below meth c Q cells slots t L S' h) (kf : ¬ x = z → xK y G p l e R s m args below meth c Q cells slots f L S' h) : xK y G p l e R s m args below meth c Q cells slots pc L S h := k_br C hs hx hz kt kf
theorem k_lt {t f : Nat} {x z : Int} (C : xCx y G p s m args meth c) (hs : xbr y pc S = some (1, x, z, t, f, S')) (hx : InR x) (hz : InR z) (kt : x < z → xK y G p l e R s m args below meth c Q cells slots t L S' h) (kf : ¬ x < z → xK y G p l e R s m args below meth c Q cells slots f L S' h) : xK y G p l e R s m args below meth c Q cells slots pc L S h := k_br C hs hx hz kt kf
/-- the same value twice -/
theorem k_same {o x : Int} (C : xCx y G p s m args meth c) (hd : xlook (xcode y) pc = some (.if_icmp .eq o, nx, k, a, b)) (kt : xK y G p l e R s m args below meth c Q cells slots a L S h) : xK y G p l e R s m args below meth c Q cells slots pc L (.inl x :: .inl x :: S) h := by
  obtain ⟨hdg, rfl, hlk⟩ := xd1 C (fun _ _ _ _ q => by cases q) hd
  intro H locs ls hR hS hL
  exact lv_icmp_eq C.2.1 C.2.2.1 hdg (of_decide_eq_true hlk) (fun _ => kt H locs ls hR hS hL) (fun q => absurd rfl q)
theorem k_tswI {d lo hi off : Int} {offs : Array Int} {x : Int} {tgt : Nat} (C : xCx y G p s m args meth c) (hd : xlook (xcode y) pc = some (.tableswitch d lo hi offs, nx, k, a, b)) (hx : InR x) (h1 : lo ≤ x) (h2 : x ≤ hi) (ho : offs[(x - lo).toNat]? = some off) (ht : (pc : Int) + off = (tgt : Int)) (kk : xK y G p l e R s m args below meth c Q cells slots tgt L S h) : xK y G p l e R s m args below meth c Q cells slots pc L (.inl x :: S) h := by
  obtain ⟨hdg, -, -⟩ := xdec C.1 hd
  intro H locs ls hR hS hL
  exact lv_tableIn C.2.1 C.2.2.1 hdg (by rw [zI_toInt hx]; omega) (by rw [zI_toInt hx]; omega) (by rw [zI_toInt hx]; exact ho) ht (kk H locs ls hR hS hL)
theorem k_tswO {d lo hi : Int} {offs : Array Int} {x : Int} {tgt : Nat} (C : xCx y G p s m args meth c) (hd : xlook (xcode y) pc = some (.tableswitch d lo hi offs, nx, k, a, b)) (hx : InR x) (h1 : x < lo ∨ hi < x) (ht : (pc : Int) + d = (tgt : Int)) (kk : xK y G p l e R s m args below meth c Q cells slots tgt L S h) : xK y G p l e R s m args below meth c Q cells slots pc L (.inl x :: S) h := by
  obtain ⟨hdg, -, -⟩ := xdec C.1 hd
  intro H locs ls hR hS hL
  exact lv_tableOut C.2.1 C.2.2.1 hdg (by rw [zI_toInt hx]; exact h1) ht (kk H locs ls hR hS hL)
theorem k_loc {L' : XL} (hs : xsub L L') (kk : xK y G p l e R s m args below meth c Q cells slots pc L' S h) : xK y G p l e R s m args below meth c Q cells slots pc L S h := fun H locs ls hR hS hL => kk H locs ls hR hS ⟨hL.1, hL.2.1, fun k w hk => hL.2.2 k w (xsub_get _ hs k w hk)⟩
theorem k_refs {n : Nat} {r r' : Nat → Nat → Option Nat} {I : Nat → Int → Int} (hr : ∀ o, 3 ≤ o → o < n → xKd o ≠ 10 → ∀ j, j < xLn o → r o j = r' o j) (kk : xK y G p l e R s m args below meth c Q cells slots pc L S (n, r', I)) : xK y G p l e R s m args below meth c Q cells slots pc L S (n, r, I) := fun H locs ls hR hS hL => kk H locs ls (xRel_refs hr hR) hS hL
/-- the script -/
def scI (xs : Nat → Int32) (x : Int) : Int := (xs x.toNat).toInt
theorem scI_R (xs : Nat → Int32) (x : Int) : InR (scI xs x) := by
  have h1 := Int32.le_toInt (xs x.toNat)
  have h2 := Int32.toInt_lt (xs x.toNat)
  unfold scI
  omega
/-- what the law's walk knows of the script -/
abbrev xScr (G : XG) (s : State) (Ln : Nat) (xs : Nat → Int32) : Prop := va_X G.1.2.2.2 Ln xs s s.heap ∧ G.1.2.2.2 < s.heap.size ∧ ¬ xA G G.1.2.2.2 ∧ Ln ≤ 2048
theorem k_scr {Ln : Nat} {xs : Nat → Int32} {x : Int} (C : xCx y G p s m args meth c) (hX : xScr G s Ln xs) (hd : xlook (xcode y) pc = some (.iaload, nx, k, a, b)) (h0 : 0 ≤ x) (h1 : x < Ln) (kk : xK y G p l e R s m args below meth c Q cells slots nx L (.inl (scI xs x) :: S) h) : xK y G p l e R s m args below meth c Q cells slots pc L (.inl x :: .inr 0 :: S) h := by
  obtain ⟨hdg, rfl, -⟩ := xd1 C (fun _ _ _ _ q => by cases q) hd
  intro H locs ls hR hS hL
  have hLn := hX.2.2.2
  have hc : (zI x).toNatClampNeg = x.toNat := zI_clamp h0 ⟨by omega, by omega⟩
  refine va_sld C.2.1 C.2.2.1 hX.1 hX.2.1 hX.2.2.1 hS (i := zI x) (zI_in h0 h1 (by omega)) hdg ?_
  have := kk H locs ls hR hS hL
  rw [List.map_cons, show xT G (.inl (scI xs x)) = .int (xs x.toNat) from congrArg Value.int (Int32.ofInt_toInt _)] at this
  rw [hc]
  exact this
theorem k_slen {Ln : Nat} {xs : Nat → Int32} (C : xCx y G p s m args meth c) (hX : xScr G s Ln xs) (hd : xlook (xcode y) pc = some (.arraylength, nx, k, a, b)) (kk : xK y G p l e R s m args below meth c Q cells slots nx L (.inl (Ln : Int) :: S) h) : xK y G p l e R s m args below meth c Q cells slots pc L (.inr 0 :: S) h := by
  obtain ⟨hdg, rfl, -⟩ := xd1 C (fun _ _ _ _ q => by cases q) hd
  intro H locs ls hR hS hL
  exact va_slen C.2.1 C.2.2.1 hX.1 hX.2.1 hX.2.2.1 hS hdg (kk H locs ls hR hS hL)
/-- a call that answers a float -/
theorem w_callF {idx y' o : Nat} {q : UInt32} {H : Heap} {locs : List Loc} {ls : Array Slot} (C : xCx y G p s m args meth c) (hRm : xfr y ≤ R.frames ∧ 41 * xfr y ≤ R.locals) (hd : xlook (xcode y) pc = some (.invokevirtual idx, nx, k, y', b)) (hy' : y' < 166) (hb : b = 0) (hM : XRf y' [.inr o] h q) (ho : 3 ≤ o) (ho2 : o < h.1) (hk : xKd o = xown y') (hk2 : xKd o < 10) (hn : 0 = xnp y') (hfr : xfr y' < xfr y) (hc : cells ≤ R.cells ∧ slots ≤ R.slots) (hsz : ls.size = xml y) (hRl : xRel G h H) (hS : va_S (xA G) s.heap H locs)
    (kk : ∀ (H1 : Heap) (locs1 : List Loc), xRel G h H1 → va_S (xA G) s.heap H1 locs1 → W p l e R s m args below meth c H1 locs1 cells slots Q (F0 m nx ls [.float q])) : W p l e R s m args below meth c H locs cells slots Q (F0 m pc ls [.ref (xph G o)]) := by
  obtain ⟨hdg, rfl, hlk⟩ := xd1 C (fun _ _ _ _ q => by cases q) hd
  subst hb
  have hm : (xown y, idx, y', 0) ∈ xML := by
    have h1 : (Nat.ble 900 y' || decide ((xown y, idx, y', 0) ∈ xML)) = true := hlk
    rw [Bool.or_eq_true, decide_eq_true_eq] at h1
    rcases h1 with h1 | h1
    · have := Nat.le_of_ble_eq_true h1
      omega
    · exact h1
  obtain ⟨q0, -, hq1, hq2⟩ := xML_of hm
  simp only [xMLok, hq1, Bool.and_eq_true] at hq2
  obtain ⟨w1, w2, w3, w4, w5, w6, w7, w8⟩ := xM_of hy'
  have hgood : GoodIn lw_good (wsV (xcn (xown y)) idx (xname y').cls (xname y') (xws y')) := by
    intro w hw
    unfold wsV at hw
    rcases List.mem_append.mp hw with hw | hw
    · simp only [List.mem_cons, List.not_mem_nil, or_false] at hw
      rcases hw with rfl | rfl | rfl | rfl
      · exact xGood _ (xIg_of hq2.1.1)
      · exact xGood _ (xIg_of hq2.1.2)
      · exact xGood _ (xIg_of hq2.2)
      · exact xGood _ w2
    · exact xwsGood hy' _ hw
  have ho3 : o < 124 := by have := hRl.2.2.1; omega
  obtain ⟨cell, g1, g2, g3, -⟩ := xAt_obj (hRl.2.2.2 o ho ho2) rfl hk2 ho3
  have hRm2 : xfr y' + 1 ≤ R.frames ∧ 8 + (xml y' + 11) + 41 * xfr y' ≤ R.locals := by omega
  have hrun : va_Run p l e R s m args below meth c H locs cells slots 0 0 (F0 m pc ls [.ref (xph G o)]) [] (xQf G q h (Value.ref (xph G o) :: ([] : List Value)).toArray) (xA G) := by
    refine va_runV (As := []) (rest := []) (C := (xname y').cls) (n := xnp y') (bytes := xbytes y') (maxL := xml y') (ret := xret y') (ws := xws y') (rm := xRm y' 0 0) (xCF C) (hM l G) (cwV (xnp y') C.2.2.2.2.2.1 hgood rfl rfl rfl ⟨rfl, w5, w6, w7⟩ hRm2) ⟨xPc_blind, ⟨cell, g1, by rw [g3]; rfl, ?_⟩, fun U hU hW => xPc_at (as := [.inr o]) C hRl hS U hU hW⟩ rfl hn hsz rfl (Nat.zero_le _) hdg hc
    rw [g2, w3, ← hk]
    exact (C.2.2.2.2.2.2.2.2.2.1.1.1 _ _ (xCl_at _ hk2)).2.1
  intro T hT X
  obtain ⟨w, st₀, t, T', L', h0, X', hL', e1, e2, ⟨hv, hR1, hF⟩, stp⟩ := hrun T hT X
  have hw : w = some (.float q) := by cases hv; rfl
  subst hw
  rw [← e1] at hR1
  have hS1 : va_S (xA G) s.heap T'.heap (locs ++ L') := by
    refine ⟨?_, ?_, ?_⟩
    · have := hF.1
      rw [h0, ← e1] at this
      exact Nat.le_trans hS.1 this
    · intro u q1 q2
      have h5 := hF.2 u (by rw [h0]; exact Nat.lt_of_lt_of_le q1 hS.1) q2
      rw [e1, h5, h0]
      exact hS.2.1 u q1 q2
    · intro u hu
      rcases List.mem_append.mp hu with h6 | h6
      · exact hS.2.2 u h6
      · exact hL' u h6
  obtain ⟨t2, a1, b1⟩ := kk T'.heap (locs ++ L') hR1 hS1 T' rfl X'
  exact ⟨t2, stp t2 a1, b1⟩
end LAWR
