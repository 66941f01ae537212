section XROWS2
variable {y : Nat} {G : XG} {p : Program} {l : Launch} {e : Env} {R : Room} {s : State} {m : MethodId} {args : Array Value} {below : List Frame} {meth : Method} {c : Code} {Q : State → Prop} {cells slots : Nat}
variable {pc nx a b : Nat} {k : Int} {L : XL} {S : List XV} {h : XH}
theorem k_if_eq {o x : Int} (C : xCx y G p s m args meth c) (hd : xlook (xcode y) pc = some (.ifCond .eq o, nx, k, a, b)) (hx : InR x) (kt : x = 0 → xK y G p l e R s m args below meth c Q cells slots a L S h) (kf : ¬ x = 0 → xK y G p l e R s m args below meth c Q cells slots nx L S h) : xK y G p l e R s m args below meth c Q cells slots pc L (.inl x :: S) h := by
  obtain ⟨hdg, rfl, hlk⟩ := xd1 C (fun _ _ _ _ q => by cases q) hd
  intro H locs ls hR hS hL
  have h0 : InR 0 := by omega
  exact lv_if_eq C.2.1 C.2.2.1 hdg (of_decide_eq_true hlk) (fun q => kt (by first | exact (zI_inj hx h0).mp q | (rw [← zI_0] at q; exact (zI_inj hx h0).mp q)) H locs ls hR hS hL) (fun q => kf (fun w => q (by first | exact (zI_inj hx h0).mpr w | (rw [← zI_0]; exact (zI_inj hx h0).mpr w))) H locs ls hR hS hL)
theorem k_icmp_eq {o x z : Int} (C : xCx y G p s m args meth c) (hd : xlook (xcode y) pc = some (.if_icmp .eq o, nx, k, a, b)) (hx : InR x) (hz : InR z) (kt : x = z → xK y G p l e R s m args below meth c Q cells slots a L S h) (kf : ¬ x = z → xK y G p l e R s m args below meth c Q cells slots nx L S h) : xK y G p l e R s m args below meth c Q cells slots pc L (.inl z :: .inl x :: S) h := by
  obtain ⟨hdg, rfl, hlk⟩ := xd1 C (fun _ _ _ _ q => by cases q) hd
  intro H locs ls hR hS hL
  exact lv_icmp_eq C.2.1 C.2.2.1 hdg (of_decide_eq_true hlk) (fun q => kt (by first | exact (zI_inj hx hz).mp q | (rw [← zI_0] at q; exact (zI_inj hx hz).mp q)) H locs ls hR hS hL) (fun q => kf (fun w => q (by first | exact (zI_inj hx hz).mpr w | (rw [← zI_0]; exact (zI_inj hx hz).mpr w))) H locs ls hR hS hL)
theorem k_if_ne {o x : Int} (C : xCx y G p s m args meth c) (hd : xlook (xcode y) pc = some (.ifCond .ne o, nx, k, a, b)) (hx : InR x) (kt : ¬ x = 0 → xK y G p l e R s m args below meth c Q cells slots a L S h) (kf : x = 0 → xK y G p l e R s m args below meth c Q cells slots nx L S h) : xK y G p l e R s m args below meth c Q cells slots pc L (.inl x :: S) h := by
  obtain ⟨hdg, rfl, hlk⟩ := xd1 C (fun _ _ _ _ q => by cases q) hd
  intro H locs ls hR hS hL
  have h0 : InR 0 := by omega
  exact lv_if_ne C.2.1 C.2.2.1 hdg (of_decide_eq_true hlk) (fun q => kt (fun w => q (by first | exact (zI_inj hx h0).mpr w | (rw [← zI_0]; exact (zI_inj hx h0).mpr w))) H locs ls hR hS hL) (fun q => kf (by first | exact (zI_inj hx h0).mp q | (rw [← zI_0] at q; exact (zI_inj hx h0).mp q)) H locs ls hR hS hL)
theorem k_icmp_ne {o x z : Int} (C : xCx y G p s m args meth c) (hd : xlook (xcode y) pc = some (.if_icmp .ne o, nx, k, a, b)) (hx : InR x) (hz : InR z) (kt : ¬ x = z → xK y G p l e R s m args below meth c Q cells slots a L S h) (kf : x = z → xK y G p l e R s m args below meth c Q cells slots nx L S h) : xK y G p l e R s m args below meth c Q cells slots pc L (.inl z :: .inl x :: S) h := by
  obtain ⟨hdg, rfl, hlk⟩ := xd1 C (fun _ _ _ _ q => by cases q) hd
  intro H locs ls hR hS hL
  exact lv_icmp_ne C.2.1 C.2.2.1 hdg (of_decide_eq_true hlk) (fun q => kt (fun w => q (by first | exact (zI_inj hx hz).mpr w | (rw [← zI_0]; exact (zI_inj hx hz).mpr w))) H locs ls hR hS hL) (fun q => kf (by first | exact (zI_inj hx hz).mp q | (rw [← zI_0] at q; exact (zI_inj hx hz).mp q)) H locs ls hR hS hL)
theorem k_if_lt {o x : Int} (C : xCx y G p s m args meth c) (hd : xlook (xcode y) pc = some (.ifCond .lt o, nx, k, a, b)) (hx : InR x) (kt : x < 0 → xK y G p l e R s m args below meth c Q cells slots a L S h) (kf : ¬ x < 0 → xK y G p l e R s m args below meth c Q cells slots nx L S h) : xK y G p l e R s m args below meth c Q cells slots pc L (.inl x :: S) h := by
  obtain ⟨hdg, rfl, hlk⟩ := xd1 C (fun _ _ _ _ q => by cases q) hd
  intro H locs ls hR hS hL
  have h0 : InR 0 := by omega
  exact lv_if_lt C.2.1 C.2.2.1 hdg (of_decide_eq_true hlk) (fun q => kt (by first | exact (zI_lt hx h0).mp q | (rw [← zI_0] at q; exact (zI_lt hx h0).mp q)) H locs ls hR hS hL) (fun q => kf (fun w => q (by first | exact (zI_lt hx h0).mpr w | (rw [← zI_0]; exact (zI_lt hx h0).mpr w))) H locs ls hR hS hL)
theorem k_icmp_lt {o x z : Int} (C : xCx y G p s m args meth c) (hd : xlook (xcode y) pc = some (.if_icmp .lt o, nx, k, a, b)) (hx : InR x) (hz : InR z) (kt : x < z → xK y G p l e R s m args below meth c Q cells slots a L S h) (kf : ¬ x < z → xK y G p l e R s m args below meth c Q cells slots nx L S h) : xK y G p l e R s m args below meth c Q cells slots pc L (.inl z :: .inl x :: S) h := by
  obtain ⟨hdg, rfl, hlk⟩ := xd1 C (fun _ _ _ _ q => by cases q) hd
  intro H locs ls hR hS hL
  exact lv_icmp_lt C.2.1 C.2.2.1 hdg (of_decide_eq_true hlk) (fun q => kt (by first | exact (zI_lt hx hz).mp q | (rw [← zI_0] at q; exact (zI_lt hx hz).mp q)) H locs ls hR hS hL) (fun q => kf (fun w => q (by first | exact (zI_lt hx hz).mpr w | (rw [← zI_0]; exact (zI_lt hx hz).mpr w))) H locs ls hR hS hL)
theorem k_if_ge {o x : Int} (C : xCx y G p s m args meth c) (hd : xlook (xcode y) pc = some (.ifCond .ge o, nx, k, a, b)) (hx : InR x) (kt : 0 ≤ x → xK y G p l e R s m args below meth c Q cells slots a L S h) (kf : ¬ 0 ≤ x → xK y G p l e R s m args below meth c Q cells slots nx L S h) : xK y G p l e R s m args below meth c Q cells slots pc L (.inl x :: S) h := by
  obtain ⟨hdg, rfl, hlk⟩ := xd1 C (fun _ _ _ _ q => by cases q) hd
  intro H locs ls hR hS hL
  have h0 : InR 0 := by omega
  exact lv_if_ge C.2.1 C.2.2.1 hdg (of_decide_eq_true hlk) (fun q => kt (by first | exact (zI_le h0 hx).mp q | (rw [← zI_0] at q; exact (zI_le h0 hx).mp q)) H locs ls hR hS hL) (fun q => kf (fun w => q (by first | exact (zI_le h0 hx).mpr w | (rw [← zI_0]; exact (zI_le h0 hx).mpr w))) H locs ls hR hS hL)
theorem k_icmp_ge {o x z : Int} (C : xCx y G p s m args meth c) (hd : xlook (xcode y) pc = some (.if_icmp .ge o, nx, k, a, b)) (hx : InR x) (hz : InR z) (kt : z ≤ x → xK y G p l e R s m args below meth c Q cells slots a L S h) (kf : ¬ z ≤ x → xK y G p l e R s m args below meth c Q cells slots nx L S h) : xK y G p l e R s m args below meth c Q cells slots pc L (.inl z :: .inl x :: S) h := by
  obtain ⟨hdg, rfl, hlk⟩ := xd1 C (fun _ _ _ _ q => by cases q) hd
  intro H locs ls hR hS hL
  exact lv_icmp_ge C.2.1 C.2.2.1 hdg (of_decide_eq_true hlk) (fun q => kt (by first | exact (zI_le hz hx).mp q | (rw [← zI_0] at q; exact (zI_le hz hx).mp q)) H locs ls hR hS hL) (fun q => kf (fun w => q (by first | exact (zI_le hz hx).mpr w | (rw [← zI_0]; exact (zI_le hz hx).mpr w))) H locs ls hR hS hL)
theorem k_if_gt {o x : Int} (C : xCx y G p s m args meth c) (hd : xlook (xcode y) pc = some (.ifCond .gt o, nx, k, a, b)) (hx : InR x) (kt : 0 < x → xK y G p l e R s m args below meth c Q cells slots a L S h) (kf : ¬ 0 < x → xK y G p l e R s m args below meth c Q cells slots nx L S h) : xK y G p l e R s m args below meth c Q cells slots pc L (.inl x :: S) h := by
  obtain ⟨hdg, rfl, hlk⟩ := xd1 C (fun _ _ _ _ q => by cases q) hd
  intro H locs ls hR hS hL
  have h0 : InR 0 := by omega
  exact lv_if_gt C.2.1 C.2.2.1 hdg (of_decide_eq_true hlk) (fun q => kt (by first | exact (zI_lt h0 hx).mp q | (rw [← zI_0] at q; exact (zI_lt h0 hx).mp q)) H locs ls hR hS hL) (fun q => kf (fun w => q (by first | exact (zI_lt h0 hx).mpr w | (rw [← zI_0]; exact (zI_lt h0 hx).mpr w))) H locs ls hR hS hL)
theorem k_icmp_gt {o x z : Int} (C : xCx y G p s m args meth c) (hd : xlook (xcode y) pc = some (.if_icmp .gt o, nx, k, a, b)) (hx : InR x) (hz : InR z) (kt : z < x → xK y G p l e R s m args below meth c Q cells slots a L S h) (kf : ¬ z < x → xK y G p l e R s m args below meth c Q cells slots nx L S h) : xK y G p l e R s m args below meth c Q cells slots pc L (.inl z :: .inl x :: S) h := by
  obtain ⟨hdg, rfl, hlk⟩ := xd1 C (fun _ _ _ _ q => by cases q) hd
  intro H locs ls hR hS hL
  exact lv_icmp_gt C.2.1 C.2.2.1 hdg (of_decide_eq_true hlk) (fun q => kt (by first | exact (zI_lt hz hx).mp q | (rw [← zI_0] at q; exact (zI_lt hz hx).mp q)) H locs ls hR hS hL) (fun q => kf (fun w => q (by first | exact (zI_lt hz hx).mpr w | (rw [← zI_0]; exact (zI_lt hz hx).mpr w))) H locs ls hR hS hL)
theorem k_if_le {o x : Int} (C : xCx y G p s m args meth c) (hd : xlook (xcode y) pc = some (.ifCond .le o, nx, k, a, b)) (hx : InR x) (kt : x ≤ 0 → xK y G p l e R s m args below meth c Q cells slots a L S h) (kf : ¬ x ≤ 0 → xK y G p l e R s m args below meth c Q cells slots nx L S h) : xK y G p l e R s m args below meth c Q cells slots pc L (.inl x :: S) h := by
  obtain ⟨hdg, rfl, hlk⟩ := xd1 C (fun _ _ _ _ q => by cases q) hd
  intro H locs ls hR hS hL
  have h0 : InR 0 := by omega
  exact lv_if_le C.2.1 C.2.2.1 hdg (of_decide_eq_true hlk) (fun q => kt (by first | exact (zI_le hx h0).mp q | (rw [← zI_0] at q; exact (zI_le hx h0).mp q)) H locs ls hR hS hL) (fun q => kf (fun w => q (by first | exact (zI_le hx h0).mpr w | (rw [← zI_0]; exact (zI_le hx h0).mpr w))) H locs ls hR hS hL)
theorem k_icmp_le {o x z : Int} (C : xCx y G p s m args meth c) (hd : xlook (xcode y) pc = some (.if_icmp .le o, nx, k, a, b)) (hx : InR x) (hz : InR z) (kt : x ≤ z → xK y G p l e R s m args below meth c Q cells slots a L S h) (kf : ¬ x ≤ z → xK y G p l e R s m args below meth c Q cells slots nx L S h) : xK y G p l e R s m args below meth c Q cells slots pc L (.inl z :: .inl x :: S) h := by
  obtain ⟨hdg, rfl, hlk⟩ := xd1 C (fun _ _ _ _ q => by cases q) hd
  intro H locs ls hR hS hL
  exact lv_icmp_le C.2.1 C.2.2.1 hdg (of_decide_eq_true hlk) (fun q => kt (by first | exact (zI_le hx hz).mp q | (rw [← zI_0] at q; exact (zI_le hx hz).mp q)) H locs ls hR hS hL) (fun q => kf (fun w => q (by first | exact (zI_le hx hz).mpr w | (rw [← zI_0]; exact (zI_le hx hz).mpr w))) H locs ls hR hS hL)
end XROWS2
/-! what the tables say of the classes -/
theorem xCl_at : ∀ ci, ci < 10 → xCl[ci]? = some (xcn ci, xTT ci, xNF ci) := by
  intro ci h
  have h' : ci = 0 ∨ ci = 1 ∨ ci = 2 ∨ ci = 3 ∨ ci = 4 ∨ ci = 5 ∨ ci = 6 ∨ ci = 7 ∨ ci = 8 ∨ ci = 9 := by omega
  rcases h' with rfl | rfl | rfl | rfl | rfl | rfl | rfl | rfl | rfl | rfl <;> rfl
theorem xws_in : ∀ ci, ci < 10 → ∀ w ∈ u_ws (xcn ci) (xTT ci) (xNF ci), xInG w = true := by decide +kernel
theorem xty_at : ∀ ci, ci < 10 → ∀ j, j < xNF ci → parseFieldDescriptor (xTT ci j).2.2.1 = some (xTY ci j) := by
  intro ci h
  have h' : ci = 0 ∨ ci = 1 ∨ ci = 2 ∨ ci = 3 ∨ ci = 4 ∨ ci = 5 ∨ ci = 6 ∨ ci = 7 ∨ ci = 8 ∨ ci = 9 := by omega
  rcases h' with rfl | rfl | rfl | rfl | rfl | rfl | rfl | rfl | rfl | rfl
  · exact xtyok0
  · exact xtyok1
  · exact xtyok2
  · exact xtyok3
  · exact xtyok4
  · exact xtyok5
  · exact xtyok6
  · exact xtyok7
  · exact xtyok8
  · exact xtyok9
theorem xnm_at : ∀ ci, ci < 10 → ∀ a, a < xNF ci → ∀ b, b < xNF ci → a ≠ b → (xTT ci a).2.1 ≠ (xTT ci b).2.1 := by
  intro ci h
  have h' : ci = 0 ∨ ci = 1 ∨ ci = 2 ∨ ci = 3 ∨ ci = 4 ∨ ci = 5 ∨ ci = 6 ∨ ci = 7 ∨ ci = 8 ∨ ci = 9 := by omega
  rcases h' with rfl | rfl | rfl | rfl | rfl | rfl | rfl | rfl | rfl | rfl
  · exact xnm0
  · exact xnm1
  · exact xnm2
  · exact xnm3
  · exact xnm4
  · exact xnm5
  · exact xnm6
  · exact xnm7
  · exact xnm8
  · exact xnm9
def xIsRef (t : FieldType) : Bool := match t with
  | .object _ => true
  | .array _ => true
  | _ => false
theorem xFk_at : ∀ ci, ci < 10 → ∀ j, j < xNF ci → (xFk ci j = 0 → xTY ci j = .int) ∧ (xFk ci j = 1 → xTY ci j = .boolean) ∧ (xFk ci j = 2 → xIsRef (xTY ci j) = true) ∧ ((xTT ci j).2.2.2 = decide (xFk ci j = 2)) ∧ (xTT ci j).1 = xcn ci ∧ xFk ci j ≤ 2 := by decide +kernel
theorem xLn_at : ∀ o, o < 117 → xKd o < 10 → xLn o = xNF (xKd o) := by decide +kernel
theorem xLn_small : ∀ o, o < 117 → xLn o < 2000 := by decide +kernel
theorem xFL_of {own idx ci j : Nat} (hm : (own, idx, ci, j) ∈ xFL) : j < xNF ci ∧ Cond.fieldLink (xcn own) idx (xTT ci j).1 (xTT ci j).2.1 (xTT ci j).2.2.1 ∈ lw_good := by
  obtain ⟨q, hq, he⟩ := List.mem_map.mp hm
  have h1 := xFL_ok q hq
  unfold xFLok at h1
  rw [Bool.and_eq_true] at h1
  rw [he] at h1
  exact ⟨by have := h1.1; simpa [Nat.blt_eq] using this, xIg_of h1.2⟩
def xup (I : Nat → Int → Int) (o : Nat) (j x : Int) : Nat → Int → Int := fun a => if a = o then (fun i => if i = j then x else I a i) else I a
theorem xup_ne {I : Nat → Int → Int} {o a : Nat} {j x : Int} (h : a ≠ o) : xup I o j x a = I a := by
  unfold xup
  rw [if_neg h]
theorem xup_at {I : Nat → Int → Int} {o : Nat} {j x i : Int} : xup I o j x o i = if i = j then x else I o i := by
  unfold xup
  rw [if_pos rfl]
def xur (r : Nat → Nat → Option Nat) (o j q : Nat) : Nat → Nat → Option Nat := fun a => if a = o then (fun i => if i = j then some q else r a i) else r a
theorem xph_inj {G : XG} {a b : Nat} (ha : 3 ≤ a) (hb : 3 ≤ b) (h : xph G a = xph G b) : a = b := by
  unfold xph at h
  rw [if_pos ha, if_pos hb] at h
  omega
theorem xph_A {G : XG} {a : Nat} (ha : 3 ≤ a) : xA G (xph G a) := by
  unfold xA xph
  rw [if_pos ha]
  omega
/-- a heap in which one cell is another -/
theorem xRel_put {G : XG} {h h' : XH} {H H' : Heap} {o : Nat} (hR : xRel G h H) (ho : 3 ≤ o) (ho2 : o < h.1) (hn : h'.1 = h.1) (hz : H'.size = H.size) (oq : ∀ q : Nat, q ≠ xph G o → H'[q]? = H[q]?) (h1 : ∀ a, a ≠ o → h'.2.1 a = h.2.1 a) (h2 : ∀ a, a ≠ o → h'.2.2 a = h.2.2 a) (hat : xAt G h' o H') : xRel G h' H' := by
  have e0 : exN h' = exN h := by unfold exN; rw [hn, h2 0 (by omega)]
  have h117 := hR.2.2.1
  refine ⟨⟨by rw [hz, hn, e0]; exact hR.1.1, fun t ht => ?_⟩, by rw [hn]; exact hR.2.1, by rw [hn]; exact hR.2.2.1, fun a ha3 han => ?_⟩
  · rw [e0] at ht
    have h3 := hR.1.2 t ht
    unfold xEx at h3 ⊢
    rw [h2 (200 + t) (by omega), oq _ (fun q => by have := xph_inj (by omega) ho q; omega)]
    exact h3
  rw [hn] at han
  by_cases hao : a = o
  · rw [hao]; exact hat
  · have h3 := hR.2.2.2 a ha3 han
    have e : H'[xph G a]? = H[xph G a]? := oq _ (fun q => hao (xph_inj ha3 ho q))
    unfold xAt at h3 ⊢
    rw [h1 a hao, h2 a hao]
    split at h3
    · rename_i hk
      rw [if_pos hk, e]
      exact h3
    · rename_i hk
      rw [if_neg hk]
      split at h3
      · rename_i hk2
        rw [if_pos hk2, e]
        exact h3
      · rename_i hk2
        rw [if_neg hk2]
        refine (h3.kept e).to (fun j _ => ?_)
        unfold xvl
        rw [h1 a hao, h2 a hao]
theorem xAt_obj {G : XG} {h : XH} {H : Heap} {o ci : Nat} (hat : xAt G h o H) (hk : xKd o = ci) (hc : ci < 10) (ho : o < 117) : t_OB (xph G o) (G.2.1.1 ci) (xNF ci) (G.2.1.2 ci) H (xvl G h ci o) := by
  unfold xAt at hat
  rw [if_neg (by omega), if_neg (by omega), xLn_at o ho (by omega), hk] at hat
  exact hat
theorem xAt_int {G : XG} {h : XH} {H : Heap} {o : Nat} (hat : xAt G h o H) (hk : xKd o = 10) : H[xph G o]? = some (arrV G.2.2.1 (xLn o) (fun j => .int (zI (h.2.2 o j)))) := by
  unfold xAt at hat
  rw [if_pos hk] at hat
  exact hat
theorem xAt_ref {G : XG} {h : XH} {H : Heap} {o : Nat} (hat : xAt G h o H) (hk : xKd o = 11) : H[xph G o]? = some (arrV G.2.2.2 (xLn o) (fun j => xrf G (h.2.1 o j))) := by
  unfold xAt at hat
  rw [if_neg (by omega), if_pos hk] at hat
  exact hat
section XROWS3
variable {y : Nat} {G : XG} {p : Program} {l : Launch} {e : Env} {R : Room} {s : State} {m : MethodId} {args : Array Value} {below : List Frame} {meth : Method} {c : Code} {Q : State → Prop} {cells slots : Nat}
variable {pc nx a b : Nat} {k : Int} {L : XL} {S : List XV} {h : XH}
theorem k_getv {idx o : Nat} (C : xCx y G p s m args meth c) (hd : xlook (xcode y) pc = some (.getfield idx, nx, k, a, b)) (ho : 3 ≤ o) (ho2 : o < h.1) (hk : xKd o = a) (ha : a < 10)
    (kk : ∀ (H : Heap) (locs : List Loc) (ls : Array Slot), xRel G h H → va_S (xA G) s.heap H locs → xLoc G ls (xml y) L → W p l e R s m args below meth c H locs cells slots Q (F0 m nx ls (xvl G h a o b :: S.map (xT G)))) : xK y G p l e R s m args below meth c Q cells slots pc L (.inr o :: S) h := by
  obtain ⟨hdg, rfl, hlk⟩ := xd1 C (fun _ _ _ _ q => by cases q) hd
  have hm : (xown y, idx, a, b) ∈ xFL := of_decide_eq_true hlk
  obtain ⟨hb, hl⟩ := xFL_of hm
  intro H locs ls hR hS hL
  obtain ⟨cell, q1, q2, q3, q4⟩ := xAt_obj (hR.2.2.2 o ho ho2) hk ha (by have := hR.2.2.1; omega)
  obtain ⟨hSl, hfc, kC, hkC, hkind⟩ := C.2.2.2.2.2.2.2.2.2.1.1.1 a _ (xCl_at a ha)
  obtain ⟨cf, kf, fi, f, hi, hsl⟩ := hSl b hb
  have hts := C.2.2.2.2.2.1
  refine W.getf C.2.1 C.2.2.1 C.2.2.2.2.1 (hts _ hl) hi (u_facts hfc hkC (u_lays hts (fun w hw => xInG_of (xws_in a ha w hw)) hb) hi).1 q1 (by rw [q3]; exact fun h => by cases h) (v := xvl G h a o b) ?_ rfl rfl hdg (kk H locs ls hR hS hL)
  rw [hsl, q4 b hb]
theorem k_geti {idx o : Nat} (C : xCx y G p s m args meth c) (hd : xlook (xcode y) pc = some (.getfield idx, nx, k, a, b)) (ho : 3 ≤ o) (ho2 : o < h.1) (hk : xKd o = a) (ha : a < 10) (hf : xFk a b ≠ 2)
    (kk : xK y G p l e R s m args below meth c Q cells slots nx L (.inl (h.2.2 o b) :: S) h) : xK y G p l e R s m args below meth c Q cells slots pc L (.inr o :: S) h := by
  refine k_getv C hd ho ho2 hk ha (fun H locs ls hR hS hL => ?_)
  have := kk H locs ls hR hS hL
  unfold xvl
  rw [if_neg hf]
  exact this
theorem k_getr {idx o q : Nat} (C : xCx y G p s m args meth c) (hd : xlook (xcode y) pc = some (.getfield idx, nx, k, a, b)) (ho : 3 ≤ o) (ho2 : o < h.1) (hk : xKd o = a) (ha : a < 10) (hf : xFk a b = 2) (hq : h.2.1 o b = some q)
    (kk : xK y G p l e R s m args below meth c Q cells slots nx L (.inr q :: S) h) : xK y G p l e R s m args below meth c Q cells slots pc L (.inr o :: S) h := by
  refine k_getv C hd ho ho2 hk ha (fun H locs ls hR hS hL => ?_)
  have := kk H locs ls hR hS hL
  unfold xvl
  rw [if_pos hf, hq]
  exact this
theorem xvl_put {ci o b : Nat} {x : Int} (hf : xFk ci b ≠ 2) (j : Nat) : updV (xvl G h ci o) b (.int (zI x)) j = xvl G (h.1, h.2.1, xup h.2.2 o b x) ci o j := by
  unfold updV
  by_cases hj : j = b
  · rw [if_pos hj, hj]
    unfold xvl
    rw [if_neg hf]
    show _ = Value.int (zI (xup h.2.2 o b x o b))
    rw [xup_at, if_pos rfl]
  · rw [if_neg hj]
    unfold xvl
    show _ = if xFk ci j = 2 then xrf G (h.2.1 o j) else Value.int (zI (xup h.2.2 o b x o j))
    rw [xup_at, if_neg (show ¬ ((j : Nat) : Int) = ((b : Nat) : Int) by omega)]
theorem k_putv {idx o : Nat} {v : Value} {h' : XH} (C : xCx y G p s m args meth c) (hd : xlook (xcode y) pc = some (.putfield idx, nx, k, a, b)) (ho : 3 ≤ o) (ho2 : o < h.1) (hk : xKd o = a) (ha : a < 10) (hf : xFk a b ≠ 2) (hn : narrow (xTY a b) v = v) (hfit : fits (xTY a b) v = true) {vx : XV} (hvx : xT G vx = v)
    (e1 : h'.1 = h.1) (e2 : h'.2.1 = h.2.1) (e3 : ∀ q, q ≠ o → h'.2.2 q = h.2.2 q) (e4 : ∀ j, updV (xvl G h a o) b v j = xvl G h' a o j)
    (kk : xK y G p l e R s m args below meth c Q cells slots nx L S h') : xK y G p l e R s m args below meth c Q cells slots pc L (vx :: .inr o :: S) h := by
  obtain ⟨hdg, rfl, hlk⟩ := xd1 C (fun _ _ _ _ q => by cases q) hd
  have hm : (xown y, idx, a, b) ∈ xFL := of_decide_eq_true hlk
  obtain ⟨hb, hl⟩ := xFL_of hm
  intro H locs ls hR hS hL
  have ho3 : o < 117 := by have := hR.2.2.1; omega
  obtain ⟨cell, q1, q2, q3, q4⟩ := xAt_obj (hR.2.2.2 o ho ho2) hk ha ho3
  have hts := C.2.2.2.2.2.1
  have hin : ∀ w ∈ u_ws (xcn a) (xTT a) (xNF a), w ∈ lw_good := fun w hw => xInG_of (xws_in a ha w hw)
  have hK := C.2.2.2.2.2.2.2.2.2.1.1
  have hap := va_apart (own := xcn (xown y)) hts hin (xTY a) (xty_at a ha) (xnm_at a ha) hK (xCl_at a ha)
  obtain ⟨hSl, hfc, kC, hkC, hkind⟩ := hK.1 a _ (xCl_at a ha)
  obtain ⟨cf, kf, fi, f, hi, hsl⟩ := hSl b hb
  have hlay := hts _ (hin _ (u_in_lay hb))
  have hfin : (xTT a b).2.2.2 = false := by rw [(xFk_at a ha b hb).2.2.2.1]; exact decide_eq_false hf
  unfold u_lay at hlay
  rw [if_neg (by rw [hfin]; decide)] at hlay
  have hst := (u_facts hfc hkC (u_lays hts hin hb) hi).1
  have h6 := u_store hfc hkC hkind hlay hi (xty_at a ha b hb) hn hfit
  show W p l e R s m args below meth c H locs cells slots Q (F0 m pc ls (xT G vx :: .ref (xph G o) :: S.map (xT G)))
  rw [hvx]
  refine W.putK C.2.1 C.2.2.1 (f := f) ⟨C.2.2.2.2.1, hts _ hl, ⟨_, _, _, hi⟩, hst⟩ (by rw [q2]; exact h6) q1 q3 (by rw [hsl]; exact k2_hasslot (q4 b hb)) rfl rfl hdg fun H' w1 w2 w3 => ?_
  rw [hsl] at w1 ⊢
  refine kk H' _ ls (xRel_put hR ho ho2 e1 w2 w3 (fun q _ => by rw [e2]) e3 ?_) (hS.put w2 w3 (xph_A ho)) hL
  unfold xAt
  rw [if_neg (by omega), if_neg (by omega), xLn_at o ho3 (by omega), hk]
  exact t_OB.to (V := updV (xvl G h a o) b v) ⟨_, w1, q2, q3, t_set q4 hap hb v⟩ (fun j _ => e4 j)
theorem k_puti {idx o : Nat} {x : Int} (C : xCx y G p s m args meth c) (hd : xlook (xcode y) pc = some (.putfield idx, nx, k, a, b)) (ho : 3 ≤ o) (ho2 : o < h.1) (hk : xKd o = a) (ha : a < 10) (hb : b < xNF a) (hf : xFk a b = 0)
    (kk : xK y G p l e R s m args below meth c Q cells slots nx L S (h.1, h.2.1, xup h.2.2 o b x)) : xK y G p l e R s m args below meth c Q cells slots pc L (.inl x :: .inr o :: S) h := by
  have ht := (xFk_at a ha b hb).1 hf
  exact k_putv (v := .int (zI x)) (h' := (h.1, h.2.1, xup h.2.2 o b x)) C hd ho ho2 hk ha (by omega) (by rw [ht]; rfl) (by rw [ht]; rfl) rfl rfl rfl (fun q hq => xup_ne hq) (fun j => xvl_put (by omega) j) kk
theorem k_putz {idx o : Nat} {x : Int} (C : xCx y G p s m args meth c) (hd : xlook (xcode y) pc = some (.putfield idx, nx, k, a, b)) (ho : 3 ≤ o) (ho2 : o < h.1) (hk : xKd o = a) (ha : a < 10) (hb : b < xNF a) (hf : xFk a b = 1) (hx : x = 0 ∨ x = 1)
    (kk : xK y G p l e R s m args below meth c Q cells slots nx L S (h.1, h.2.1, xup h.2.2 o b x)) : xK y G p l e R s m args below meth c Q cells slots pc L (.inl x :: .inr o :: S) h := by
  have ht := (xFk_at a ha b hb).2.1 hf
  exact k_putv (v := .int (zI x)) (h' := (h.1, h.2.1, xup h.2.2 o b x)) C hd ho ho2 hk ha (by omega) (by rw [ht]; rcases hx with rfl | rfl <;> decide +kernel) (by rw [ht]; rcases hx with rfl | rfl <;> decide +kernel) rfl rfl rfl (fun q hq => xup_ne hq) (fun j => xvl_put (by omega) j) kk
theorem xArr {t : Nat} {cA : ClassId} {ty : FieldType} (C : xCx y G p s m args meth c) (ht : ([(G.2.2.1, FieldType.int), (G.2.2.2, FieldType.object "CrosswordBoard$Game")] : List (ClassId × FieldType))[t]? = some (cA, ty)) : ArrOfT s cA ty := (C.2.2.2.2.2.2.2.2.2.1.1.2 t _ ht).1
theorem k_iald {o : Nat} {x : Int} (C : xCx y G p s m args meth c) (hd : xlook (xcode y) pc = some (.iaload, nx, k, a, b)) (ho : 3 ≤ o) (ho2 : o < h.1) (hk : xKd o = 10) (hx0 : 0 ≤ x) (hx : x < xLn o)
    (kk : xK y G p l e R s m args below meth c Q cells slots nx L (.inl (h.2.2 o x) :: S) h) : xK y G p l e R s m args below meth c Q cells slots pc L (.inl x :: .inr o :: S) h := by
  obtain ⟨hdg, rfl, hlk⟩ := xd1 C (fun _ _ _ _ q => by cases q) hd
  intro H locs ls hR hS hL
  have ho3 : o < 117 := by have := hR.2.2.1; omega
  have hsm := xLn_small o ho3
  have hc := xAt_int (hR.2.2.2 o ho ho2) hk
  refine W.iald (v := .int (zI (h.2.2 o x))) C.2.1 C.2.2.1 hc (xArr (t := 0) C rfl (xLn o) (fun j => .int (zI (h.2.2 o j)))) (fun q => by cases q) (j := zI x) ?_ ?_ rfl rfl hdg (kk H locs ls hR hS hL)
  · rw [arrV_size]
    exact zI_in hx0 hx (by omega)
  · rw [zI_clamp hx0 ⟨by omega, by omega⟩, arrV_read _ _ (by omega), Int.toNat_of_nonneg hx0]
theorem k_iast {o : Nat} {x v : Int} (C : xCx y G p s m args meth c) (hd : xlook (xcode y) pc = some (.iastore, nx, k, a, b)) (ho : 3 ≤ o) (ho2 : o < h.1) (hk : xKd o = 10) (hx0 : 0 ≤ x) (hx : x < xLn o)
    (kk : xK y G p l e R s m args below meth c Q cells slots nx L S (h.1, h.2.1, xup h.2.2 o x v)) : xK y G p l e R s m args below meth c Q cells slots pc L (.inl v :: .inl x :: .inr o :: S) h := by
  obtain ⟨hdg, rfl, hlk⟩ := xd1 C (fun _ _ _ _ q => by cases q) hd
  intro H locs ls hR hS hL
  have ho3 : o < 117 := by have := hR.2.2.1; omega
  have hsm := xLn_small o ho3
  have hc := xAt_int (hR.2.2.2 o ho ho2) hk
  refine W.iast C.2.1 C.2.2.1 hc (xArr (t := 0) C rfl (xLn o) (fun j => .int (zI (h.2.2 o j)))) (fun q => by cases q) (j := zI x) ?_ rfl rfl hdg (fun H' w1 w2 w3 => ?_)
  · rw [arrV_size]
    exact zI_in hx0 hx (by omega)
  · refine kk H' _ ls (xRel_put hR ho ho2 rfl w2 w3 (fun q _ => rfl) (fun q hq => xup_ne hq) ?_) (hS.put w2 w3 (xph_A ho)) hL
    unfold xAt
    rw [if_pos hk, w1, arrV_store, zI_clamp hx0 ⟨by omega, by omega⟩]
    congr 2
    funext j
    unfold updV
    show _ = Value.int (zI (xup h.2.2 o x v o j))
    rw [xup_at]
    by_cases hj : j = x.toNat
    · rw [if_pos hj, if_pos (by omega)]
    · rw [if_neg hj, if_neg (by omega)]
theorem k_aald {o q : Nat} {x : Int} (C : xCx y G p s m args meth c) (hd : xlook (xcode y) pc = some (.aaload, nx, k, a, b)) (ho : 3 ≤ o) (ho2 : o < h.1) (hk : xKd o = 11) (hx0 : 0 ≤ x) (hx : x < xLn o) (hq : h.2.1 o x.toNat = some q)
    (kk : xK y G p l e R s m args below meth c Q cells slots nx L (.inr q :: S) h) : xK y G p l e R s m args below meth c Q cells slots pc L (.inl x :: .inr o :: S) h := by
  obtain ⟨hdg, rfl, hlk⟩ := xd1 C (fun _ _ _ _ q => by cases q) hd
  intro H locs ls hR hS hL
  have ho3 : o < 117 := by have := hR.2.2.1; omega
  have hsm := xLn_small o ho3
  have hc := xAt_ref (hR.2.2.2 o ho ho2) hk
  refine W.aald (v := .ref (xph G q)) (ty := .object "CrosswordBoard$Game") C.2.1 C.2.2.1 hc (xArr (t := 1) C rfl (xLn o) (fun j => xrf G (h.2.1 o j))) rfl (fun q => by cases q) (j := zI x) ?_ ?_ rfl rfl hdg (kk H locs ls hR hS hL)
  · rw [arrV_size]
    exact zI_in hx0 hx (by omega)
  · rw [zI_clamp hx0 ⟨by omega, by omega⟩, arrV_read _ _ (by omega), hq]
    rfl
theorem k_alen {o : Nat} (C : xCx y G p s m args meth c) (hd : xlook (xcode y) pc = some (.arraylength, nx, k, a, b)) (ho : 3 ≤ o) (ho2 : o < h.1) (hk : xKd o = 11)
    (kk : xK y G p l e R s m args below meth c Q cells slots nx L (.inl (xLn o) :: S) h) : xK y G p l e R s m args below meth c Q cells slots pc L (.inr o :: S) h := by
  obtain ⟨hdg, rfl, hlk⟩ := xd1 C (fun _ _ _ _ q => by cases q) hd
  intro H locs ls hR hS hL
  have hc := xAt_ref (hR.2.2.2 o ho ho2) hk
  exact W.alen (n := zI (xLn o)) C.2.1 C.2.2.1 hc (xArr (t := 1) C rfl (xLn o) (fun j => xrf G (h.2.1 o j))) (by rw [arrV_size]; rfl) rfl rfl hdg (kk H locs ls hR hS hL)
/-- the two static rows -/
theorem k_getsV {idx : Nat} (C : xCx y G p s m args meth c) (hd : xlook (xcode y) pc = some (.getstatic idx, nx, k, a, b)) (hl : Cond.fieldLink (xcn (xown y)) idx "CrosswordBoard" "VALUES" "[I" ∈ lw_good)
    (kk : xK y G p l e R s m args below meth c Q cells slots nx L (.inr 1 :: S) h) : xK y G p l e R s m args below meth c Q cells slots pc L S h := by
  obtain ⟨hdg, rfl, hlk⟩ := xd1 C (fun _ _ _ _ q => by cases q) hd
  intro H locs ls hR hS hL
  exact va_gets C.2.1 C.2.2.1 C.2.2.2.2.2.2.2.2.2.2.1 hS C.2.2.2.2.1 (C.2.2.2.2.2.1 _ hl) (fun _ h9 => h9) hdg (kk H locs ls hR hS hL)
theorem k_getsS {idx : Nat} (C : xCx y G p s m args meth c) (hd : xlook (xcode y) pc = some (.getstatic idx, nx, k, a, b)) (hl : Cond.fieldLinkNest (xcn (xown y)) idx "CrosswordBoard" "SUPPLY" "[I" "CrosswordBoard" ∈ xNest)
    (kk : xK y G p l e R s m args below meth c Q cells slots nx L (.inr 2 :: S) h) : xK y G p l e R s m args below meth c Q cells slots pc L S h := by
  obtain ⟨hdg, rfl, hlk⟩ := xd1 C (fun _ _ _ _ q => by cases q) hd
  intro H locs ls hR hS hL
  exact va_getsN C.2.1 C.2.2.1 C.2.2.2.2.2.2.2.2.2.2.2.1 hS C.2.2.2.2.1 (va_Nw.use rfl (C.2.2.2.2.2.2.2.2.2.1.2.1 _ hl)) (fun _ h9 => h9) hdg (kk H locs ls hR hS hL)
theorem k_ialdV {x : Int} (C : xCx y G p s m args meth c) (hd : xlook (xcode y) pc = some (.iaload, nx, k, a, b)) (hx0 : 0 ≤ x) (hx : x < 9)
    (kk : xK y G p l e R s m args below meth c Q cells slots nx L (.inl (xVALS x.toNat) :: S) h) : xK y G p l e R s m args below meth c Q cells slots pc L (.inl x :: .inr 1 :: S) h := by
  obtain ⟨hdg, rfl, hlk⟩ := xd1 C (fun _ _ _ _ q => by cases q) hd
  intro H locs ls hR hS hL
  exact va_ti C.2.1 C.2.2.1 C.2.2.2.2.2.2.2.2.2.2.2.2.1 hS (i := zI x) (zI_in (n := 9) hx0 (by omega) (by omega)) (by rw [zI_clamp hx0 ⟨by omega, by omega⟩]; rfl) hdg (kk H locs ls hR hS hL)
theorem k_ialdS {x : Int} (C : xCx y G p s m args meth c) (hd : xlook (xcode y) pc = some (.iaload, nx, k, a, b)) (hx0 : 0 ≤ x) (hx : x < 9)
    (kk : xK y G p l e R s m args below meth c Q cells slots nx L (.inl (xSUPP x.toNat) :: S) h) : xK y G p l e R s m args below meth c Q cells slots pc L (.inl x :: .inr 2 :: S) h := by
  obtain ⟨hdg, rfl, hlk⟩ := xd1 C (fun _ _ _ _ q => by cases q) hd
  intro H locs ls hR hS hL
  exact va_ti C.2.1 C.2.2.1 C.2.2.2.2.2.2.2.2.2.2.2.2.2.1 hS (i := zI x) (zI_in (n := 9) hx0 (by omega) (by omega)) (by rw [zI_clamp hx0 ⟨by omega, by omega⟩]; rfl) hdg (kk H locs ls hR hS hL)
end XROWS3
