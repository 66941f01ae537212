/-! the rows of the library's methods, of makings, of shifts and switches -/
def xli (y : Nat) (r : Nat × XI) : Bool := match r.2.1 with
  | .invokestatic idx => bif Nat.beq r.2.2.2.2.1 901 then xInG (.methodLink (xcn (xown y)) idx Lib.Math.abs.name) else (bif Nat.beq r.2.2.2.2.1 902 then xInG (.methodLink (xcn (xown y)) idx arraycopyName) else true)
  | .invokespecial idx => bif Nat.beq r.2.2.2.2.1 900 then xInG (.methodLink (xcn (xown y)) idx objectInit) else true
  | .anewarray idx => decide (Cond.classLink (xcn (xown y)) idx "CrosswordBoard$Game" ∈ lw_tbl) && goodWord (Cond.classLink (xcn (xown y)) idx "CrosswordBoard$Game")
  | _ => true
theorem xli_ok : ∀ y, y < 106 → (xcode y).all (xli y) = true := by decide +kernel
theorem xli_of {y pc : Nat} {e : XI} (hy : y < 106) (h : xlook (xcode y) pc = some e) : xli y (pc, e) = true := List.all_eq_true.mp (xli_ok y hy) _ (xlook_mem h)
theorem xabs_in : xInG (.static Lib.Math.abs.name) = true ∧ xInG (.initialized "java/lang/Math") = true ∧ xInG (.code Lib.Math.abs.name Lib.Math.abs.code 1 (some .int)) = true := by decide +kernel
theorem xcopy_in : xInG (.native arraycopyName) = true ∧ xInG (.static arraycopyName) = true ∧ xInG (.initialized "java/lang/System") = true := by decide +kernel
theorem xobj_in : xInG (.instanceMethod objectInit) = true ∧ xInG (.code objectInit ⟨#[0xb1]⟩ 1 none) = true := by decide +kernel
theorem xnew_in : xInG (.arrayClass .int) = true := by decide +kernel
section XMORE
variable {y mc ms cells slots : Nat} {v : Option XV} {hf : XH}
variable {pc nx a b : Nat} {kz : Int} {L L' : XL} {S S' : List XV} {h h' : XH}
theorem x_abs {idx : Nat} {x : Int} (hd : xlook (xcode y) pc = some (.invokestatic idx, nx, kz, 901, b)) (hy : y < 106) (hfr : 1 ≤ xfr y) (hr : S.length ≤ 8) (hc : cells ≤ mc ∧ slots ≤ ms) (hx : InR x) (kk : XEa y mc ms cells slots v hf nx L (.inl (if 0 ≤ x then x else 0 - x) :: S) h) : XEa y mc ms cells slots v hf pc L (.inl x :: S) h := by
  intro G p l e s m args below meth c C
  have hli := xli_of hy hd
  obtain ⟨hdg, rfl, hlk⟩ := xd1 C (fun _ _ _ _ q => by cases q) hd
  intro H locs ls hR hS hL
  have hts := C.2.2.2.2.2.1
  refine va_mabs C.2.1 C.2.2.1 (by rw [C.2.2.2.1, hL.1]) C.2.2.2.2.1 (hts _ (xInG_of hli)) (hts _ (xInG_of xabs_in.1)) (hts _ (xInG_of xabs_in.2.1)) (hts _ (xInG_of xabs_in.2.2)) (by show 1 ≤ xfr y; exact hfr) (by show ((S.map (xT G)).map fun v => v.category).sum + 13 ≤ 41 * xfr y; rw [xsum_len]; omega) hc.1 hc.2 hdg ?_
  have := kk G p l e s m args below meth c C H locs ls hR hS hL
  rw [List.map_cons, show xT G (.inl (if 0 ≤ x then x else 0 - x)) = .int (if 0 ≤ zI x then zI x else 0 - zI x) from congrArg Value.int (zI_abs hx).symm] at this
  exact this
theorem x_ishl {z : Int} (hd : xlook (xcode y) pc = some (.ishl, nx, kz, a, b)) (hz0 : 0 ≤ z) (hz : z ≤ 7) (kk : XEa y mc ms cells slots v hf nx L (.inl (xpw z) :: S) h) : XEa y mc ms cells slots v hf pc L (.inl z :: .inl 1 :: S) h := fun G p l e s m args below meth c C => k_ishl C hd hz0 hz (kk G p l e s m args below meth c C)
theorem x_ishr {x z : Int} (hd : xlook (xcode y) pc = some (.ishr, nx, kz, a, b)) (hx0 : 0 ≤ x) (hx : x < 256) (hz0 : 0 ≤ z) (hz : z ≤ 7) (kk : XEa y mc ms cells slots v hf nx L (.inl (x / xpw z) :: S) h) : XEa y mc ms cells slots v hf pc L (.inl z :: .inl x :: S) h := fun G p l e s m args below meth c C => k_ishr C hd hx0 hx hz0 hz (kk G p l e s m args below meth c C)
theorem x_ior {x z : Int} (hd : xlook (xcode y) pc = some (.ior, nx, kz, a, b)) (hx0 : 0 ≤ x) (hz0 : 0 ≤ z) (kk : XEa y mc ms cells slots v hf nx L (.inl (xor2 x z) :: S) h) : XEa y mc ms cells slots v hf pc L (.inl z :: .inl x :: S) h := fun G p l e s m args below meth c C => k_ior C hd hx0 hz0 (kk G p l e s m args below meth c C)
theorem x_iand1 {x : Int} (hd : xlook (xcode y) pc = some (.iand, nx, kz, a, b)) (kk : XEa y mc ms cells slots v hf nx L (.inl (x % 2) :: S) h) : XEa y mc ms cells slots v hf pc L (.inl 1 :: .inl x :: S) h := fun G p l e s m args below meth c C => k_iand1 C hd (kk G p l e s m args below meth c C)
theorem x_getsV {idx : Nat} (hd : xlook (xcode y) pc = some (.getstatic idx, nx, kz, a, b)) (hl : xInG (Cond.fieldLink (xcn (xown y)) idx "CrosswordBoard" "VALUES" "[I") = true) (kk : XEa y mc ms cells slots v hf nx L (.inr 1 :: S) h) : XEa y mc ms cells slots v hf pc L S h := fun G p l e s m args below meth c C => k_getsV C hd (xInG_of hl) (kk G p l e s m args below meth c C)
theorem x_getsS {idx : Nat} (hd : xlook (xcode y) pc = some (.getstatic idx, nx, kz, a, b)) (hl : decide (Cond.fieldLinkNest (xcn (xown y)) idx "CrosswordBoard" "SUPPLY" "[I" "CrosswordBoard" ∈ lw_tbl) = true) (kk : XEa y mc ms cells slots v hf nx L (.inr 2 :: S) h) : XEa y mc ms cells slots v hf pc L S h := fun G p l e s m args below meth c C => k_getsS C hd (List.mem_filter.mpr ⟨of_decide_eq_true hl, rfl⟩) (kk G p l e s m args below meth c C)
theorem x_aldV {x : Int} (hd : xlook (xcode y) pc = some (.iaload, nx, kz, a, b)) (hx0 : 0 ≤ x) (hx : x < 9) (kk : XEa y mc ms cells slots v hf nx L (.inl (xVALS x.toNat) :: S) h) : XEa y mc ms cells slots v hf pc L (.inl x :: .inr 1 :: S) h := fun G p l e s m args below meth c C => k_ialdV C hd hx0 hx (kk G p l e s m args below meth c C)
theorem x_aldS {x : Int} (hd : xlook (xcode y) pc = some (.iaload, nx, kz, a, b)) (hx0 : 0 ≤ x) (hx : x < 9) (kk : XEa y mc ms cells slots v hf nx L (.inl (xSUPP x.toNat) :: S) h) : XEa y mc ms cells slots v hf pc L (.inl x :: .inr 2 :: S) h := fun G p l e s m args below meth c C => k_ialdS C hd hx0 hx (kk G p l e s m args below meth c C)
theorem x_putz {idx o : Nat} {x : Int} {n : Nat} {r : Nat → Nat → Option Nat} {I : Nat → Int → Int} (hd : xlook (xcode y) pc = some (.putfield idx, nx, kz, a, b)) (hok : (Nat.ble 3 o && (Nat.blt o n && (Nat.beq (xKd o) a && (Nat.blt a 10 && (Nat.blt b (xNF a) && Nat.beq (xFk a b) 1))))) = true) {bi : Int} (hbi : (b : Int) = bi) (hx : x = 0 ∨ x = 1) (kk : XEa y mc ms cells slots v hf nx L S (n, r, xup I o bi x)) : XEa y mc ms cells slots v hf pc L (.inl x :: .inr o :: S) (n, r, I) := by
  subst hbi
  intro G p l e s m args below meth c C
  simp only [Bool.and_eq_true] at hok
  obtain ⟨h3, h4, h5, h6, h7, h8⟩ := hok
  exact k_putz (h := (n, r, I)) C hd (Nat.le_of_ble_eq_true h3) (blt_of h4) (Nat.eq_of_beq_eq_true h5) (blt_of h6) (blt_of h7) (Nat.eq_of_beq_eq_true h8) hx (kk G p l e s m args below meth c C)
theorem x_aald {o q : Nat} {x : Int} {n : Nat} {r : Nat → Nat → Option Nat} {I : Nat → Int → Int} (hd : xlook (xcode y) pc = some (.aaload, nx, kz, a, b)) (hok : (Nat.ble 3 o && (Nat.blt o n && Nat.beq (xKd o) 11)) = true) (hx0 : 0 ≤ x) (hx : x < xLn o) (hq : r o x.toNat = some q) (kk : XEa y mc ms cells slots v hf nx L (.inr q :: S) (n, r, I)) : XEa y mc ms cells slots v hf pc L (.inl x :: .inr o :: S) (n, r, I) := by
  intro G p l e s m args below meth c C
  simp only [Bool.and_eq_true] at hok
  obtain ⟨h3, h4, h5⟩ := hok
  exact k_aald (h := (n, r, I)) C hd (Nat.le_of_ble_eq_true h3) (blt_of h4) (Nat.eq_of_beq_eq_true h5) hx0 hx hq (kk G p l e s m args below meth c C)
theorem x_alen {o : Nat} {n : Nat} {r : Nat → Nat → Option Nat} {I : Nat → Int → Int} (hd : xlook (xcode y) pc = some (.arraylength, nx, kz, a, b)) (hok : (Nat.ble 3 o && (Nat.blt o n && Nat.beq (xKd o) 11)) = true) {len : Nat} (hl : xLn o = len) (kk : XEa y mc ms cells slots v hf nx L (.inl len :: S) (n, r, I)) : XEa y mc ms cells slots v hf pc L (.inr o :: S) (n, r, I) := by
  subst hl
  intro G p l e s m args below meth c C
  simp only [Bool.and_eq_true] at hok
  obtain ⟨h3, h4, h5⟩ := hok
  exact k_alen (h := (n, r, I)) C hd (Nat.le_of_ble_eq_true h3) (blt_of h4) (Nat.eq_of_beq_eq_true h5) (kk G p l e s m args below meth c C)
/-- a switch -/
theorem x_tswI {d lo hi off : Int} {offs : Array Int} {x : Int} {tgt : Nat} (hd : xlook (xcode y) pc = some (.tableswitch d lo hi offs, nx, kz, a, b)) (hx : InR x) (h1 : lo ≤ x) (h2 : x ≤ hi) (ho : offs[(x - lo).toNat]? = some off) (ht : (pc : Int) + off = (tgt : Int)) (kk : XEa y mc ms cells slots v hf tgt L S h) : XEa y mc ms cells slots v hf pc L (.inl x :: S) h := by
  intro G p l e s m args below meth c C
  obtain ⟨hdg, -, -⟩ := xdec C.1 hd
  intro H locs ls hR hS hL
  exact lv_tableIn C.2.1 C.2.2.1 hdg (by rw [zI_toInt hx]; omega) (by rw [zI_toInt hx]; omega) (by rw [zI_toInt hx]; exact ho) ht (kk G p l e s m args below meth c C H locs ls hR hS hL)
theorem x_tswO {d lo hi : Int} {offs : Array Int} {x : Int} {tgt : Nat} (hd : xlook (xcode y) pc = some (.tableswitch d lo hi offs, nx, kz, a, b)) (hx : InR x) (h1 : x < lo ∨ hi < x) (ht : (pc : Int) + d = (tgt : Int)) (kk : XEa y mc ms cells slots v hf tgt L S h) : XEa y mc ms cells slots v hf pc L (.inl x :: S) h := by
  intro G p l e s m args below meth c C
  obtain ⟨hdg, -, -⟩ := xdec C.1 hd
  intro H locs ls hR hS hL
  exact lv_tableOut C.2.1 C.2.2.1 hdg (by rw [zI_toInt hx]; exact h1) ht (kk G p l e s m args below meth c C H locs ls hR hS hL)
/-- a row is copied whole -/
def xset (I : Nat → Int → Int) (o : Nat) (f : Int → Int) : Nat → Int → Int := fun a => if a = o then f else I a
theorem xset_ne {I : Nat → Int → Int} {o a : Nat} {f : Int → Int} (hn : a ≠ o) : xset I o f a = I a := by unfold xset; rw [if_neg hn]
theorem xset_at {I : Nat → Int → Int} {o : Nat} {f : Int → Int} : xset I o f o = f := by unfold xset; rw [if_pos rfl]
theorem x_copy {idx o q len : Nat} {n : Nat} {r : Nat → Nat → Option Nat} {I : Nat → Int → Int} (hd : xlook (xcode y) pc = some (.invokestatic idx, nx, kz, 902, b)) (hy : y < 106) (hfr : 1 ≤ xfr y) (hrl : S.length ≤ 8) (ho : 3 ≤ o) (ho2 : o < n) (hko : xKd o = 10) (hq : 3 ≤ q) (hq2 : q < n) (hkq : xKd q = 10) (hne : o ≠ q) (hlo : xLn o = len) (hlq : xLn q = len)
    (kk : XEa y mc ms cells slots v hf nx L S (n, r, xset I q (fun j => if 0 ≤ j ∧ j < len then I o j else I q j))) : XEa y mc ms cells slots v hf pc L (.inl len :: .inl 0 :: .inr q :: .inl 0 :: .inr o :: S) (n, r, I) := by
  intro G p l e s m args below meth c C
  have hli := xli_of hy hd
  obtain ⟨hdg, rfl, hlk⟩ := xd1 C (fun _ _ _ _ q => by cases q) hd
  intro H locs ls hR hS hL
  have hts := C.2.2.2.2.2.1
  have hn : n ≤ 117 := hR.2.2.1
  have hsm := xLn_small o (by omega)
  have hco := xAt_int (hR.2.2.2 o ho ho2) hko
  have hcq := xAt_int (hR.2.2.2 q hq hq2) hkq
  rw [hlo] at hco
  rw [hlq] at hcq
  have e0 : (zI 0).toNatClampNeg = 0 := by decide +kernel
  have i0 : (zI 0).toInt = 0 := by decide +kernel
  have eN : (zI len).toNatClampNeg = len := by rw [zI_clamp (by omega) ⟨by omega, by omega⟩]; omega
  have iN : (zI len).toInt = len := zI_toInt ⟨by omega, by omega⟩
  obtain ⟨-, k0, hk0, cm0, hkk0⟩ := xArr (t := 0) C rfl len (fun j => .int (zI (I o j)))
  obtain ⟨-, k1, hk1, cm1, hkk1⟩ := xArr (t := 0) C rfl len (fun j => .int (zI (I q j)))
  intro T hT X
  obtain ⟨vm', X', step⟩ := X.arraycopy C.2.1 C.2.2.2.2.1 (hts _ (xInG_of hli)) (hts _ (xInG_of xcopy_in.1)) (hts _ (xInG_of xcopy_in.2.1)) (hts _ (xInG_of xcopy_in.2.2)) (src := xph G o) (dst := xph G q) (cs := arrV G.2.2.1 len (fun j => .int (zI (I o j)))) (cd := arrV G.2.2.1 len (fun j => .int (zI (I q j)))) (srcPos := zI 0) (destPos := zI 0) (n := zI len) (by rw [hT]; exact hco) (by rw [hT]; exact hcq)
    (fun _ h => by cases h) (fun _ h => by cases h) (fun h => by cases h) (fun h => by cases h) hk0 hk1 hkk0 hkk1 (by decide) (by decide) (by decide) (by rw [← zI_0, zI_lt (by omega) (by omega)]; omega)
    (by rw [i0, iN, arrV_size]; omega) (by rw [i0, iN, arrV_size]; omega)
    (fun vm₁ _ i hi => by
      rw [eN] at hi
      have e : (arrV G.2.2.1 len (fun j => Value.int (zI (I o j)))).slots.getD ((zI 0).toNatClampNeg + i) .null = .int (zI (I o i)) := by
        rw [e0, Nat.zero_add, Array.getD_eq_getD_getElem?, arrV_read _ _ hi]
        rfl
      rw [e]
      exact ⟨rfl, trivial⟩)
    (g := F0 m pc ls (Value.int (zI len) :: .int (zI 0) :: .ref (xph G q) :: .int (zI 0) :: .ref (xph G o) :: S.map (xT G))) rfl (by rw [C.2.2.2.1]; exact hL.1) (rest := S.map (xT G)) rfl (by rw [C.2.2.1]; exact hdg) (by show 1 ≤ xfr y; exact hfr) (by show 2 * 0 + ((S.map (xT G)).map fun v => v.category).sum + (nativeFrameWords "java/lang/System" "arraycopy" 5 + 11) ≤ 41 * xfr y; rw [xsum_len, show nativeFrameWords "java/lang/System" "arraycopy" 5 = 7 by decide +kernel]; omega)
  have hcp : copied (arrV G.2.2.1 len (fun j => .int (zI (I o j)))) (arrV G.2.2.1 len (fun j => .int (zI (I q j)))) (zI 0) (zI 0) (zI len) = arrV G.2.2.1 len (fun j => .int (va_cpy (fun j : Nat => zI (I o j)) (fun j : Nat => zI (I q j)) (zI 0).toNatClampNeg (zI 0).toNatClampNeg (zI len).toNatClampNeg j)) := va_copied (fun z => .int z) _ _ (fun j : Nat => zI (I o j)) (fun j : Nat => zI (I q j)) (by rw [e0, eN]; omega)
  rw [hcp] at X' step
  have hlt : xph G q < H.size := (Array.getElem?_eq_some_iff.mp hcq).1
  have oq : ∀ (x : Cell) (u : Nat), u ≠ xph G q → (H.setIfInBounds (xph G q) x)[u]? = H[u]? := fun x u hu => by simp [Array.getElem?_setIfInBounds, Ne.symm hu]
  generalize hcell : arrV G.2.2.1 len (fun j => Value.int (va_cpy (fun j : Nat => zI (I o j)) (fun j : Nat => zI (I q j)) (zI 0).toNatClampNeg (zI 0).toNatClampNeg (zI len).toNatClampNeg j)) = cellN at X' step
  have hR1 : xRel G (n, r, xset I q (fun j => if 0 ≤ j ∧ j < len then I o j else I q j)) (H.setIfInBounds (xph G q) cellN) := by
    refine xRel_put (o := q) hR hq hq2 rfl (by simp) (oq _) (fun _ _ => rfl) (fun u hu => xset_ne hu) ?_
    unfold xAt
    rw [if_pos hkq, hlq]
    simp only [Array.getElem?_setIfInBounds, hlt, if_true]
    rw [← hcell]
    congr 2
    funext j
    show Value.int (va_cpy _ _ _ _ _ j) = Value.int (zI (xset I q _ q j))
    rw [xset_at, e0, eN]
    unfold va_cpy
    by_cases hj : j < len
    · rw [if_pos ⟨Nat.zero_le _, by omega⟩, if_pos ⟨by omega, by omega⟩]
      simp
    · rw [if_neg (by omega), if_neg (by omega)]
  obtain ⟨t, a1, b1⟩ := kk G p l e s m args below meth c C _ _ ls hR1 ⟨by simp; exact hS.1, fun u g1 g2 => by
      rw [oq _ _ (fun e => g2 (by rw [e]; exact xph_A hq))]
      exact hS.2.1 u g1 g2, fun u hu => by
      rcases List.mem_append.mp hu with h6 | h6
      · exact hS.2.2 u h6
      · obtain ⟨z, -, hz⟩ := List.mem_map.mp h6
        rw [← hz]
        exact xph_A hq⟩ hL _ (by rw [← hT]; rfl) X'
  exact ⟨t, step t a1, b1⟩
end XMORE
