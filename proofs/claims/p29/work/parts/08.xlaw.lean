/-! the rules of the law's own instructions: numbers that run over, shifts, masks, the script, the law's own rows -/
def nrm (x : Int) : Int := (zI x).toInt
theorem nrm_R (x : Int) : InR (nrm x) := by
  have h1 := Int32.le_toInt (zI x)
  have h2 := Int32.toInt_lt (zI x)
  unfold nrm
  omega
theorem nrm_id {x : Int} (h : InR x) : nrm x = x := zI_toInt h
theorem zI_nrm (x : Int) : zI (nrm x) = zI x := Int32.ofInt_toInt _
theorem zI_and31b (x : Int) : zI x &&& zI 2147483647 = zI (x % 2147483648) := by
  apply Int32.toBitVec.inj
  rw [Int32.toBitVec_and]
  show BitVec.ofInt 32 x &&& BitVec.ofInt 32 ((2 ^ 31 - 1 : Nat) : Int) = BitVec.ofInt 32 (x % ((2 ^ 31 : Nat) : Int))
  apply BitVec.eq_of_toNat_eq
  rw [BitVec.toNat_and, BitVec.toNat_ofInt, BitVec.toNat_ofInt, BitVec.toNat_ofInt]
  have key : (((2 ^ 31 - 1 : Nat) : Int) % ((2 ^ 32 : Nat) : Int)).toNat = 2 ^ 31 - 1 := by decide +kernel
  rw [key, Nat.and_two_pow_sub_one_eq_mod]
  simp only [Nat.reducePow]
  omega
theorem zI_and3 (x : Int) : zI x &&& zI 3 = zI (x % 4) := zI_and_mask x 2 (by omega)
theorem zI_sh_k : ∀ n, n < 32 → ((zI ((n : Nat) : Int) &&& 31).toBitVec.smod 32).toNat = n := by decide +kernel
theorem zI_shrG {x k : Int} (k0 : 0 ≤ k) (k1 : k ≤ 31) : zI x >>> (zI k &&& 31) = zI (nrm x / xpw k) := by
  obtain ⟨n, rfl⟩ := Int.eq_ofNat_of_zero_le k0
  have e : (zI x >>> (zI (n : Int) &&& 31)).toInt = nrm x / xpw (n : Int) := by
    show ((zI x).toBitVec.sshiftRight ((zI (n : Int) &&& 31).toBitVec.smod 32).toNat).toInt = _
    rw [zI_sh_k n (by omega), BitVec.toInt_sshiftRight, Int.shiftRight_eq_div_pow]
    rfl
  rw [← e]
  exact (Int32.ofInt_toInt _).symm
theorem xpw_pos (k : Int) : 1 ≤ xpw k := by
  have : 0 < 2 ^ k.toNat := Nat.pow_pos (by omega)
  unfold xpw
  omega
theorem div_R {x d : Int} (h : InR x) (hd : 1 ≤ d) : InR (x / d) := by
  have h1 : -2147483648 ≤ x / d := Int.le_ediv_of_mul_le (by omega) (by omega)
  have h2 : x / d < 2147483648 := Int.ediv_lt_of_lt_mul (by omega) (by omega)
  exact ⟨h1, h2⟩
section XLAW
variable {y : Nat} {G : XG} {p : Program} {l : Launch} {e : Env} {R : Room} {s : State} {m : MethodId} {args : Array Value} {below : List Frame} {meth : Method} {c : Code} {Q : State → Prop} {cells slots : Nat}
variable {pc nx a b : Nat} {k : Int} {L : XL} {S : List XV} {h : XH} {r : Nat → Nat → Option Nat} {I : Nat → Int → Int}
theorem k_nrm {x : Int} (kk : xK y G p l e R s m args below meth c Q cells slots pc L (.inl (nrm x) :: S) h) : xK y G p l e R s m args below meth c Q cells slots pc L (.inl x :: S) h := by
  intro H locs ls hR hS hL
  have := kk H locs ls hR hS hL
  rw [List.map_cons, show xT G (.inl (nrm x)) = xT G (.inl x) from congrArg Value.int (zI_nrm x)] at this
  exact this
theorem k_ishrG {x z : Int} (C : xCx y G p s m args meth c) (hd : xlook (xcode y) pc = some (.ishr, nx, k, a, b)) (hz0 : 0 ≤ z) (hz : z ≤ 31) (kk : xK y G p l e R s m args below meth c Q cells slots nx L (.inl (nrm x / xpw z) :: S) h) : xK y G p l e R s m args below meth c Q cells slots pc L (.inl z :: .inl x :: S) h := by
  obtain ⟨hdg, rfl, hlk⟩ := xd1 C (fun _ _ _ _ q => by cases q) hd
  intro H locs ls hR hS hL
  refine lv_ishr C.2.1 C.2.2.1 hdg ?_
  have := kk H locs ls hR hS hL
  rw [List.map_cons, show xT G (.inl (nrm x / xpw z)) = .int (zI x >>> (zI z &&& 31)) from congrArg Value.int (zI_shrG hz0 hz).symm] at this
  exact this
theorem k_iandB {x : Int} (C : xCx y G p s m args meth c) (hd : xlook (xcode y) pc = some (.iand, nx, k, a, b)) (kk : xK y G p l e R s m args below meth c Q cells slots nx L (.inl (x % 2147483648) :: S) h) : xK y G p l e R s m args below meth c Q cells slots pc L (.inl 2147483647 :: .inl x :: S) h := by
  obtain ⟨hdg, rfl, hlk⟩ := xd1 C (fun _ _ _ _ q => by cases q) hd
  intro H locs ls hR hS hL
  refine lv_iand C.2.1 C.2.2.1 hdg ?_
  have := kk H locs ls hR hS hL
  rw [List.map_cons, show xT G (.inl (x % 2147483648)) = .int (zI x &&& zI 2147483647) from congrArg Value.int (zI_and31b x).symm] at this
  exact this
theorem k_iand3 {x : Int} (C : xCx y G p s m args meth c) (hd : xlook (xcode y) pc = some (.iand, nx, k, a, b)) (kk : xK y G p l e R s m args below meth c Q cells slots nx L (.inl (x % 4) :: S) h) : xK y G p l e R s m args below meth c Q cells slots pc L (.inl 3 :: .inl x :: S) h := by
  obtain ⟨hdg, rfl, hlk⟩ := xd1 C (fun _ _ _ _ q => by cases q) hd
  intro H locs ls hR hS hL
  refine lv_iand C.2.1 C.2.2.1 hdg ?_
  have := kk H locs ls hR hS hL
  rw [List.map_cons, show xT G (.inl (x % 4)) = .int (zI x &&& zI 3) from congrArg Value.int (zI_and3 x).symm] at this
  exact this
/-- the script -/
theorem k_lenS (C : xCx y G p s m args meth c) (hd : xlook (xcode y) pc = some (.arraylength, nx, k, a, b)) (kk : xK y G p l e R s m args below meth c Q cells slots nx L (.inl (G.1.2.2.2.2.1 : Int) :: S) h) : xK y G p l e R s m args below meth c Q cells slots pc L (.inr 0 :: S) h := by
  obtain ⟨hdg, rfl, -⟩ := xd1 C (fun _ _ _ _ q => by cases q) hd
  intro H locs ls hR hS hL
  exact va_tlen C.2.1 C.2.2.1 C.2.2.2.2.2.2.2.2.2.2.2.2.2.2 hS (v := zI (G.1.2.2.2.2.1 : Int)) rfl hdg (kk H locs ls hR hS hL)
theorem k_aldS {x : Int} (C : xCx y G p s m args meth c) (hd : xlook (xcode y) pc = some (.iaload, nx, k, a, b)) (hb : G.1.2.2.2.2.1 ≤ 260) (hx0 : 0 ≤ x) (hx : x < G.1.2.2.2.2.1) (kk : xK y G p l e R s m args below meth c Q cells slots nx L (.inl ((G.1.2.2.2.2.2 x.toNat).toInt) :: S) h) : xK y G p l e R s m args below meth c Q cells slots pc L (.inl x :: .inr 0 :: S) h := by
  obtain ⟨hdg, rfl, -⟩ := xd1 C (fun _ _ _ _ q => by cases q) hd
  intro H locs ls hR hS hL
  refine va_ti C.2.1 C.2.2.1 C.2.2.2.2.2.2.2.2.2.2.2.2.2.2 hS (i := zI x) (zI_in hx0 hx (by omega)) (v := .int (G.1.2.2.2.2.2 x.toNat)) (by rw [zI_clamp hx0 ⟨by omega, by omega⟩]) hdg ?_
  have := kk H locs ls hR hS hL
  rw [List.map_cons, show xT G (.inl ((G.1.2.2.2.2.2 x.toNat).toInt)) = .int (G.1.2.2.2.2.2 x.toNat) from congrArg Value.int (Int32.ofInt_toInt _)] at this
  exact this
/-- the law's own rows -/
def mkE (I : Nat → Int → Int) (len : Nat) : Nat → Int → Int := xset (xup I 0 0 (I 0 0 + 1)) (200 + (I 0 0).toNat) (fun j => if j = -1 then (len : Int) else 0)
theorem mkE_ne {I : Nat → Int → Int} {len a : Nat} (h : a ≠ 0) (h2 : a ≠ 200 + (I 0 0).toNat) : mkE I len a = I a := by unfold mkE; rw [xset_ne h2, xup_ne h]
theorem mkE_0 {I : Nat → Int → Int} {len : Nat} : mkE I len 0 0 = I 0 0 + 1 := by unfold mkE; rw [xset_ne (by omega), xup_at, if_pos rfl]
theorem mkE_at {I : Nat → Int → Int} {len : Nat} : mkE I len (200 + (I 0 0).toNat) = fun j => if j = -1 then (len : Int) else 0 := by unfold mkE; rw [xset_at]
theorem exN_117 {r : Nat → Nat → Option Nat} {I : Nat → Int → Int} : exN (117, r, I) = (I 0 0).toNat := rfl
theorem xRel_pushE {H H' : Heap} {len : Nat} (hR : xRel G (117, r, I) H) (h0 : 0 ≤ I 0 0) (z : H'.size = H.size + 1) (o : ∀ q : Nat, q < H.size → H'[q]? = H[q]?) (hat : H'[H.size]? = some (arrV G.2.2.1 len (fun _ => .int 0))) : xRel G (117, r, mkE I len) H' := by
  obtain ⟨⟨h1, h1e⟩, h2, h3, h4⟩ := hR
  rw [exN_117] at h1 h1e
  have h1 : H.size = G.1.2.2.1 + 114 + (I 0 0).toNat := h1
  have en : exN (117, r, mkE I len) = (I 0 0).toNat + 1 := by rw [exN_117, mkE_0]; omega
  refine ⟨⟨by rw [en, z, h1]; rfl, fun t ht => ?_⟩, h2, h3, fun k k3 kn => ?_⟩
  · rw [en] at ht
    unfold xEx
    have hx : xph G (117 + t) = G.1.2.2.1 + 114 + t := by unfold xph; rw [if_pos (by omega)]; omega
    rw [hx]
    by_cases w : t = (I 0 0).toNat
    · rw [w, ← h1, hat]
      show _ = some (arrV G.2.2.1 (mkE I len (200 + (I 0 0).toNat) (-1)).toNat (fun j => .int (zI (mkE I len (200 + (I 0 0).toNat) j))))
      rw [mkE_at]
      congr 2
    · have h5 := h1e t (by omega)
      unfold xEx at h5
      rw [hx] at h5
      show H'[G.1.2.2.1 + 114 + t]? = some (arrV G.2.2.1 (mkE I len (200 + t) (-1)).toNat (fun j => .int (zI (mkE I len (200 + t) j))))
      rw [mkE_ne (by omega) (by omega), o _ (by omega)]
      exact h5
  · have kn : k < 117 := kn
    have h5 := h4 k k3 kn
    have hk : mkE I len k = I k := mkE_ne (by omega) (by omega)
    have ho := o (xph G k) (by unfold xph; rw [if_pos k3]; omega)
    unfold xAt at h5 ⊢
    show if xKd k = 10 then H'[xph G k]? = some (arrV G.2.2.1 (xLn k) (fun j => .int (zI (mkE I len k j)))) else if xKd k = 11 then H'[xph G k]? = some (arrV G.2.2.2 (xLn k) (fun j => xrf G (r k j))) else t_OB (xph G k) (G.2.1.1 (xKd k)) (xLn k) (G.2.1.2 (xKd k)) H' (xvl G (117, r, mkE I len) (xKd k) k)
    rw [hk]
    split at h5
    · rename_i hk2
      rw [if_pos hk2, ho]
      exact h5
    · rename_i hk2
      rw [if_neg hk2]
      split at h5
      · rename_i hk3
        rw [if_pos hk3, ho]
        exact h5
      · rename_i hk3
        rw [if_neg hk3]
        refine (h5.kept ho).to (fun j _ => ?_)
        show (if xFk (xKd k) j = 2 then xrf G (r k j) else Value.int (zI (I k j))) = (if xFk (xKd k) j = 2 then xrf G (r k j) else Value.int (zI (mkE I len k j)))
        rw [hk]
theorem k_newE {len : Nat} (C : xCx y G p s m args meth c) (hd : xlook (xcode y) pc = some (.newarray .int, nx, k, a, b)) (hl : len < 2000) (h0 : 0 ≤ I 0 0) (hc : cells + 1 ≤ R.cells ∧ slots + len ≤ R.slots)
    (kk : xK y G p l e R s m args below meth c Q (cells + 1) (slots + len) nx L (.inr (117 + (I 0 0).toNat) :: S) (117, r, mkE I len)) : xK y G p l e R s m args below meth c Q cells slots pc L (.inl (len : Int) :: S) (117, r, I) := by
  obtain ⟨hdg, rfl, hlk⟩ := xd1 C (fun _ _ _ _ q => by cases q) hd
  intro H locs ls hR hS hL
  have hts := C.2.2.2.2.2.1
  have hRA : s.vm.findClass ("[" ++ (newarray.typeOf .int).toString) = some G.2.2.1 := (C.2.2.2.2.2.2.2.2.2.1.1.2 0 _ rfl).2
  have hsz : H.size = xph G (117 + (I 0 0).toNat) := by
    have h1 := hR.1.1
    rw [exN_117] at h1
    have h1 : H.size = G.1.2.2.1 + 114 + (I 0 0).toNat := h1
    unfold xph
    rw [if_pos (by omega)]
    omega
  refine va_newaK (atype := .int) C.2.1 C.2.2.1 (hts _ (xInG_of xnew_in)) rfl hdg rfl (N := len) ?_ (by rw [zI_clamp (by omega) ⟨by omega, by omega⟩]; omega) (by show len * 4 ≤ _; omega) hc.1 hc.2 hsz fun H1 cA e1 z1 o1 _ hNm => ?_
  · rw [← zI_0, zI_lt (by omega) (by omega)]
    omega
  · have ecA : cA = G.2.2.1 := Option.some.inj (hNm.symm.trans hRA)
    refine kk H1 locs ls (xRel_pushE hR h0 (by omega) (fun q hq => o1 q (by omega)) ?_) ⟨Nat.le_trans hS.1 (by omega), fun x h1 h2 => (o1 x (by have := hS.1; omega)).trans (hS.2.1 x h1 h2), hS.2.2⟩ hL
    rw [hsz, e1, ecA]
    rfl
theorem k_aldE {t : Nat} {x : Int} (C : xCx y G p s m args meth c) (hd : xlook (xcode y) pc = some (.iaload, nx, k, a, b)) (ht : t < (I 0 0).toNat) (hx0 : 0 ≤ x) (hx : x < I (200 + t) (-1)) (hl : I (200 + t) (-1) < 2000)
    (kk : xK y G p l e R s m args below meth c Q cells slots nx L (.inl (I (200 + t) x) :: S) (117, r, I)) : xK y G p l e R s m args below meth c Q cells slots pc L (.inl x :: .inr (117 + t) :: S) (117, r, I) := by
  obtain ⟨hdg, rfl, hlk⟩ := xd1 C (fun _ _ _ _ q => by cases q) hd
  intro H locs ls hR hS hL
  have hc : H[xph G (117 + t)]? = some (arrV G.2.2.1 (I (200 + t) (-1)).toNat (fun j => .int (zI (I (200 + t) j)))) := hR.1.2 t ht
  refine W.iald (v := .int (zI (I (200 + t) x))) C.2.1 C.2.2.1 hc (xArr (t := 0) C rfl _ (fun j => .int (zI (I (200 + t) j)))) (fun q => by cases q) (j := zI x) ?_ ?_ rfl rfl hdg (kk H locs ls hR hS hL)
  · rw [arrV_size]
    exact zI_in hx0 (by omega) (by omega)
  · rw [zI_clamp hx0 ⟨by omega, by omega⟩, arrV_read _ _ (by omega), Int.toNat_of_nonneg hx0]
theorem k_astE {t : Nat} {x v : Int} (C : xCx y G p s m args meth c) (hd : xlook (xcode y) pc = some (.iastore, nx, k, a, b)) (ht : t < (I 0 0).toNat) (hx0 : 0 ≤ x) (hx : x < I (200 + t) (-1)) (hl : I (200 + t) (-1) < 2000)
    (kk : xK y G p l e R s m args below meth c Q cells slots nx L S (117, r, xup I (200 + t) x v)) : xK y G p l e R s m args below meth c Q cells slots pc L (.inl v :: .inl x :: .inr (117 + t) :: S) (117, r, I) := by
  obtain ⟨hdg, rfl, hlk⟩ := xd1 C (fun _ _ _ _ q => by cases q) hd
  intro H locs ls hR hS hL
  have hc : H[xph G (117 + t)]? = some (arrV G.2.2.1 (I (200 + t) (-1)).toNat (fun j => .int (zI (I (200 + t) j)))) := hR.1.2 t ht
  refine W.iast C.2.1 C.2.2.1 hc (xArr (t := 0) C rfl _ (fun j => .int (zI (I (200 + t) j)))) (fun q => by cases q) (j := zI x) ?_ rfl rfl hdg (fun H' w1 w2 w3 => ?_)
  · rw [arrV_size]
    exact zI_in hx0 (by omega) (by omega)
  · refine kk H' _ ls ?_ (hS.put w2 w3 (xph_A (by omega))) hL
    have hi : ∀ a : Nat, a ≠ 200 + t → xup I (200 + t) x v a = I a := fun a w => xup_ne w
    refine ⟨⟨?_, fun u hu => ?_⟩, hR.2.1, hR.2.2.1, fun q q3 qn => ?_⟩
    · rw [w2, exN_117, hi 0 (by omega)]
      exact hR.1.1
    · rw [exN_117, hi 0 (by omega)] at hu
      unfold xEx
      show H'[xph G (117 + u)]? = some (arrV G.2.2.1 (xup I (200 + t) x v (200 + u) (-1)).toNat (fun j => .int (zI (xup I (200 + t) x v (200 + u) j))))
      by_cases w : u = t
      · rw [w, w1, arrV_store, zI_clamp hx0 ⟨by omega, by omega⟩, xup_at, if_neg (by omega)]
        congr 2
        funext j
        unfold updV
        show _ = Value.int (zI (xup I (200 + t) x v (200 + t) j))
        rw [xup_at]
        by_cases hj : j = x.toNat
        · rw [if_pos hj, if_pos (by omega)]
        · rw [if_neg hj, if_neg (by omega)]
      · rw [hi (200 + u) (by omega), w3 _ (fun q => w (by have := xph_inj (by omega) (by omega) q; omega))]
        exact hR.1.2 u hu
    · have qn : q < 117 := qn
      have h3 := hR.2.2.2 q q3 qn
      have e : H'[xph G q]? = H[xph G q]? := w3 _ (fun w => by have := xph_inj q3 (by omega) w; omega)
      have hq := hi q (by omega)
      unfold xAt at h3 ⊢
      show if xKd q = 10 then H'[xph G q]? = some (arrV G.2.2.1 (xLn q) (fun j => .int (zI (xup I (200 + t) x v q j)))) else if xKd q = 11 then H'[xph G q]? = some (arrV G.2.2.2 (xLn q) (fun j => xrf G (r q j))) else t_OB (xph G q) (G.2.1.1 (xKd q)) (xLn q) (G.2.1.2 (xKd q)) H' (xvl G (117, r, xup I (200 + t) x v) (xKd q) q)
      rw [hq]
      split at h3
      · rename_i hk2
        rw [if_pos hk2, e]
        exact h3
      · rename_i hk2
        rw [if_neg hk2]
        split at h3
        · rename_i hk3
          rw [if_pos hk3, e]
          exact h3
        · rename_i hk3
          rw [if_neg hk3]
          refine (h3.kept e).to (fun j _ => ?_)
          show (if xFk (xKd q) j = 2 then xrf G (r q j) else Value.int (zI (I q j))) = (if xFk (xKd q) j = 2 then xrf G (r q j) else Value.int (zI (xup I (200 + t) x v q j)))
          rw [hq]
end XLAW
section XLAWE
variable {y mc ms cells slots : Nat} {v : Option XV} {hf : XH}
variable {pc nx a b : Nat} {kz : Int} {L : XL} {S : List XV} {h : XH} {r : Nat → Nat → Option Nat} {I : Nat → Int → Int}
theorem x_nrm {x : Int} (kk : XEa y mc ms cells slots v hf pc L (.inl (nrm x) :: S) h) : XEa y mc ms cells slots v hf pc L (.inl x :: S) h := fun G p l e s m args below meth c C => k_nrm (kk G p l e s m args below meth c C)
theorem x_ishrG {x z : Int} (hd : xlook (xcode y) pc = some (.ishr, nx, kz, a, b)) (hz0 : 0 ≤ z) (hz : z ≤ 31) (kk : XEa y mc ms cells slots v hf nx L (.inl (nrm x / xpw z) :: S) h) : XEa y mc ms cells slots v hf pc L (.inl z :: .inl x :: S) h := fun G p l e s m args below meth c C => k_ishrG C hd hz0 hz (kk G p l e s m args below meth c C)
theorem x_iandB {x : Int} (hd : xlook (xcode y) pc = some (.iand, nx, kz, a, b)) (kk : XEa y mc ms cells slots v hf nx L (.inl (x % 2147483648) :: S) h) : XEa y mc ms cells slots v hf pc L (.inl 2147483647 :: .inl x :: S) h := fun G p l e s m args below meth c C => k_iandB C hd (kk G p l e s m args below meth c C)
theorem x_iand3 {x : Int} (hd : xlook (xcode y) pc = some (.iand, nx, kz, a, b)) (kk : XEa y mc ms cells slots v hf nx L (.inl (x % 4) :: S) h) : XEa y mc ms cells slots v hf pc L (.inl 3 :: .inl x :: S) h := fun G p l e s m args below meth c C => k_iand3 C hd (kk G p l e s m args below meth c C)
theorem x_newE {len : Nat} (hd : xlook (xcode y) pc = some (.newarray .int, nx, kz, a, b)) (hl : len < 2000) (h0 : 0 ≤ I 0 0) (hc : cells + 1 ≤ mc ∧ slots + len ≤ ms) (kk : XEa y mc ms (cells + 1) (slots + len) v hf nx L (.inr (117 + (I 0 0).toNat) :: S) (117, r, mkE I len)) : XEa y mc ms cells slots v hf pc L (.inl (len : Int) :: S) (117, r, I) := fun G p l e s m args below meth c C => k_newE C hd hl h0 hc (kk G p l e s m args below meth c C)
theorem x_aldE {t : Nat} {x : Int} (hd : xlook (xcode y) pc = some (.iaload, nx, kz, a, b)) (ht : t < (I 0 0).toNat) (hx0 : 0 ≤ x) (hx : x < I (200 + t) (-1)) (hl : I (200 + t) (-1) < 2000) (kk : XEa y mc ms cells slots v hf nx L (.inl (I (200 + t) x) :: S) (117, r, I)) : XEa y mc ms cells slots v hf pc L (.inl x :: .inr (117 + t) :: S) (117, r, I) := fun G p l e s m args below meth c C => k_aldE C hd ht hx0 hx hl (kk G p l e s m args below meth c C)
theorem x_astE {t : Nat} {x w : Int} (hd : xlook (xcode y) pc = some (.iastore, nx, kz, a, b)) (ht : t < (I 0 0).toNat) (hx0 : 0 ≤ x) (hx : x < I (200 + t) (-1)) (hl : I (200 + t) (-1) < 2000) (kk : XEa y mc ms cells slots v hf nx L S (117, r, xup I (200 + t) x w)) : XEa y mc ms cells slots v hf pc L (.inl w :: .inl x :: .inr (117 + t) :: S) (117, r, I) := fun G p l e s m args below meth c C => k_astE C hd ht hx0 hx hl (kk G p l e s m args below meth c C)
theorem x_ghost {pc : Nat} {J : Nat → Int → Int} (z : Int → Int) (hI : ∀ (G : XG) (H : Heap), xRel G (117, r, I) H → xRel G (117, r, J) H) (kk : XEa y mc ms cells slots v hf pc L S (117, r, J)) : XEa y mc ms cells slots v hf pc L S (117, r, I) := fun G p l e s m args below meth c C H locs ls hR hS hL => kk G p l e s m args below meth c C H locs ls (hI G H hR) hS hL
end XLAWE
/-- a contract for one G -/
theorem xMetG {y mc ms : Nat} {as : List XV} {h : XH} {v : Option XV} {h' : XH} (G : XG) (hy : y < 106) (hn : as.length ≤ xml y)
    (K : ∀ (p : Program) (l : Launch) (e : Env) (s : State) (m : MethodId) (args : Array Value) (below : List Frame) (meth : Method) (c : Code), xCx y G p s m args meth c → xK y G p l e (xRm y mc ms) s m args below meth c (MQ below (xQ G v h') args s mc ms (xA G)) 0 0 0 (xini 0 as) [] h) : ∀ l : Launch, Met l (xname y) (xws y) (xRm y mc ms) (xPc G as h) (xQ G v h') mc ms (xA G) := by
  intro l
  refine Met.ofW (cc := xbytes y) (maxL := xml y) (ret := xret y) (xM_of hy).2.2.2.1 rfl ?_
  intro p e s m args below meth c s₁ B hml hv
  obtain ⟨rfl, hKs, hFor, hR⟩ := hv
  have hts := atoms_spec (ws := xws y) B.pre
  have hC : xCx y G p s m (as.map (xT G)).toArray meth c := ⟨by omega, B.exec, B.bytes, hml, by rw [← (xM_of hy).2.2.1]; exact findClass_of_methodNamed B.named, fun w hw => hts w (List.mem_cons_of_mem _ hw), B.returns, B.notSynchronized, (name_of_methodNamed B.named B.method).1, hKs, hFor⟩
  have hl := lv_entry (as.map (xT G)) (n := xml y) (by rw [xsl_len]; exact hn)
  rw [lg_entry_eq]
  exact K p l e s m _ below meth c hC s.heap [] _ hR va_S.rf ⟨hl.1, hl.2.1, fun k w hk => hl.2.2 (k, xT G w) (xini_args as 0 k w hk)⟩
/-- what a cell of the script answers -/
def ceS (G : XG) (x : Int) : Int := if x < G.1.2.2.2.2.1 then (G.1.2.2.2.2.2 x.toNat).toInt else nrm (2065468725 * (x + 1))
theorem ceS_R (G : XG) (x : Int) : InR (ceS G x) := by
  unfold ceS
  split
  · have h1 := Int32.le_toInt (G.1.2.2.2.2.2 x.toNat)
    have h2 := Int32.toInt_lt (G.1.2.2.2.2.2 x.toNat)
    omega
  · exact nrm_R _
theorem cL_cell (G : XG) (hb : G.1.2.2.2.2.1 ≤ 260) (h : XH) (x : Int) (h0 : 0 ≤ x) (h1 : x ≤ 1000) : ∀ l : Launch, Met l (xname mL_cell) (xws mL_cell) (xRm mL_cell 0 0) (xPc G [.inr 0, .inl x] h) (xQ G (some (.inl (ceS G x))) h) 0 0 (xA G) := by
  refine xMetG G (by decide) (Nat.le_of_ble_eq_true rfl) ?_
  intro p l e s m args below meth c C
  repeat refine k_step C rfl ?_
  refine k_lenS C rfl ?_
  refine k_br C (cn := 2) rfl (by omega) (by omega) (fun w => ?_) (fun w => ?_)
  · have w : (G.1.2.2.2.2.1 : Int) ≤ x := w
    repeat refine k_step C rfl ?_
    refine k_nrm ?_
    have he : ceS G x = nrm (2065468725 * (x + 1)) := by unfold ceS; rw [if_neg (by omega)]
    rw [he]
    exact x_iret (y := mL_cell) rfl rfl rfl rfl G p l e s m args below meth c C
  · have w : ¬ (G.1.2.2.2.2.1 : Int) ≤ x := w
    repeat refine k_step C rfl ?_
    refine k_aldS C rfl hb h0 (by omega) ?_
    repeat refine k_step C rfl ?_
    have he : ceS G x = (G.1.2.2.2.2.2 x.toNat).toInt := by unfold ceS; rw [if_pos (by omega)]
    rw [he]
    exact x_iret (y := mL_cell) rfl rfl rfl rfl G p l e s m args below meth c C
