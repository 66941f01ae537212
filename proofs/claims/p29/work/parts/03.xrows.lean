section XROWS
variable {y : Nat} {G : XG} {p : Program} {l : Launch} {e : Env} {R : Room} {s : State} {m : MethodId} {args : Array Value} {below : List Frame} {meth : Method} {c : Code} {Q : State → Prop} {cells slots : Nat}
variable {pc nx a b : Nat} {k : Int} {L : XL} {S : List XV} {h : XH}
theorem xdn1 {i : Instr} (hi : ∀ d lo hi' o, i ≠ .tableswitch d lo hi' o) (hx : xln (pc, (i, nx, k, a, b)) = true) : nx = pc + xlen i := by
  unfold xln at hx
  cases i <;> first | exact Nat.eq_of_beq_eq_true hx | exact absurd rfl (hi _ _ _ _)
theorem xd1 {i : Instr} (C : xCx y G p s m args meth c) (hi : ∀ d lo hi' o, i ≠ .tableswitch d lo hi' o) (hd : xlook (xcode y) pc = some (i, nx, k, a, b)) : decode (xbytes y) pc = .ok (i, xlen i) ∧ nx = pc + xlen i ∧ xlk (xown y) pc (i, nx, k, a, b) = true := by
  obtain ⟨h1, h2, h3⟩ := xdec C.1 hd
  have h4 := xdn1 hi h2
  refine ⟨?_, h4, h3⟩
  rw [h1, h4]
  simp
theorem xcat (v : XV) : (xT G v).category = 1 := by cases v <;> rfl
theorem xLoc_store {ls : Array Slot} {n i : Nat} {v : XV} (hL : xLoc G ls n L) (hi : i < n) : ∃ lv : List (Nat × Value), lv_has ls n lv ∧ ∀ ls' : Array Slot, lv_has ls' n ((i, xT G v) :: lv.filter (fun q => !(q.1 == i) && !(q.1 + 1 == i && q.2.category == 2))) → xLoc G ls' n ((i, v) :: L) := by
  obtain ⟨h1, h2, h3⟩ := hL
  refine ⟨(List.range n).filterMap (fun j => match (ls[j]? : Option Slot) with | some (Slot.val w) => some (j, w) | _ => none), ⟨h1, h2, fun q hq => ?_⟩, fun ls' h' => ⟨h'.1, h'.2.1, fun j v' hj => ?_⟩⟩
  · obtain ⟨j, -, hj⟩ := List.mem_filterMap.mp hq
    split at hj
    · rename_i w hw
      cases hj
      exact hw
    · cases hj
  · unfold xget at hj
    cases hb : Nat.beq i j with
    | true =>
      rw [hb] at hj
      cases hj
      have e := Nat.eq_of_beq_eq_true hb
      subst e
      exact h'.2.2 _ List.mem_cons_self
    | false =>
      rw [hb] at hj
      have hne : ¬ j = i := fun q => by
        rw [q] at hb
        have := Nat.beq_refl i
        rw [hb] at this
        cases this
      have h4 := h3 j v' hj
      have hjn : j < n := by
        rw [← h1]
        exact (Array.getElem?_eq_some_iff.mp h4).1
      refine h'.2.2 (j, xT G v') (List.mem_cons_of_mem _ (List.mem_filter.mpr ⟨List.mem_filterMap.mpr ⟨j, List.mem_range.mpr hjn, by rw [h4]⟩, ?_⟩))
      simp [hne, xcat]
theorem k_iconst {n : Int} (C : xCx y G p s m args meth c) (hd : xlook (xcode y) pc = some (.iconst n, nx, k, a, b)) (kk : xK y G p l e R s m args below meth c Q cells slots nx L (.inl k :: S) h) : xK y G p l e R s m args below meth c Q cells slots pc L S h := by
  obtain ⟨hdg, rfl, hlk⟩ := xd1 C (fun _ _ _ _ q => by cases q) hd
  intro H locs ls hR hS hL
  exact lv_iconst C.2.1 C.2.2.1 hdg (of_decide_eq_true hlk) (kk H locs ls hR hS hL)
theorem k_bipush {n : Int} (C : xCx y G p s m args meth c) (hd : xlook (xcode y) pc = some (.bipush n, nx, k, a, b)) (kk : xK y G p l e R s m args below meth c Q cells slots nx L (.inl k :: S) h) : xK y G p l e R s m args below meth c Q cells slots pc L S h := by
  obtain ⟨hdg, rfl, hlk⟩ := xd1 C (fun _ _ _ _ q => by cases q) hd
  intro H locs ls hR hS hL
  exact lv_bipush C.2.1 C.2.2.1 hdg (of_decide_eq_true hlk) (kk H locs ls hR hS hL)
theorem k_sipush {n : Int} (C : xCx y G p s m args meth c) (hd : xlook (xcode y) pc = some (.sipush n, nx, k, a, b)) (kk : xK y G p l e R s m args below meth c Q cells slots nx L (.inl k :: S) h) : xK y G p l e R s m args below meth c Q cells slots pc L S h := by
  obtain ⟨hdg, rfl, hlk⟩ := xd1 C (fun _ _ _ _ q => by cases q) hd
  intro H locs ls hR hS hL
  exact lv_sipush C.2.1 C.2.2.1 hdg (of_decide_eq_true hlk) (kk H locs ls hR hS hL)
theorem k_ldc {n : Nat} (C : xCx y G p s m args meth c) (hd : xlook (xcode y) pc = some (.ldc n, nx, k, a, b)) (kk : xK y G p l e R s m args below meth c Q cells slots nx L (.inl k :: S) h) : xK y G p l e R s m args below meth c Q cells slots pc L S h := by
  obtain ⟨hdg, rfl, hlk⟩ := xd1 C (fun _ _ _ _ q => by cases q) hd
  intro H locs ls hR hS hL
  exact lv_ldc C.2.1 C.2.2.1 C.2.2.2.2.1 (C.2.2.2.2.2.1 _ (xInG_of hlk)) hdg (kk H locs ls hR hS hL)
theorem k_iload_n {n : Fin 4} {x : Int} (C : xCx y G p s m args meth c) (hd : xlook (xcode y) pc = some (.iload_n n, nx, k, a, b)) (hv : xget L a = some (.inl x)) (kk : xK y G p l e R s m args below meth c Q cells slots nx L (.inl x :: S) h) : xK y G p l e R s m args below meth c Q cells slots pc L S h := by
  obtain ⟨hdg, rfl, hlk⟩ := xd1 C (fun _ _ _ _ q => by cases q) hd
  intro H locs ls hR hS hL
  exact lv_iload_n C.2.1 C.2.2.1 hdg (of_decide_eq_true hlk) (hL.2.2 _ _ hv) (kk H locs ls hR hS hL)
theorem k_iload {n : Nat} {x : Int} (C : xCx y G p s m args meth c) (hd : xlook (xcode y) pc = some (.iload n, nx, k, a, b)) (hv : xget L a = some (.inl x)) (kk : xK y G p l e R s m args below meth c Q cells slots nx L (.inl x :: S) h) : xK y G p l e R s m args below meth c Q cells slots pc L S h := by
  obtain ⟨hdg, rfl, hlk⟩ := xd1 C (fun _ _ _ _ q => by cases q) hd
  have hn : n = a := of_decide_eq_true hlk
  subst hn
  intro H locs ls hR hS hL
  exact lv_iload C.2.1 C.2.2.1 hdg (hL.2.2 _ _ hv) (kk H locs ls hR hS hL)
theorem k_aload_n {n : Fin 4} {x : Nat} (C : xCx y G p s m args meth c) (hd : xlook (xcode y) pc = some (.aload_n n, nx, k, a, b)) (hv : xget L a = some (.inr x)) (kk : xK y G p l e R s m args below meth c Q cells slots nx L (.inr x :: S) h) : xK y G p l e R s m args below meth c Q cells slots pc L S h := by
  obtain ⟨hdg, rfl, hlk⟩ := xd1 C (fun _ _ _ _ q => by cases q) hd
  intro H locs ls hR hS hL
  exact lv_aload_n C.2.1 C.2.2.1 hdg (of_decide_eq_true hlk) (hL.2.2 _ _ hv) (kk H locs ls hR hS hL)
theorem k_aload {n : Nat} {x : Nat} (C : xCx y G p s m args meth c) (hd : xlook (xcode y) pc = some (.aload n, nx, k, a, b)) (hv : xget L a = some (.inr x)) (kk : xK y G p l e R s m args below meth c Q cells slots nx L (.inr x :: S) h) : xK y G p l e R s m args below meth c Q cells slots pc L S h := by
  obtain ⟨hdg, rfl, hlk⟩ := xd1 C (fun _ _ _ _ q => by cases q) hd
  have hn : n = a := of_decide_eq_true hlk
  subst hn
  intro H locs ls hR hS hL
  exact lv_aload C.2.1 C.2.2.1 hdg (hL.2.2 _ _ hv) (kk H locs ls hR hS hL)
theorem k_istore_n {n : Fin 4} {x : Int} (C : xCx y G p s m args meth c) (hd : xlook (xcode y) pc = some (.istore_n n, nx, k, a, b)) (ha : a < xml y) (kk : xK y G p l e R s m args below meth c Q cells slots nx ((a, .inl x) :: L) S h) : xK y G p l e R s m args below meth c Q cells slots pc L (.inl x :: S) h := by
  obtain ⟨hdg, rfl, hlk⟩ := xd1 C (fun _ _ _ _ q => by cases q) hd
  intro H locs ls hR hS hL
  obtain ⟨lv, h1, h2⟩ := xLoc_store (v := .inl x) hL ha
  exact lv_istore_n C.2.1 C.2.2.1 hdg (of_decide_eq_true hlk) h1 ha rfl (fun ls' h' => kk H locs ls' hR hS (h2 ls' h'))
theorem k_istore {n : Nat} {x : Int} (C : xCx y G p s m args meth c) (hd : xlook (xcode y) pc = some (.istore n, nx, k, a, b)) (ha : a < xml y) (kk : xK y G p l e R s m args below meth c Q cells slots nx ((a, .inl x) :: L) S h) : xK y G p l e R s m args below meth c Q cells slots pc L (.inl x :: S) h := by
  obtain ⟨hdg, rfl, hlk⟩ := xd1 C (fun _ _ _ _ q => by cases q) hd
  have hn : n = a := of_decide_eq_true hlk
  subst hn
  intro H locs ls hR hS hL
  obtain ⟨lv, h1, h2⟩ := xLoc_store (v := .inl x) hL ha
  exact lv_istore C.2.1 C.2.2.1 hdg h1 ha rfl (fun ls' h' => kk H locs ls' hR hS (h2 ls' h'))
theorem k_astore_n {n : Fin 4} {x : Nat} (C : xCx y G p s m args meth c) (hd : xlook (xcode y) pc = some (.astore_n n, nx, k, a, b)) (ha : a < xml y) (kk : xK y G p l e R s m args below meth c Q cells slots nx ((a, .inr x) :: L) S h) : xK y G p l e R s m args below meth c Q cells slots pc L (.inr x :: S) h := by
  obtain ⟨hdg, rfl, hlk⟩ := xd1 C (fun _ _ _ _ q => by cases q) hd
  intro H locs ls hR hS hL
  obtain ⟨lv, h1, h2⟩ := xLoc_store (v := .inr x) hL ha
  exact lv_astore_n C.2.1 C.2.2.1 hdg (of_decide_eq_true hlk) h1 ha rfl (fun ls' h' => kk H locs ls' hR hS (h2 ls' h'))
theorem k_astore {n : Nat} {x : Nat} (C : xCx y G p s m args meth c) (hd : xlook (xcode y) pc = some (.astore n, nx, k, a, b)) (ha : a < xml y) (kk : xK y G p l e R s m args below meth c Q cells slots nx ((a, .inr x) :: L) S h) : xK y G p l e R s m args below meth c Q cells slots pc L (.inr x :: S) h := by
  obtain ⟨hdg, rfl, hlk⟩ := xd1 C (fun _ _ _ _ q => by cases q) hd
  have hn : n = a := of_decide_eq_true hlk
  subst hn
  intro H locs ls hR hS hL
  obtain ⟨lv, h1, h2⟩ := xLoc_store (v := .inr x) hL ha
  exact lv_astore C.2.1 C.2.2.1 hdg h1 ha rfl (fun ls' h' => kk H locs ls' hR hS (h2 ls' h'))
theorem k_iadd {x z : Int} (C : xCx y G p s m args meth c) (hd : xlook (xcode y) pc = some (.iadd, nx, k, a, b)) (kk : xK y G p l e R s m args below meth c Q cells slots nx L (.inl (x + z) :: S) h) : xK y G p l e R s m args below meth c Q cells slots pc L (.inl z :: .inl x :: S) h := by
  obtain ⟨hdg, rfl, hlk⟩ := xd1 C (fun _ _ _ _ q => by cases q) hd
  intro H locs ls hR hS hL
  refine lv_iadd C.2.1 C.2.2.1 hdg ?_
  have := kk H locs ls hR hS hL
  rw [List.map_cons, show xT G (.inl (x + z)) = .int (zI x + zI z) from congrArg Value.int (Int32.ofInt_add x z)] at this
  exact this
theorem k_isub {x z : Int} (C : xCx y G p s m args meth c) (hd : xlook (xcode y) pc = some (.isub, nx, k, a, b)) (kk : xK y G p l e R s m args below meth c Q cells slots nx L (.inl (x - z) :: S) h) : xK y G p l e R s m args below meth c Q cells slots pc L (.inl z :: .inl x :: S) h := by
  obtain ⟨hdg, rfl, hlk⟩ := xd1 C (fun _ _ _ _ q => by cases q) hd
  intro H locs ls hR hS hL
  refine lv_isub C.2.1 C.2.2.1 hdg ?_
  have := kk H locs ls hR hS hL
  rw [List.map_cons, show xT G (.inl (x - z)) = .int (zI x - zI z) from congrArg Value.int (Int32.ofInt_sub x z)] at this
  exact this
theorem k_imul {x z : Int} (C : xCx y G p s m args meth c) (hd : xlook (xcode y) pc = some (.imul, nx, k, a, b)) (kk : xK y G p l e R s m args below meth c Q cells slots nx L (.inl (x * z) :: S) h) : xK y G p l e R s m args below meth c Q cells slots pc L (.inl z :: .inl x :: S) h := by
  obtain ⟨hdg, rfl, hlk⟩ := xd1 C (fun _ _ _ _ q => by cases q) hd
  intro H locs ls hR hS hL
  refine lv_imul C.2.1 C.2.2.1 hdg ?_
  have := kk H locs ls hR hS hL
  rw [List.map_cons, show xT G (.inl (x * z)) = .int (zI x * zI z) from congrArg Value.int (Int32.ofInt_mul x z)] at this
  exact this
theorem k_ineg {x : Int} (C : xCx y G p s m args meth c) (hd : xlook (xcode y) pc = some (.ineg, nx, k, a, b)) (kk : xK y G p l e R s m args below meth c Q cells slots nx L (.inl (-x) :: S) h) : xK y G p l e R s m args below meth c Q cells slots pc L (.inl x :: S) h := by
  obtain ⟨hdg, rfl, hlk⟩ := xd1 C (fun _ _ _ _ q => by cases q) hd
  intro H locs ls hR hS hL
  refine lv_ineg C.2.1 C.2.2.1 hdg ?_
  have := kk H locs ls hR hS hL
  rw [List.map_cons, show xT G (.inl (-x)) = .int (- zI x) from congrArg Value.int (Int32.ofInt_neg x)] at this
  exact this
theorem k_idiv {x z : Int} (C : xCx y G p s m args meth c) (hd : xlook (xcode y) pc = some (.idiv, nx, k, a, b)) (hx0 : 0 ≤ x) (hx : x < 2147483648) (hz0 : 0 < z) (hz : z < 2147483648) (kk : xK y G p l e R s m args below meth c Q cells slots nx L (.inl (x / z) :: S) h) : xK y G p l e R s m args below meth c Q cells slots pc L (.inl z :: .inl x :: S) h := by
  obtain ⟨hdg, rfl, hlk⟩ := xd1 C (fun _ _ _ _ q => by cases q) hd
  intro H locs ls hR hS hL
  refine lv_idiv C.2.1 C.2.2.1 hdg (zI_ne0 hz0 (by omega)) ?_
  have := kk H locs ls hR hS hL
  rw [List.map_cons, show xT G (.inl (x / z)) = .int (zI x / zI z) from congrArg Value.int (zI_div hx0 (by omega) hz0 (by omega)).symm] at this
  exact this
theorem k_irem {x z : Int} (C : xCx y G p s m args meth c) (hd : xlook (xcode y) pc = some (.irem, nx, k, a, b)) (hx0 : 0 ≤ x) (hx : x < 2147483648) (hz0 : 0 < z) (hz : z < 2147483648) (kk : xK y G p l e R s m args below meth c Q cells slots nx L (.inl (x % z) :: S) h) : xK y G p l e R s m args below meth c Q cells slots pc L (.inl z :: .inl x :: S) h := by
  obtain ⟨hdg, rfl, hlk⟩ := xd1 C (fun _ _ _ _ q => by cases q) hd
  intro H locs ls hR hS hL
  refine lv_irem C.2.1 C.2.2.1 hdg (zI_ne0 hz0 (by omega)) ?_
  have := kk H locs ls hR hS hL
  rw [List.map_cons, show xT G (.inl (x % z)) = .int (zI x - zI x / zI z * zI z) from congrArg Value.int (zI_rem hx0 (by omega) hz0 (by omega)).symm] at this
  exact this
theorem k_ishl {z : Int} (C : xCx y G p s m args meth c) (hd : xlook (xcode y) pc = some (.ishl, nx, k, a, b)) (hz0 : 0 ≤ z) (hz : z ≤ 7) (kk : xK y G p l e R s m args below meth c Q cells slots nx L (.inl (xpw z) :: S) h) : xK y G p l e R s m args below meth c Q cells slots pc L (.inl z :: .inl 1 :: S) h := by
  obtain ⟨hdg, rfl, hlk⟩ := xd1 C (fun _ _ _ _ q => by cases q) hd
  intro H locs ls hR hS hL
  refine lv_ishl C.2.1 C.2.2.1 hdg ?_
  have := kk H locs ls hR hS hL
  rw [List.map_cons, show xT G (.inl (xpw z)) = .int (zI 1 <<< (zI z &&& 31)) from congrArg Value.int (zI_shl1 hz0 hz).symm] at this
  exact this
theorem k_ishr {x z : Int} (C : xCx y G p s m args meth c) (hd : xlook (xcode y) pc = some (.ishr, nx, k, a, b)) (hx0 : 0 ≤ x) (hx : x < 256) (hz0 : 0 ≤ z) (hz : z ≤ 7) (kk : xK y G p l e R s m args below meth c Q cells slots nx L (.inl (x / xpw z) :: S) h) : xK y G p l e R s m args below meth c Q cells slots pc L (.inl z :: .inl x :: S) h := by
  obtain ⟨hdg, rfl, hlk⟩ := xd1 C (fun _ _ _ _ q => by cases q) hd
  intro H locs ls hR hS hL
  refine lv_ishr C.2.1 C.2.2.1 hdg ?_
  have := kk H locs ls hR hS hL
  rw [List.map_cons, show xT G (.inl (x / xpw z)) = .int (zI x >>> (zI z &&& 31)) from congrArg Value.int (zI_shr hx0 hx hz0 hz).symm] at this
  exact this
theorem k_ior {x z : Int} (C : xCx y G p s m args meth c) (hd : xlook (xcode y) pc = some (.ior, nx, k, a, b)) (hx0 : 0 ≤ x) (hz0 : 0 ≤ z) (kk : xK y G p l e R s m args below meth c Q cells slots nx L (.inl (xor2 x z) :: S) h) : xK y G p l e R s m args below meth c Q cells slots pc L (.inl z :: .inl x :: S) h := by
  obtain ⟨hdg, rfl, hlk⟩ := xd1 C (fun _ _ _ _ q => by cases q) hd
  intro H locs ls hR hS hL
  refine lv_ior C.2.1 C.2.2.1 hdg ?_
  have := kk H locs ls hR hS hL
  rw [List.map_cons, show xT G (.inl (xor2 x z)) = .int (zI x ||| zI z) from congrArg Value.int (zI_or hx0 hz0).symm] at this
  exact this
theorem k_iand1 {x : Int} (C : xCx y G p s m args meth c) (hd : xlook (xcode y) pc = some (.iand, nx, k, a, b)) (kk : xK y G p l e R s m args below meth c Q cells slots nx L (.inl (x % 2) :: S) h) : xK y G p l e R s m args below meth c Q cells slots pc L (.inl 1 :: .inl x :: S) h := by
  obtain ⟨hdg, rfl, hlk⟩ := xd1 C (fun _ _ _ _ q => by cases q) hd
  intro H locs ls hR hS hL
  refine lv_iand C.2.1 C.2.2.1 hdg ?_
  have := kk H locs ls hR hS hL
  rw [List.map_cons, show xT G (.inl (x % 2)) = .int (zI x &&& zI 1) from congrArg Value.int (zI_and1 x).symm] at this
  exact this
theorem k_iand31 {x : Int} (C : xCx y G p s m args meth c) (hd : xlook (xcode y) pc = some (.iand, nx, k, a, b)) (kk : xK y G p l e R s m args below meth c Q cells slots nx L (.inl (x % 32) :: S) h) : xK y G p l e R s m args below meth c Q cells slots pc L (.inl 31 :: .inl x :: S) h := by
  obtain ⟨hdg, rfl, hlk⟩ := xd1 C (fun _ _ _ _ q => by cases q) hd
  intro H locs ls hR hS hL
  refine lv_iand C.2.1 C.2.2.1 hdg ?_
  have := kk H locs ls hR hS hL
  rw [List.map_cons, show xT G (.inl (x % 32)) = .int (zI x &&& zI 31) from congrArg Value.int (zI_and31 x).symm] at this
  exact this
theorem k_dup {v : XV} (C : xCx y G p s m args meth c) (hd : xlook (xcode y) pc = some (.dup, nx, k, a, b)) (kk : xK y G p l e R s m args below meth c Q cells slots nx L (v :: v :: S) h) : xK y G p l e R s m args below meth c Q cells slots pc L (v :: S) h := by
  obtain ⟨hdg, rfl, hlk⟩ := xd1 C (fun _ _ _ _ q => by cases q) hd
  intro H locs ls hR hS hL
  exact lv_dup C.2.1 C.2.2.1 hdg (xcat v) (kk H locs ls hR hS hL)
theorem k_dup2 {v w : XV} (C : xCx y G p s m args meth c) (hd : xlook (xcode y) pc = some (.dup2, nx, k, a, b)) (kk : xK y G p l e R s m args below meth c Q cells slots nx L (v :: w :: v :: w :: S) h) : xK y G p l e R s m args below meth c Q cells slots pc L (v :: w :: S) h := by
  obtain ⟨hdg, rfl, hlk⟩ := xd1 C (fun _ _ _ _ q => by cases q) hd
  intro H locs ls hR hS hL
  exact lv_dup2_11 C.2.1 C.2.2.1 hdg (xcat v) (xcat w) (kk H locs ls hR hS hL)
theorem k_pop {v : XV} (C : xCx y G p s m args meth c) (hd : xlook (xcode y) pc = some (.pop, nx, k, a, b)) (kk : xK y G p l e R s m args below meth c Q cells slots nx L S h) : xK y G p l e R s m args below meth c Q cells slots pc L (v :: S) h := by
  obtain ⟨hdg, rfl, hlk⟩ := xd1 C (fun _ _ _ _ q => by cases q) hd
  intro H locs ls hR hS hL
  exact lv_pop C.2.1 C.2.2.1 hdg (xcat v) (kk H locs ls hR hS hL)
theorem k_goto {o : Int} (C : xCx y G p s m args meth c) (hd : xlook (xcode y) pc = some (.goto o, nx, k, a, b)) (kk : xK y G p l e R s m args below meth c Q cells slots a L S h) : xK y G p l e R s m args below meth c Q cells slots pc L S h := by
  obtain ⟨hdg, rfl, hlk⟩ := xd1 C (fun _ _ _ _ q => by cases q) hd
  intro H locs ls hR hS hL
  exact lv_goto C.2.1 C.2.2.1 hdg (of_decide_eq_true hlk) (kk H locs ls hR hS hL)
theorem k_ifnull {o : Int} {q : Nat} (C : xCx y G p s m args meth c) (hd : xlook (xcode y) pc = some (.ifnull o, nx, k, a, b)) (kk : xK y G p l e R s m args below meth c Q cells slots nx L S h) : xK y G p l e R s m args below meth c Q cells slots pc L (.inr q :: S) h := by
  obtain ⟨hdg, rfl, hlk⟩ := xd1 C (fun _ _ _ _ q => by cases q) hd
  intro H locs ls hR hS hL
  exact lv_ifnull C.2.1 C.2.2.1 hdg (kk H locs ls hR hS hL)
theorem k_iinc {i : Nat} {n : Int} {x : Int} (C : xCx y G p s m args meth c) (hd : xlook (xcode y) pc = some (.iinc i n, nx, k, a, b)) (ha : a < xml y) (hv : xget L a = some (.inl x)) (kk : xK y G p l e R s m args below meth c Q cells slots nx ((a, .inl (x + k)) :: L) S h) : xK y G p l e R s m args below meth c Q cells slots pc L S h := by
  obtain ⟨hdg, rfl, hlk⟩ := xd1 C (fun _ _ _ _ q => by cases q) hd
  obtain ⟨rfl, rfl⟩ : i = a ∧ n = k := of_decide_eq_true hlk
  intro H locs ls hR hS hL
  obtain ⟨lv, h1, h2⟩ := xLoc_store (v := .inl (x + n)) hL ha
  have h3 := hL.2.2 _ _ hv
  refine lv_iinc (k := 0) (lv := (i, .int (zI x)) :: lv) (v := zI (x + n)) C.2.1 C.2.2.1 hdg ⟨h1.1, h1.2.1, fun q hq => ?_⟩ rfl (Int32.ofInt_add x n).symm ha rfl (fun ls' h' => kk H locs ls' hR hS (h2 ls' ?_))
  · rcases List.mem_cons.mp hq with rfl | hq
    · exact h3
    · exact h1.2.2 q hq
  · refine ⟨h'.1, h'.2.1, fun q hq => h'.2.2 q ?_⟩
    rcases List.mem_cons.mp hq with rfl | hq
    · exact List.mem_cons_self
    · refine List.mem_cons_of_mem _ ?_
      rw [List.filter_cons]
      simp
      simpa using hq
end XROWS
