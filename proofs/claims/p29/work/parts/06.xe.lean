/-! the rules by which methods are walked: a step is computed -/
abbrev XE (y : Nat) (v : Option XV) (h' : XH) (pc : Nat) (L : XL) (S : List XV) (h : XH) : Prop := XEa y 0 0 0 0 v h' pc L S h
abbrev XR (y : Nat) (as : List XV) (h : XH) (v : Option XV) (h' : XH) : Prop := XRa y 0 0 as h v h'
def xfi {α : Type} (b : Nat) (f : Int → α) : α := match b with
  | 0 => f 0
  | 1 => f 1
  | 2 => f 2
  | 3 => f 3
  | 4 => f 4
  | 5 => f 5
  | 6 => f 6
  | 7 => f 7
  | 8 => f 8
  | 9 => f 9
  | 10 => f 10
  | 11 => f 11
  | 12 => f 12
  | 13 => f 13
  | 14 => f 14
  | 15 => f 15
  | 16 => f 16
  | 17 => f 17
  | n => f n
theorem xfi_eq {α : Type} (b : Nat) (f : Int → α) : xfi b f = f b := by
  unfold xfi
  split <;> rfl
def xex (i : Instr) (nx : Nat) (k : Int) (a b ml : Nat) (L : XL) (S : List XV) (h : XH) : Option (Nat × XL × List XV × XH) := match h with
  | (n, r, I) => match i with
    | .iconst _ => some (nx, L, .inl k :: S, (n, r, I))
    | .bipush _ => some (nx, L, .inl k :: S, (n, r, I))
    | .sipush _ => some (nx, L, .inl k :: S, (n, r, I))
    | .ldc _ => some (nx, L, .inl k :: S, (n, r, I))
    | .iload_n _ => (match xget L a with
      | some (.inl x) => some (nx, L, .inl x :: S, (n, r, I))
      | _ => none)
    | .iload _ => (match xget L a with
      | some (.inl x) => some (nx, L, .inl x :: S, (n, r, I))
      | _ => none)
    | .aload_n _ => (match xget L a with
      | some (.inr x) => some (nx, L, .inr x :: S, (n, r, I))
      | _ => none)
    | .aload _ => (match xget L a with
      | some (.inr x) => some (nx, L, .inr x :: S, (n, r, I))
      | _ => none)
    | .istore_n _ => (match S with
      | .inl x :: t => bif Nat.blt a ml then some (nx, (a, .inl x) :: L, t, (n, r, I)) else none
      | _ => none)
    | .istore _ => (match S with
      | .inl x :: t => bif Nat.blt a ml then some (nx, (a, .inl x) :: L, t, (n, r, I)) else none
      | _ => none)
    | .astore_n _ => (match S with
      | .inr x :: t => bif Nat.blt a ml then some (nx, (a, .inr x) :: L, t, (n, r, I)) else none
      | _ => none)
    | .astore _ => (match S with
      | .inr x :: t => bif Nat.blt a ml then some (nx, (a, .inr x) :: L, t, (n, r, I)) else none
      | _ => none)
    | .iinc _ _ => (match xget L a with
      | some (.inl x) => bif Nat.blt a ml then some (nx, (a, .inl (x + k)) :: L, S, (n, r, I)) else none
      | _ => none)
    | .iadd => (match S with
      | .inl z :: .inl x :: t => some (nx, L, .inl (x + z) :: t, (n, r, I))
      | _ => none)
    | .isub => (match S with
      | .inl z :: .inl x :: t => some (nx, L, .inl (x - z) :: t, (n, r, I))
      | _ => none)
    | .imul => (match S with
      | .inl z :: .inl x :: t => some (nx, L, .inl (x * z) :: t, (n, r, I))
      | _ => none)
    | .ineg => (match S with
      | .inl x :: t => some (nx, L, .inl (-x) :: t, (n, r, I))
      | _ => none)
    | .dup => (match S with
      | v :: t => some (nx, L, v :: v :: t, (n, r, I))
      | _ => none)
    | .dup2 => (match S with
      | v :: w :: t => some (nx, L, v :: w :: v :: w :: t, (n, r, I))
      | _ => none)
    | .pop => (match S with
      | _ :: t => some (nx, L, t, (n, r, I))
      | _ => none)
    | .goto _ => some (a, L, S, (n, r, I))
    | .ifnull _ => (match S with
      | .inr _ :: t => some (nx, L, t, (n, r, I))
      | _ => none)
    | .getfield _ => (match S with
      | .inr o :: t => bif Nat.ble 3 o && (Nat.blt o n && (Nat.beq (xKd o) a && Nat.blt a 10)) then
          (bif Nat.beq (xFk a b) 2 then (match r o b with
            | some q => some (nx, L, .inr q :: t, (n, r, I))
            | none => none)
          else xfi b (fun j => some (nx, L, .inl (I o j) :: t, (n, r, I)))) else none
      | _ => none)
    | .putfield _ => (match S with
      | .inl x :: .inr o :: t => bif Nat.ble 3 o && (Nat.blt o n && (Nat.beq (xKd o) a && (Nat.blt a 10 && (Nat.blt b (xNF a) && Nat.beq (xFk a b) 0)))) then xfi b (fun j => some (nx, L, t, (n, r, xup I o j x))) else none
      | _ => none)
    | _ => none
def xst (y pc : Nat) (L : XL) (S : List XV) (h : XH) : Option (Nat × XL × List XV × XH) := match xlook (xcode y) pc with
  | some (i, nx, k, a, b) => xex i nx k a b (xml y) L S h
  | none => none
theorem cond_some {α : Type} {c : Bool} {t : Option α} {x : α} (h : (bif c then t else none) = some x) : c = true ∧ t = some x := by
  cases c with
  | true => exact ⟨rfl, h⟩
  | false => cases h
theorem blt_of {a b : Nat} (h : Nat.blt a b = true) : a < b := Nat.le_of_ble_eq_true h
section XSTEP
variable {y mc ms cells slots : Nat} {v : Option XV} {hf : XH}
variable {pc nx : Nat} {L L' : XL} {S S' : List XV} {h h' : XH}
set_option maxHeartbeats 4000000 in
theorem k_step {G : XG} {p : Program} {l : Launch} {e : Env} {R : Room} {s : State} {m : MethodId} {args : Array Value} {below : List Frame} {meth : Method} {c : Code} {Q : State → Prop} (C : xCx y G p s m args meth c) (hs : xst y pc L S h = some (nx, L', S', h')) (kk : xK y G p l e R s m args below meth c Q cells slots nx L' S' h') : xK y G p l e R s m args below meth c Q cells slots pc L S h := by
  unfold xst at hs
  cases hd : xlook (xcode y) pc with
  | none =>
    rw [hd] at hs
    cases hs
  | some e0 =>
    rw [hd] at hs
    obtain ⟨i, nx0, k, a, b⟩ := e0
    obtain ⟨n, r, I⟩ := h
    unfold xex at hs
    cases i <;> (try (cases hs; done))
    case iconst => cases hs; exact k_iconst C hd kk
    case bipush => cases hs; exact k_bipush C hd kk
    case sipush => cases hs; exact k_sipush C hd kk
    case ldc => cases hs; exact k_ldc C hd kk
    case iload_n =>
      simp only at hs
      split at hs
      · rename_i x hx; cases hs; exact k_iload_n C hd hx kk
      · cases hs
    case iload =>
      simp only at hs
      split at hs
      · rename_i x hx; cases hs; exact k_iload C hd hx kk
      · cases hs
    case aload_n =>
      simp only at hs
      split at hs
      · rename_i x hx; cases hs; exact k_aload_n C hd hx kk
      · cases hs
    case aload =>
      simp only at hs
      split at hs
      · rename_i x hx; cases hs; exact k_aload C hd hx kk
      · cases hs
    case istore_n =>
      simp only at hs
      split at hs
      · obtain ⟨h1, h2⟩ := cond_some hs; cases h2; exact k_istore_n C hd (blt_of h1) kk
      · cases hs
    case istore =>
      simp only at hs
      split at hs
      · obtain ⟨h1, h2⟩ := cond_some hs; cases h2; exact k_istore C hd (blt_of h1) kk
      · cases hs
    case astore_n =>
      simp only at hs
      split at hs
      · obtain ⟨h1, h2⟩ := cond_some hs; cases h2; exact k_astore_n C hd (blt_of h1) kk
      · cases hs
    case astore =>
      simp only at hs
      split at hs
      · obtain ⟨h1, h2⟩ := cond_some hs; cases h2; exact k_astore C hd (blt_of h1) kk
      · cases hs
    case iinc =>
      simp only at hs
      split at hs
      · rename_i x hx; obtain ⟨h1, h2⟩ := cond_some hs; cases h2; exact k_iinc C hd (blt_of h1) hx kk
      · cases hs
    case iadd =>
      simp only at hs
      split at hs
      · cases hs; exact k_iadd C hd kk
      · cases hs
    case isub =>
      simp only at hs
      split at hs
      · cases hs; exact k_isub C hd kk
      · cases hs
    case imul =>
      simp only at hs
      split at hs
      · cases hs; exact k_imul C hd kk
      · cases hs
    case ineg =>
      simp only at hs
      split at hs
      · cases hs; exact k_ineg C hd kk
      · cases hs
    case dup =>
      simp only at hs
      split at hs
      · cases hs; exact k_dup C hd kk
      · cases hs
    case dup2 =>
      simp only at hs
      split at hs
      · cases hs; exact k_dup2 C hd kk
      · cases hs
    case pop =>
      simp only at hs
      split at hs
      · cases hs; exact k_pop C hd kk
      · cases hs
    case goto => cases hs; exact k_goto C hd kk
    case ifnull =>
      simp only at hs
      split at hs
      · cases hs; exact k_ifnull C hd kk
      · cases hs
    case getfield =>
      simp only at hs
      split at hs
      · obtain ⟨h1, h2⟩ := cond_some hs
        simp only [Bool.and_eq_true] at h1
        obtain ⟨h3, h4, h5, h6⟩ := h1
        cases hf2 : Nat.beq (xFk a b) 2 with
        | true =>
          rw [hf2] at h2
          simp only [cond_true] at h2
          split at h2
          · rename_i q hq
            cases h2
            exact k_getr (h := (n, r, I)) C hd (Nat.le_of_ble_eq_true h3) (blt_of h4) (Nat.eq_of_beq_eq_true h5) (blt_of h6) (Nat.eq_of_beq_eq_true hf2) hq kk
          · cases h2
        | false =>
          rw [hf2] at h2
          simp only [cond_false] at h2
          rw [xfi_eq] at h2
          cases h2
          exact k_geti (h := (n, r, I)) C hd (Nat.le_of_ble_eq_true h3) (blt_of h4) (Nat.eq_of_beq_eq_true h5) (blt_of h6) (fun q => by rw [q] at hf2; cases hf2) kk
      · cases hs
    case putfield =>
      simp only at hs
      split at hs
      · obtain ⟨h1, h2⟩ := cond_some hs
        simp only [Bool.and_eq_true] at h1
        obtain ⟨h3, h4, h5, h6, h7, h8⟩ := h1
        rw [xfi_eq] at h2
        cases h2
        exact k_puti (h := (n, r, I)) C hd (Nat.le_of_ble_eq_true h3) (blt_of h4) (Nat.eq_of_beq_eq_true h5) (blt_of h6) (blt_of h7) (Nat.eq_of_beq_eq_true h8) kk
      · cases hs
theorem x_step (hs : xst y pc L S h = some (nx, L', S', h')) (kk : XEa y mc ms cells slots v hf nx L' S' h') : XEa y mc ms cells slots v hf pc L S h := fun G p l e s m args below meth c C => k_step C hs (kk G p l e s m args below meth c C)
/-- what a branch compares: 0 equal, 1 less, 2 less or equal; then where, else where -/
def xbr (y pc : Nat) (S : List XV) : Option (Nat × Int × Int × Nat × Nat × List XV) := match xlook (xcode y) pc with
  | some (.ifCond .eq _, nx, _, a, _) => (match S with | .inl x :: t => some (0, x, 0, a, nx, t) | _ => none)
  | some (.ifCond .ne _, nx, _, a, _) => (match S with | .inl x :: t => some (0, x, 0, nx, a, t) | _ => none)
  | some (.ifCond .lt _, nx, _, a, _) => (match S with | .inl x :: t => some (1, x, 0, a, nx, t) | _ => none)
  | some (.ifCond .ge _, nx, _, a, _) => (match S with | .inl x :: t => some (2, 0, x, a, nx, t) | _ => none)
  | some (.ifCond .gt _, nx, _, a, _) => (match S with | .inl x :: t => some (1, 0, x, a, nx, t) | _ => none)
  | some (.ifCond .le _, nx, _, a, _) => (match S with | .inl x :: t => some (2, x, 0, a, nx, t) | _ => none)
  | some (.if_icmp .eq _, nx, _, a, _) => (match S with | .inl z :: .inl x :: t => some (0, x, z, a, nx, t) | _ => none)
  | some (.if_icmp .ne _, nx, _, a, _) => (match S with | .inl z :: .inl x :: t => some (0, x, z, nx, a, t) | _ => none)
  | some (.if_icmp .lt _, nx, _, a, _) => (match S with | .inl z :: .inl x :: t => some (1, x, z, a, nx, t) | _ => none)
  | some (.if_icmp .ge _, nx, _, a, _) => (match S with | .inl z :: .inl x :: t => some (2, z, x, a, nx, t) | _ => none)
  | some (.if_icmp .gt _, nx, _, a, _) => (match S with | .inl z :: .inl x :: t => some (1, z, x, a, nx, t) | _ => none)
  | some (.if_icmp .le _, nx, _, a, _) => (match S with | .inl z :: .inl x :: t => some (2, x, z, a, nx, t) | _ => none)
  | _ => none
def xcmp (cn : Nat) (x z : Int) : Prop := match cn with
  | 0 => x = z
  | 1 => x < z
  | _ => x ≤ z
set_option maxHeartbeats 4000000 in
theorem k_br {G : XG} {p : Program} {l : Launch} {e : Env} {R : Room} {s : State} {m : MethodId} {args : Array Value} {below : List Frame} {meth : Method} {c : Code} {Q : State → Prop} {cn t f : Nat} {x z : Int} (C : xCx y G p s m args meth c) (hs : xbr y pc S = some (cn, x, z, t, f, S')) (hx : InR x) (hz : InR z) (kt : xcmp cn x z → xK y G p l e R s m args below meth c Q cells slots t L S' h) (kf : ¬ xcmp cn x z → xK y G p l e R s m args below meth c Q cells slots f L S' h) : xK y G p l e R s m args below meth c Q cells slots pc L S h := by
  unfold xbr at hs
  split at hs <;> rename_i hd <;> first | (cases hs; done) | skip
  all_goals (split at hs <;> first | (cases hs; done) | skip)
  all_goals cases hs
  · exact k_if_eq C hd hx kt kf
  · exact k_if_ne C hd hx kf kt
  · exact k_if_lt C hd hx kt kf
  · exact k_if_ge C hd hz kt kf
  · exact k_if_gt C hd hz kt kf
  · exact k_if_le C hd hx kt kf
  · exact k_icmp_eq C hd hx hz kt kf
  · exact k_icmp_ne C hd hx hz kf kt
  · exact k_icmp_lt C hd hx hz kt kf
  · exact k_icmp_ge C hd hz hx kt kf
  · exact k_icmp_gt C hd hz hx kt kf
  · exact k_icmp_le C hd hx hz kt kf
theorem x_eq {t f : Nat} {x z : Int} (hs : xbr y pc S = some (0, x, z, t, f, S')) (hx : InR x) (hz : InR z) (kt : x = z → XEa y mc ms cells slots v hf t L S' h) (kf : ¬ x = z → XEa y mc ms cells slots v hf f L S' h) : XEa y mc ms cells slots v hf pc L S h := fun G p l e s m args below meth c C => k_br C hs hx hz (fun q => kt q G p l e s m args below meth c C) (fun q => kf q G p l e s m args below meth c C)
theorem x_lt {t f : Nat} {x z : Int} (hs : xbr y pc S = some (1, x, z, t, f, S')) (hx : InR x) (hz : InR z) (kt : x < z → XEa y mc ms cells slots v hf t L S' h) (kf : ¬ x < z → XEa y mc ms cells slots v hf f L S' h) : XEa y mc ms cells slots v hf pc L S h := fun G p l e s m args below meth c C => k_br C hs hx hz (fun q => kt q G p l e s m args below meth c C) (fun q => kf q G p l e s m args below meth c C)
theorem x_le {t f : Nat} {x z : Int} (hs : xbr y pc S = some (2, x, z, t, f, S')) (hx : InR x) (hz : InR z) (kt : x ≤ z → XEa y mc ms cells slots v hf t L S' h) (kf : ¬ x ≤ z → XEa y mc ms cells slots v hf f L S' h) : XEa y mc ms cells slots v hf pc L S h := fun G p l e s m args below meth c C => k_br C hs hx hz (fun q => kt q G p l e s m args below meth c C) (fun q => kf q G p l e s m args below meth c C)
/-- an element of a row of ints: the row, the index, the length less one -/
def xal (y pc n : Nat) (S : List XV) : Option (Nat × Nat × Int × Nat × List XV) := match xlook (xcode y) pc with
  | some (.iaload, nx, _, _, _) => (match S with
    | .inl x :: .inr o :: t => bif Nat.ble 3 o && (Nat.blt o n && Nat.beq (xKd o) 10) then (match xLn o with | 0 => none | len + 1 => some (nx, o, x, len, t)) else none
    | _ => none)
  | _ => none
theorem x_ald {n o len : Nat} {r : Nat → Nat → Option Nat} {I : Nat → Int → Int} {x : Int} (hs : xal y pc n S = some (nx, o, x, len, S')) (hx0 : 0 ≤ x) (hx : x ≤ (len : Int)) (kk : XEa y mc ms cells slots v hf nx L (.inl (I o x) :: S') (n, r, I)) : XEa y mc ms cells slots v hf pc L S (n, r, I) := by
  intro G p l e s m args below meth c C
  unfold xal at hs
  split at hs
  · rename_i hd
    split at hs
    · obtain ⟨h1, h2⟩ := cond_some hs
      simp only [Bool.and_eq_true] at h1
      obtain ⟨h3, h4, h5⟩ := h1
      split at h2
      · cases h2
      · rename_i hl
        cases h2
        exact k_iald (h := (n, r, I)) C hd (Nat.le_of_ble_eq_true h3) (blt_of h4) (Nat.eq_of_beq_eq_true h5) hx0 (by rw [hl]; omega) (kk G p l e s m args below meth c C)
    · cases hs
  · cases hs
def xas (y pc n : Nat) (S : List XV) : Option (Nat × Nat × Int × Int × Nat × List XV) := match xlook (xcode y) pc with
  | some (.iastore, nx, _, _, _) => (match S with
    | .inl w :: .inl x :: .inr o :: t => bif Nat.ble 3 o && (Nat.blt o n && Nat.beq (xKd o) 10) then (match xLn o with | 0 => none | len + 1 => some (nx, o, x, w, len, t)) else none
    | _ => none)
  | _ => none
theorem x_ast {n o len : Nat} {r : Nat → Nat → Option Nat} {I : Nat → Int → Int} {x w : Int} (hs : xas y pc n S = some (nx, o, x, w, len, S')) (hx0 : 0 ≤ x) (hx : x ≤ (len : Int)) (kk : XEa y mc ms cells slots v hf nx L S' (n, r, xup I o x w)) : XEa y mc ms cells slots v hf pc L S (n, r, I) := by
  intro G p l e s m args below meth c C
  unfold xas at hs
  split at hs
  · rename_i hd
    split at hs
    · obtain ⟨h1, h2⟩ := cond_some hs
      simp only [Bool.and_eq_true] at h1
      obtain ⟨h3, h4, h5⟩ := h1
      split at h2
      · cases h2
      · rename_i hl
        cases h2
        exact k_iast (h := (n, r, I)) C hd (Nat.le_of_ble_eq_true h3) (blt_of h4) (Nat.eq_of_beq_eq_true h5) hx0 (by rw [hl]; omega) (kk G p l e s m args below meth c C)
    · cases hs
  · cases hs
/-- a division: its kind, the two numbers -/
def xdv (y pc : Nat) (S : List XV) : Option (Nat × Nat × Int × Int × List XV) := match xlook (xcode y) pc with
  | some (.idiv, nx, _, _, _) => (match S with | .inl z :: .inl x :: t => some (0, nx, x, z, t) | _ => none)
  | some (.irem, nx, _, _, _) => (match S with | .inl z :: .inl x :: t => some (1, nx, x, z, t) | _ => none)
  | _ => none
theorem x_div {x z : Int} (hs : xdv y pc S = some (0, nx, x, z, S')) (hx0 : 0 ≤ x) (hx : x < 2147483648) (hz0 : 0 < z) (hz : z < 2147483648) (kk : XEa y mc ms cells slots v hf nx L (.inl (x / z) :: S') h) : XEa y mc ms cells slots v hf pc L S h := by
  intro G p l e s m args below meth c C
  unfold xdv at hs
  split at hs
  · rename_i hd
    split at hs
    · cases hs; exact k_idiv C hd hx0 hx hz0 hz (kk G p l e s m args below meth c C)
    · cases hs
  · split at hs <;> cases hs
  · cases hs
theorem x_rem {x z : Int} (hs : xdv y pc S = some (1, nx, x, z, S')) (hx0 : 0 ≤ x) (hx : x < 2147483648) (hz0 : 0 < z) (hz : z < 2147483648) (kk : XEa y mc ms cells slots v hf nx L (.inl (x % z) :: S') h) : XEa y mc ms cells slots v hf pc L S h := by
  intro G p l e s m args below meth c C
  unfold xdv at hs
  split at hs
  · split at hs <;> cases hs
  · rename_i hd
    split at hs
    · cases hs; exact k_irem C hd hx0 hx hz0 hz (kk G p l e s m args below meth c C)
    · cases hs
  · cases hs
/-- a call: whom, with what -/
def xsplit (n : Nat) (S acc : List XV) : Option (List XV × List XV) := match n, S with
  | 0, _ => some (acc, S)
  | _ + 1, [] => none
  | n + 1, w :: t => xsplit n t (w :: acc)
theorem xsplit_spec : ∀ (n : Nat) (S acc : List XV) (as t : List XV), xsplit n S acc = some (as, t) → ∃ q : List XV, q.length = n ∧ S = q ++ t ∧ as = q.reverse ++ acc := by
  intro n
  induction n with
  | zero =>
    intro S acc as t h
    unfold xsplit at h
    cases h
    exact ⟨[], rfl, rfl, rfl⟩
  | succ n ih =>
    intro S acc as t h
    cases S with
    | nil => unfold xsplit at h; cases h
    | cons w S =>
      unfold xsplit at h
      obtain ⟨q, h1, h2, h3⟩ := ih _ _ _ _ h
      exact ⟨w :: q, by rw [List.length_cons, h1], by rw [h2]; rfl, by rw [h3, List.reverse_cons, List.append_assoc]; rfl⟩
def xclV (n : Nat) (y y' b nx : Nat) (S : List XV) : Option (Nat × Nat × List XV × List XV) := bif Nat.blt y' 106 && (Nat.beq b 0 && Nat.blt (xfr y') (xfr y)) then (match xsplit (xnp y' + 1) S [] with
  | some (.inr o :: as, t) => bif Nat.ble 3 o && (Nat.blt o n && (Nat.beq (xKd o) (xown y') && (Nat.blt (xKd o) 10 && Nat.ble t.length 8))) then some (y', nx, .inr o :: as, t) else none
  | _ => none) else none
def xclS (y y' b nx : Nat) (S : List XV) : Option (Nat × Nat × List XV × List XV) := bif Nat.blt y' 106 && (Nat.blt 0 b && (Nat.blt b 3 && Nat.blt (xfr y') (xfr y))) then (match xsplit (xnp y') S [] with
  | some (as, t) => bif Nat.ble t.length 8 then some (y', nx, as, t) else none
  | _ => none) else none
def xcl (y pc n : Nat) (S : List XV) : Option (Nat × Nat × List XV × List XV) := match xlook (xcode y) pc with
  | some (.invokevirtual _, nx, _, y', b) => xclV n y y' b nx S
  | some (.invokestatic _, nx, _, y', b) => xclS y y' b nx S
  | _ => none
theorem x_calla {y' mc' ms' n : Nat} {as : List XV} {r : Nat → Nat → Option Nat} {I : Nat → Int → Int} {w : Option XV} {h1 : XH} (hs : xcl y pc n S = some (y', nx, as, S')) (hM : XRa y' mc' ms' as (n, r, I) w h1) (hc : cells + mc' ≤ mc ∧ slots + ms' ≤ ms) (kk : XEa y mc ms (cells + mc') (slots + ms') v hf nx L (w.toList ++ S') h1) : XEa y mc ms cells slots v hf pc L S (n, r, I) := by
  intro G p l e s m args below meth c C
  unfold xcl at hs
  split at hs
  · rename_i hd
    unfold xclV at hs
    obtain ⟨h1, h2⟩ := cond_some hs
    simp only [Bool.and_eq_true] at h1
    obtain ⟨q1, q2, q3⟩ := h1
    split at h2
    · rename_i o as t hsp
      obtain ⟨h3, h4⟩ := cond_some h2
      simp only [Bool.and_eq_true] at h3
      obtain ⟨e1, e2, e3, e4, e5⟩ := h3
      cases h4
      obtain ⟨q, l1, l2, l3⟩ := xsplit_spec _ _ _ _ _ hsp
      rw [List.append_nil] at l3
      have l4 : q = as.reverse ++ [.inr o] := by
        have := congrArg List.reverse l3
        rw [List.reverse_reverse, List.reverse_cons] at this
        exact this.symm
      have l5 : S = as.reverse ++ .inr o :: S' := by rw [l2, l4, List.append_assoc]; rfl
      rw [l5]
      have l6 : as.length = xnp y' := by
        have := congrArg List.length l4
        rw [l1] at this
        simp at this
        omega
      have hfr := blt_of q3
      have hml := (xM_of (blt_of q1)).2.2.2.2.2.2.2
      exact k_callV (h := (n, r, I)) C hd (blt_of q1) (Nat.eq_of_beq_eq_true q2) hM (Nat.le_of_ble_eq_true e1) (blt_of e2) (Nat.eq_of_beq_eq_true e3) (blt_of e4) l6 (Nat.le_of_ble_eq_true e5) (by show xfr y' + 1 ≤ xfr y ∧ 8 + (xml y' + 11) + 41 * xfr y' ≤ 41 * xfr y; omega) hc (kk G p l e s m args below meth c C)
    · cases h2
  · rename_i hd
    unfold xclS at hs
    obtain ⟨h1, h2⟩ := cond_some hs
    simp only [Bool.and_eq_true] at h1
    obtain ⟨q1, q2, q3, q4⟩ := h1
    split at h2
    · rename_i hsp
      obtain ⟨h3, h4⟩ := cond_some h2
      cases h4
      obtain ⟨q, l1, l2, l3⟩ := xsplit_spec _ _ _ _ _ hsp
      rw [List.append_nil] at l3
      have l4 : q = as.reverse := by rw [l3, List.reverse_reverse]
      rw [l2, l4]
      have l6 : as.length = xnp y' := by rw [l3, List.length_reverse, l1]
      have hfr := blt_of q4
      have hml := (xM_of (blt_of q1)).2.2.2.2.2.2.2
      have hb0 := blt_of q2
      have hb1 := blt_of q3
      exact k_callS (h := (n, r, I)) C hd (blt_of q1) (by omega) (fun l => hM l G) l6 (Nat.le_of_ble_eq_true h3) (by show xfr y' + 1 ≤ xfr y ∧ 8 + (xml y' + 11) + 41 * xfr y' ≤ 41 * xfr y; omega) hc (kk G p l e s m args below meth c C)
    · cases h2
  · cases hs
theorem x_call {y' n : Nat} {as : List XV} {r : Nat → Nat → Option Nat} {I : Nat → Int → Int} {w : XV} {h1 : XH} (hs : xcl y pc n S = some (y', nx, as, S')) (hM : XR y' as (n, r, I) (some w) h1) (kk : XE y v hf nx L (w :: S') h1) : XE y v hf pc L S (n, r, I) := x_calla hs hM ⟨Nat.le_refl _, Nat.le_refl _⟩ kk
theorem x_callv {y' n : Nat} {as : List XV} {r : Nat → Nat → Option Nat} {I : Nat → Int → Int} {h1 : XH} (hs : xcl y pc n S = some (y', nx, as, S')) (hM : XR y' as (n, r, I) none h1) (kk : XE y v hf nx L S' h1) : XE y v hf pc L S (n, r, I) := x_calla hs hM ⟨Nat.le_refl _, Nat.le_refl _⟩ kk
/-- the ends -/
theorem x_iret {nx a b : Nat} {kz : Int} {x w : Int} (hd : xlook (xcode y) pc = some (.ireturn, nx, kz, a, b)) (hr : xret y = some .int) (hw : x = w) (hh : h = h') : XEa y mc ms mc ms (some (.inl w)) h' pc L [.inl x] h := by
  subst hw; subst hh
  intro G p l e s m args below meth c C
  obtain ⟨hdg, -, -⟩ := xd1 C (fun _ _ _ _ q => by cases q) hd
  intro H locs ls hR hS hL
  exact W.iret C.2.1 C.2.2.1 (by rw [C.2.2.2.2.2.2.1, hr]) (fun t ht hW => ⟨rfl, by rw [ht]; exact hR, hS.F ht⟩) hS.2.2 hdg C.2.2.2.2.2.2.2.1
theorem x_zret {nx a b : Nat} {kz : Int} {x w : Int} (hd : xlook (xcode y) pc = some (.ireturn, nx, kz, a, b)) (hr : xret y = some .boolean) (hw : x = w) (h01 : x = 0 ∨ x = 1) (hh : h = h') : XEa y mc ms mc ms (some (.inl w)) h' pc L [.inl x] h := by
  subst hw; subst hh
  intro G p l e s m args below meth c C
  obtain ⟨hdg, -, -⟩ := xd1 C (fun _ _ _ _ q => by cases q) hd
  intro H locs ls hR hS hL
  exact W.zret (ty := .boolean) C.2.1 C.2.2.1 (by rw [C.2.2.2.2.2.2.1, hr]) (by rcases h01 with rfl | rfl <;> decide +kernel) (fun t ht hW => ⟨rfl, by rw [ht]; exact hR, hS.F ht⟩) hS.2.2 hdg C.2.2.2.2.2.2.2.1
theorem x_vret {nx a b : Nat} {kz : Int} (hd : xlook (xcode y) pc = some (.return_, nx, kz, a, b)) (hr : xret y = none) (hh : h = h') : XEa y mc ms mc ms none h' pc L [] h := by
  subst hh
  intro G p l e s m args below meth c C
  obtain ⟨hdg, -, -⟩ := xd1 C (fun _ _ _ _ q => by cases q) hd
  intro H locs ls hR hS hL
  exact W.vret C.2.1 C.2.2.1 (by rw [C.2.2.2.2.2.2.1, hr]) (fun t ht hW => ⟨rfl, by rw [ht]; exact hR, hS.F ht⟩) hS.2.2 hdg C.2.2.2.2.2.2.2.1
theorem x_aret {nx a b q q' : Nat} {kz : Int} {cls : String} (hd : xlook (xcode y) pc = some (.areturn, nx, kz, a, b)) (hr : xret y = some (.object cls)) (hq : q = q') (hh : h = h') : XEa y mc ms mc ms (some (.inr q')) h' pc L [.inr q] h := by
  subst hq; subst hh
  intro G p l e s m args below meth c C
  obtain ⟨hdg, -, -⟩ := xd1 C (fun _ _ _ _ q => by cases q) hd
  intro H locs ls hR hS hL
  exact W.aret (v := .ref (xph G q)) (rt := .object cls) C.2.1 C.2.2.1 (by rw [C.2.2.2.2.2.2.1, hr]) (Or.inl ⟨_, rfl⟩) (Or.inr ⟨_, rfl⟩) (fun t ht hW => ⟨rfl, by rw [ht]; exact hR, hS.F ht⟩) hS.2.2 hdg C.2.2.2.2.2.2.2.1
/-- fewer locals -/
def xsub (L : XL) (L' : XL) : Prop := match L' with
  | [] => True
  | (k, w) :: t => xget L k = some w ∧ xsub L t
theorem xsub_get {L : XL} : ∀ (L' : XL), xsub L L' → ∀ (k : Nat) (w : XV), xget L' k = some w → xget L k = some w := by
  intro L'
  induction L' with
  | nil => intro _ k w h; cases h
  | cons q t ih =>
    intro hs k w h
    obtain ⟨i, u⟩ := q
    unfold xget at h
    cases hb : Nat.beq i k with
    | true =>
      rw [hb] at h
      cases h
      rw [← Nat.eq_of_beq_eq_true hb]
      exact hs.1
    | false =>
      rw [hb] at h
      exact ih hs.2 k w h
theorem x_loc (hs : xsub L L') (kk : XEa y mc ms cells slots v hf pc L' S h) : XEa y mc ms cells slots v hf pc L S h := fun G p l e s m args below meth c C H locs ls hR hS hL => kk G p l e s m args below meth c C H locs ls hR hS ⟨hL.1, hL.2.1, fun k w hk => hL.2.2 k w (xsub_get _ hs k w hk)⟩
theorem x_to (e1 : L = L') (e2 : S = S') (e3 : h = h') (kk : XEa y mc ms cells slots v hf pc L' S' h') : XEa y mc ms cells slots v hf pc L S h := by
  subst e1; subst e2; subst e3; exact kk
end XSTEP
