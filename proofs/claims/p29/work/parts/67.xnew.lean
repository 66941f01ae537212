/-! the rules of makings: new objects and rows, references put down, constructors called -/
theorem xIsRef_fits {t : FieldType} {q : Nat} (h : xIsRef t = true) : narrow t (.ref q) = .ref q ∧ fits t (.ref q) = true := by
  cases t <;> first | exact ⟨rfl, rfl⟩ | (unfold xIsRef at h; cases h)
theorem xDef {a j : Nat} (ha : a < 10) (hj : j < xNF a) {G : XG} {h : XH} {n : Nat} (hr : h.2.1 n = fun _ => none) (hI : h.2.2 n = fun _ => 0) : defaultValue (xTY a j) = xvl G h a n j := by
  obtain ⟨f0, f1, f2, -, -, f3⟩ := xFk_at a ha j hj
  unfold xvl
  rw [hr, hI]
  by_cases w2 : xFk a j = 2
  · rw [if_pos w2]
    have h2 := f2 w2
    show _ = Value.null
    generalize xTY a j = t at h2
    cases t <;> first | rfl | (unfold xIsRef at h2; cases h2)
  · rw [if_neg w2]
    show _ = Value.int (zI 0)
    rw [zI_0]
    by_cases w0 : xFk a j = 0
    · rw [f0 w0]; rfl
    · rw [f1 (by omega)]; rfl
theorem xAt_more {G : XG} {n n' : Nat} {r : Nat → Nat → Option Nat} {I : Nat → Int → Int} {k : Nat} {H H' : Heap} (e : H'[xph G k]? = H[xph G k]?) (h : xAt G (n, r, I) k H) : xAt G (n', r, I) k H' := by
  unfold xAt at h ⊢
  split at h
  · rename_i hk
    rw [if_pos hk, e]
    exact h
  · rename_i hk
    rw [if_neg hk]
    split at h
    · rename_i hk2
      rw [if_pos hk2, e]
      exact h
    · rename_i hk2
      rw [if_neg hk2]
      exact (h.kept e).to (fun j _ => rfl)
theorem exN_lt {n : Nat} {r : Nat → Nat → Option Nat} {I : Nat → Int → Int} (hn : n < 117) : exN (n, r, I) = 0 := by
  have h : Nat.beq n 117 = false := by
    cases hb : Nat.beq n 117 with
    | false => rfl
    | true => have := Nat.eq_of_beq_eq_true hb; omega
  show (bif Nat.beq n 117 then (I 0 0).toNat else 0) = 0
  rw [h]
  rfl
/-- a heap with one cell more -/
theorem xRel_push {G : XG} {n : Nat} {r : Nat → Nat → Option Nat} {I : Nat → Int → Int} {H H' : Heap} (hR : xRel G (n, r, I) H) (hn : n < 117) (hz0 : n = 116 → I 0 0 = 0) (z : H'.size = H.size + 1) (o : ∀ q : Nat, q < H.size → H'[q]? = H[q]?) (hat : xAt G (n + 1, r, I) n H') : xRel G (n + 1, r, I) H' := by
  obtain ⟨⟨h1, -⟩, h2, h3, h4⟩ := hR
  have h2 : 3 ≤ n := h2
  have e1 : exN (n, r, I) = 0 := exN_lt hn
  have e2 : exN (n + 1, r, I) = 0 := by
    by_cases w : n = 116
    · subst w
      show (I 0 0).toNat = 0
      rw [hz0 rfl]
      rfl
    · exact exN_lt (by omega)
  rw [e1] at h1
  have h1 : H.size = G.1.2.2.1 + (n - 3) + 0 := h1
  refine ⟨⟨by rw [e2]; show H'.size = G.1.2.2.1 + (n + 1 - 3) + 0; omega, fun t ht => by rw [e2] at ht; omega⟩, by show 3 ≤ n + 1; omega, by show n + 1 ≤ 117; omega, fun k k3 kn => ?_⟩
  have kn : k < n + 1 := kn
  by_cases e : k = n
  · rw [e]; exact hat
  · refine xAt_more (o _ ?_) (h4 k k3 (by show k < n; omega))
    unfold xph
    rw [if_pos k3]
    omega
theorem xRel_end {G : XG} {n : Nat} {r : Nat → Nat → Option Nat} {I : Nat → Int → Int} {H : Heap} (hR : xRel G (n, r, I) H) (hn : n < 117) : H.size = xph G n := by
  have h2 : 3 ≤ n := hR.2.1
  have h1 : H.size = G.1.2.2.1 + (n - 3) + exN (n, r, I) := hR.1.1
  rw [exN_lt hn] at h1
  unfold xph
  rw [if_pos h2, h1]
  rfl
section XNEW
variable {y : Nat} {G : XG} {p : Program} {l : Launch} {e : Env} {R : Room} {s : State} {m : MethodId} {args : Array Value} {below : List Frame} {meth : Method} {c : Code} {Q : State → Prop} {cells slots : Nat}
variable {pc nx a b : Nat} {k : Int} {L : XL} {S : List XV} {n : Nat} {r : Nat → Nat → Option Nat} {I : Nat → Int → Int}
theorem k_new {idx : Nat} (C : xCx y G p s m args meth c) (hd : xlook (xcode y) pc = some (.new idx, nx, k, a, b)) (ha : a < 10) (hk : xKd n = a) (hn : n < 116) (hr : r n = fun _ => none) (hI : I n = fun _ => 0) (hc : cells + 1 ≤ R.cells ∧ slots + xNF a ≤ R.slots)
    (kk : xK y G p l e R s m args below meth c Q (cells + 1) (slots + xNF a) nx L (.inr n :: S) (n + 1, r, I)) : xK y G p l e R s m args below meth c Q cells slots pc L S (n, r, I) := by
  obtain ⟨hdg, rfl, hlk⟩ := xd1 C (fun _ _ _ _ q => by cases q) hd
  have hlk : (xInG (.classLink (xcn (xown y)) idx (xcn a)) && xInG (.instantiable (xcn a) (xNF a)) && xInG (.initialized (xcn a))) = true := hlk
  rw [Bool.and_eq_true, Bool.and_eq_true] at hlk
  intro H locs ls hR hS hL
  have hts := C.2.2.2.2.2.1
  have hK := C.2.2.2.2.2.2.2.2.2.1.1
  have hKn := hK.1 a _ (xCl_at a ha)
  have hin : ∀ w ∈ u_ws (xcn a) (xTT a) (xNF a), w ∈ lw_good := fun w hw => xInG_of (xws_in a ha w hw)
  refine W.newcK C.2.1 C.2.2.1 C.2.2.2.2.1 (hts _ (xInG_of hlk.1.1)) (hts _ (xInG_of hlk.1.2)) (hts _ (xInG_of hlk.2)) rfl hdg hc.1 hc.2 hKn.2.1 (xRel_end hR (by omega)) fun H1 kC hkC e1 z1 o1 => ?_
  have hsz := xRel_end hR (by omega)
  refine kk H1 locs ls (xRel_push hR (by omega) (fun w => by omega) (by omega) (fun q hq => o1 q (by omega)) ?_) ⟨Nat.le_trans hS.1 (by omega), fun x h1 h2 => (o1 x (by have := hS.1; omega)).trans (hS.2.1 x h1 h2), hS.2.2⟩ hL
  unfold xAt
  rw [if_neg (by omega), if_neg (by omega), xLn_at n (by omega) (by omega), hk]
  exact (u_born (xTY a) hts hin hKn hkC e1 (xty_at a ha)).to (fun j hj => xDef ha hj hr hI)
theorem k_newI {len : Nat} (C : xCx y G p s m args meth c) (hd : xlook (xcode y) pc = some (.newarray .int, nx, k, a, b)) (hk : xKd n = 10) (hl : xLn n = len) (hn : n < 117) (hz0 : n = 116 → I 0 0 = 0) (hI : I n = fun _ => 0) (hc : cells + 1 ≤ R.cells ∧ slots + len ≤ R.slots)
    (kk : xK y G p l e R s m args below meth c Q (cells + 1) (slots + len) nx L (.inr n :: S) (n + 1, r, I)) : xK y G p l e R s m args below meth c Q cells slots pc L (.inl (len : Int) :: S) (n, r, I) := by
  obtain ⟨hdg, rfl, hlk⟩ := xd1 C (fun _ _ _ _ q => by cases q) hd
  intro H locs ls hR hS hL
  have hts := C.2.2.2.2.2.1
  have hRA : s.vm.findClass ("[" ++ (newarray.typeOf .int).toString) = some G.2.2.1 := (C.2.2.2.2.2.2.2.2.2.1.1.2 0 _ rfl).2
  have hsm := xLn_small n hn
  refine va_newaK (atype := .int) C.2.1 C.2.2.1 (hts _ (xInG_of xnew_in)) rfl hdg rfl (N := len) ?_ (by rw [zI_clamp (by omega) ⟨by omega, by omega⟩]; omega) (by show len * 4 ≤ _; omega) hc.1 hc.2 (xRel_end hR (by omega)) fun H1 cA e1 z1 o1 _ hNm => ?_
  · rw [← zI_0, zI_lt (by omega) (by omega)]
    omega
  · have hsz := xRel_end hR (by omega)
    have ecA : cA = G.2.2.1 := Option.some.inj (hNm.symm.trans hRA)
    refine kk H1 locs ls (xRel_push hR hn hz0 (by omega) (fun q hq => o1 q (by omega)) ?_) ⟨Nat.le_trans hS.1 (by omega), fun x h1 h2 => (o1 x (by have := hS.1; omega)).trans (hS.2.1 x h1 h2), hS.2.2⟩ hL
    unfold xAt
    rw [if_pos hk, e1, ecA, hl]
    show _ = some (arrV G.2.2.1 len (fun j => .int (zI (I n j))))
    rw [hI]
    rfl
theorem k_newR {idx len : Nat} (C : xCx y G p s m args meth c) (hd : xlook (xcode y) pc = some (.anewarray idx, nx, k, a, b)) (hy : y < 106) (hk : xKd n = 11) (hl : xLn n = len) (hn : n < 116) (hr : r n = fun _ => none) (hc : cells + 1 ≤ R.cells ∧ slots + len ≤ R.slots)
    (kk : xK y G p l e R s m args below meth c Q (cells + 1) (slots + len) nx L (.inr n :: S) (n + 1, r, I)) : xK y G p l e R s m args below meth c Q cells slots pc L (.inl (len : Int) :: S) (n, r, I) := by
  have hli := xli_of hy hd
  obtain ⟨hdg, rfl, -⟩ := xd1 C (fun _ _ _ _ q => by cases q) hd
  have hli : (decide (Cond.classLink (xcn (xown y)) idx "CrosswordBoard$Game" ∈ lw_tbl) && goodWord (Cond.classLink (xcn (xown y)) idx "CrosswordBoard$Game")) = true := hli
  intro H locs ls hR hS hL
  have hts := C.2.2.2.2.2.1
  obtain ⟨-, -, -, -, -, hRA⟩ := (C.2.2.2.2.2.2.2.2.2.1.1.2 1 _ rfl).2
  have hsm := xLn_small n (by omega)
  have hN : (zI (len : Int)).toNatClampNeg = len := by rw [zI_clamp (by omega) ⟨by omega, by omega⟩]; omega
  refine W.anew C.2.1 C.2.2.1 C.2.2.2.2.1 (hts _ (xInG_of hli)) (va_AO.use C.2.2.2.2.2.2.2.2.2.1.2.2) rfl hdg rfl (n := zI len) ?_ (by rw [hN]; omega) hc.1 (by rw [hN]; exact hc.2) fun cA kA comp f1 f2 f3 f4 => ?_
  · rw [← zI_0, zI_lt (by omega) (by omega)]
    omega
  · rw [hN]
    generalize hH1 : H.push ({ cls := cA, slots := Array.replicate len .null, vm := .none } : Cell) = H1
    have z1 : H1.size = H.size + 1 := by rw [← hH1, Array.size_push]
    have e1 : H1[H.size]? = some (arrV cA len (fun _ => .null)) := by rw [← hH1, Array.getElem?_push_size, ← arrV_new]
    have o1 : ∀ q : Nat, q < H.size → H1[q]? = H[q]? := fun q hq => by rw [← hH1, Array.getElem?_push, if_neg (Nat.ne_of_lt hq)]
    have hsz := xRel_end hR (by omega)
    have ecA : cA = G.2.2.2 := Option.some.inj (f1.symm.trans hRA)
    rw [hsz] at e1 ⊢
    refine kk H1 locs ls (xRel_push hR (by omega) (fun w => by omega) (by omega) (fun q hq => o1 q (by omega)) ?_) ⟨Nat.le_trans hS.1 (by omega), fun x h1 h2 => (o1 x (by have := hS.1; omega)).trans (hS.2.1 x h1 h2), hS.2.2⟩ hL
    unfold xAt
    rw [if_neg (by omega), if_pos hk, e1, ecA, hl]
    show _ = some (arrV G.2.2.2 len (fun j => xrf G (r n j)))
    rw [hr]
    rfl
theorem xvl_ref {h : XH} {ci o b q : Nat} (hf : xFk ci b = 2) (j : Nat) : updV (xvl G h ci o) b (.ref (xph G q)) j = xvl G (h.1, xur h.2.1 o b q, h.2.2) ci o j := by
  unfold updV xvl
  by_cases hj : j = b
  · rw [if_pos hj, hj, if_pos hf]
    show _ = xrf G (xur h.2.1 o b q o b)
    unfold xur
    rw [if_pos rfl, if_pos rfl]
    rfl
  · rw [if_neg hj]
    have e : xur h.2.1 o b q o j = h.2.1 o j := by
      unfold xur
      rw [if_pos rfl, if_neg hj]
    show _ = if xFk ci j = 2 then xrf G (xur h.2.1 o b q o j) else Value.int (zI (h.2.2 o j))
    rw [e]
theorem xur_ne {o j q a : Nat} (h : a ≠ o) : xur r o j q a = r a := by unfold xur; rw [if_neg h]
theorem k_putr {idx o q : Nat} (C : xCx y G p s m args meth c) (hd : xlook (xcode y) pc = some (.putfield idx, nx, k, a, b)) (ho : 3 ≤ o) (ho2 : o < n) (hk : xKd o = a) (ha : a < 10) (hf : xFk a b = 2) (hown : xown y = a) (hnm : (xname y).name = "<init>")
    (kk : xK y G p l e R s m args below meth c Q cells slots nx L S (n, xur r o b q, I)) : xK y G p l e R s m args below meth c Q cells slots pc L (.inr q :: .inr o :: S) (n, r, I) := by
  obtain ⟨hdg, rfl, hlk⟩ := xd1 C (fun _ _ _ _ q => by cases q) hd
  have hm : (xown y, idx, a, b) ∈ xFL := of_decide_eq_true hlk
  obtain ⟨hb, hl⟩ := xFL_of hm
  intro H locs ls hR hS hL
  have ho3 : o < 117 := by have : n ≤ 117 := hR.2.2.1; omega
  obtain ⟨cell, q1, q2, q3, q4⟩ := xAt_obj (hR.2.2.2 o ho ho2) hk ha ho3
  have hts := C.2.2.2.2.2.1
  have hin : ∀ w ∈ u_ws (xcn a) (xTT a) (xNF a), w ∈ lw_good := fun w hw => xInG_of (xws_in a ha w hw)
  have hK := C.2.2.2.2.2.2.2.2.2.1.1
  have hap := va_apart (own := xcn (xown y)) hts hin (xTY a) (xty_at a ha) (xnm_at a ha) hK (xCl_at a ha)
  obtain ⟨hSl, hfc, kC, hkC, hkind⟩ := hK.1 a _ (xCl_at a ha)
  obtain ⟨cf, kf, fi, f, hi, hsl⟩ := hSl b hb
  have hlay := hts _ (hin _ (u_in_lay hb))
  obtain ⟨-, -, fr, ffin, fdec, -⟩ := xFk_at a ha b hb
  have hfin : (xTT a b).2.2.2 = true := by rw [ffin]; exact decide_eq_true hf
  unfold u_lay at hlay
  rw [if_pos hfin] at hlay
  have hst := (u_facts hfc hkC (u_lays hts hin hb) hi).1
  have hcf : m.cls = cf := by
    obtain ⟨_, _, c', _, _, _, -, -, hf', -, -, -, hown2, -⟩ := Cond.laysFinal_spec hlay
    have e1 : c' = cf := by have := hi.symm.trans hf'; simp at this; exact this.1.symm
    have hdecl : (xTT a b).1 = xcn (xown y) := by rw [fdec, hown]
    rw [hdecl] at hown2
    rw [← e1]; exact Option.some.inj (C.2.2.2.2.1.symm.trans hown2)
  have hnf := xIsRef_fits (q := xph G q) (fr hf)
  have h6 := u_fits hfc hkC hkind (Or.inr hlay) hi (xty_at a ha b hb) hnf.1 hnf.2
  show W p l e R s m args below meth c H locs cells slots Q (F0 m pc ls (.ref (xph G q) :: .ref (xph G o) :: S.map (xT G)))
  refine W.putFinK C.2.1 C.2.2.1 C.2.2.2.2.1 (hts _ hl) hi hst hcf (C.2.2.2.2.2.2.2.2.1.trans hnm) (by rw [q2]; exact h6) q1 q3 (by rw [hsl]; exact k2_hasslot (q4 b hb)) rfl rfl hdg fun H' w1 w2 w3 => ?_
  rw [hsl] at w1 ⊢
  refine kk H' _ ls (xRel_put hR ho ho2 rfl w2 w3 (fun x hx => xur_ne hx) (fun _ _ => rfl) ?_) (hS.put w2 w3 (xph_A ho)) hL
  unfold xAt
  rw [if_neg (by omega), if_neg (by omega), xLn_at o ho3 (by omega), hk]
  exact t_OB.to (V := updV (xvl G (n, r, I) a o) b (.ref (xph G q))) ⟨_, w1, q2, q3, t_set q4 hap hb _⟩ (fun j _ => xvl_ref hf j)
theorem k_aast {o q x : Nat} (C : xCx y G p s m args meth c) (hd : xlook (xcode y) pc = some (.aastore, nx, k, a, b)) (ho : 3 ≤ o) (ho2 : o < n) (hk : xKd o = 11) (hx : x < xLn o) (hq : 3 ≤ q) (hq2 : q < n) (hkq : xKd q = 1)
    (kk : xK y G p l e R s m args below meth c Q cells slots nx L S (n, xur r o x q, I)) : xK y G p l e R s m args below meth c Q cells slots pc L (.inr q :: .inl (x : Int) :: .inr o :: S) (n, r, I) := by
  obtain ⟨hdg, rfl, hlk⟩ := xd1 C (fun _ _ _ _ q => by cases q) hd
  intro H locs ls hR hS hL
  have ho3 : o < 117 := by have : n ≤ 117 := hR.2.2.1; omega
  have hq3 : q < 117 := by have : n ≤ 117 := hR.2.2.1; omega
  have hsm := xLn_small o ho3
  have hc := xAt_ref (hR.2.2.2 o ho ho2) hk
  obtain ⟨cell, g1, g2, g3, -⟩ := xAt_obj (hR.2.2.2 q hq hq2) hkq (by omega) hq3
  have hK := C.2.2.2.2.2.2.2.2.2.1.1
  have hcls := (hK.1 1 _ (xCl_at 1 (by omega))).2
  obtain ⟨kA, comp, k1, k2, k3, -⟩ := (hK.2 1 _ rfl).2
  have hcomp : comp = G.2.1.1 1 := Option.some.inj (k3.symm.trans hcls.1)
  subst hcomp
  obtain ⟨kC, hkC, -⟩ := hcls.2
  have hcl : (zI (x : Int)).toNatClampNeg = x := by rw [zI_clamp (by omega) ⟨by omega, by omega⟩]; omega
  show W p l e R s m args below meth c H locs cells slots Q (F0 m pc ls (.ref (xph G q) :: .int (zI x) :: .ref (xph G o) :: S.map (xT G)))
  refine W.aast C.2.1 C.2.2.1 hc (fun q h => by cases h) (fun h => by cases h) k1 k2 rfl hkC ⟨?_, ?_⟩ g1 (fun q h => by rw [g3] at h; cases h) (by rw [g2]; exact hkC) (by rw [g2]; exact va_assign hcls) rfl rfl hdg fun H1 w1 w2 w3 => ?_
  · rw [← zI_0, zI_lt (by omega) (by omega)]
    omega
  · rw [arrV_size, hcl]
    exact hx
  · refine kk H1 _ ls (xRel_put hR ho ho2 rfl w2 w3 (fun z hz => xur_ne hz) (fun _ _ => rfl) ?_) (hS.put w2 w3 (xph_A ho)) hL
    unfold xAt
    rw [if_neg (by omega), if_pos hk, w1, arrV_store, hcl]
    congr 2
    funext j
    unfold updV
    show _ = xrf G (xur r o x q o j)
    unfold xur
    rw [if_pos rfl]
    by_cases hj : j = x
    · rw [if_pos hj, if_pos hj]; rfl
    · rw [if_neg hj, if_neg hj]
theorem k_obj {idx o : Nat} (C : xCx y G p s m args meth c) (hd : xlook (xcode y) pc = some (.invokespecial idx, nx, k, 900, b)) (hy : y < 106) (hfr : 1 ≤ R.frames) (hloc : S.length + 12 ≤ R.locals)
    (kk : xK y G p l e R s m args below meth c Q cells slots nx L S (n, r, I)) : xK y G p l e R s m args below meth c Q cells slots pc L (.inr o :: S) (n, r, I) := by
  have hli := xli_of hy hd
  obtain ⟨hdg, rfl, hlk⟩ := xd1 C (fun _ _ _ _ q => by cases q) hd
  intro H locs ls hR hS hL
  have hts := C.2.2.2.2.2.1
  exact W.objInit C.2.1 C.2.2.1 C.2.2.2.2.1 (hts _ (xInG_of hli)) (hts _ (xInG_of xobj_in.1)) (hts _ (xInG_of xobj_in.2)) rfl (by rw [C.2.2.2.1]; exact hL.1) rfl hdg hfr (by show 2 * 0 + ((S.map (xT G)).map fun v => v.category).sum + 12 ≤ R.locals; rw [xsum_len]; omega) (kk H locs ls hR hS hL)
/-- the references told otherwise, where they are the same -/
theorem xRel_refs {r' : Nat → Nat → Option Nat} {H : Heap} (hr : ∀ o, 3 ≤ o → o < n → xKd o ≠ 10 → ∀ j, j < xLn o → r o j = r' o j) (hR : xRel G (n, r, I) H) : xRel G (n, r', I) H := by
  refine ⟨hR.1, hR.2.1, hR.2.2.1, fun o o3 on => ?_⟩
  have h := hR.2.2.2 o o3 on
  unfold xAt at h ⊢
  split at h
  · rename_i hk
    rw [if_pos hk]
    exact h
  · rename_i hk
    rw [if_neg hk]
    have hj := hr o o3 on hk
    split at h
    · rename_i hk2
      rw [if_pos hk2, h]
      congr 1
      unfold arrV
      congr 1
      apply Array.ext
      · simp
      · intro j h1 h2
        simp only [Array.getElem_ofFn]
        show xrf G (r o j) = xrf G (r' o j)
        rw [hj j (by simpa using h1)]
    · rename_i hk2
      rw [if_neg hk2]
      refine h.to (fun j hl => ?_)
      show (if xFk (xKd o) j = 2 then xrf G (r o j) else Value.int (zI (I o j))) = (if xFk (xKd o) j = 2 then xrf G (r' o j) else Value.int (zI (I o j)))
      rw [hj j hl]
end XNEW
section XNEWE
variable {y mc ms cells slots : Nat} {v : Option XV} {hf : XH}
variable {pc nx a b : Nat} {k : Int} {L : XL} {S : List XV} {n : Nat} {r : Nat → Nat → Option Nat} {I : Nat → Int → Int}
theorem x_new {idx : Nat} (hd : xlook (xcode y) pc = some (.new idx, nx, k, a, b)) (ha : a < 10) (hk : xKd n = a) (hn : n < 116) (hr : r n = fun _ => none) (hI : I n = fun _ => 0) (hc : cells + 1 ≤ mc ∧ slots + xNF a ≤ ms) (kk : XEa y mc ms (cells + 1) (slots + xNF a) v hf nx L (.inr n :: S) (n + 1, r, I)) : XEa y mc ms cells slots v hf pc L S (n, r, I) := fun G p l e s m args below meth c C => k_new C hd ha hk hn hr hI hc (kk G p l e s m args below meth c C)
theorem x_newI {len : Nat} (hd : xlook (xcode y) pc = some (.newarray .int, nx, k, a, b)) (hk : xKd n = 10) (hl : xLn n = len) (hn : n < 117) (hz0 : n = 116 → I 0 0 = 0) (hI : I n = fun _ => 0) (hc : cells + 1 ≤ mc ∧ slots + len ≤ ms) (kk : XEa y mc ms (cells + 1) (slots + len) v hf nx L (.inr n :: S) (n + 1, r, I)) : XEa y mc ms cells slots v hf pc L (.inl (len : Int) :: S) (n, r, I) := fun G p l e s m args below meth c C => k_newI C hd hk hl hn hz0 hI hc (kk G p l e s m args below meth c C)
theorem x_newR {idx len : Nat} (hd : xlook (xcode y) pc = some (.anewarray idx, nx, k, a, b)) (hy : y < 106) (hk : xKd n = 11) (hl : xLn n = len) (hn : n < 116) (hr : r n = fun _ => none) (hc : cells + 1 ≤ mc ∧ slots + len ≤ ms) (kk : XEa y mc ms (cells + 1) (slots + len) v hf nx L (.inr n :: S) (n + 1, r, I)) : XEa y mc ms cells slots v hf pc L (.inl (len : Int) :: S) (n, r, I) := fun G p l e s m args below meth c C => k_newR C hd hy hk hl hn hr hc (kk G p l e s m args below meth c C)
theorem x_putr {idx o q : Nat} (hd : xlook (xcode y) pc = some (.putfield idx, nx, k, a, b)) (ho : 3 ≤ o) (ho2 : o < n) (hk : xKd o = a) (ha : a < 10) (hf : xFk a b = 2) (hown : xown y = a) (hnm : (xname y).name = "<init>") {hg : XH} (kk : XEa y mc ms cells slots v hg nx L S (n, xur r o b q, I)) : XEa y mc ms cells slots v hg pc L (.inr q :: .inr o :: S) (n, r, I) := fun G p l e s m args below meth c C => k_putr C hd ho ho2 hk ha hf hown hnm (kk G p l e s m args below meth c C)
theorem x_aast {o q x : Nat} (hd : xlook (xcode y) pc = some (.aastore, nx, k, a, b)) (ho : 3 ≤ o) (ho2 : o < n) (hk : xKd o = 11) (hx : x < xLn o) (hq : 3 ≤ q) (hq2 : q < n) (hkq : xKd q = 1) (kk : XEa y mc ms cells slots v hf nx L S (n, xur r o x q, I)) : XEa y mc ms cells slots v hf pc L (.inr q :: .inl (x : Int) :: .inr o :: S) (n, r, I) := fun G p l e s m args below meth c C => k_aast C hd ho ho2 hk hx hq hq2 hkq (kk G p l e s m args below meth c C)
theorem x_obj {idx o : Nat} (hd : xlook (xcode y) pc = some (.invokespecial idx, nx, k, 900, b)) (hy : y < 106) (hfr : 1 ≤ xfr y) (hr : S.length ≤ 8) (kk : XEa y mc ms cells slots v hf nx L S (n, r, I)) : XEa y mc ms cells slots v hf pc L (.inr o :: S) (n, r, I) := fun G p l e s m args below meth c C => k_obj C hd hy hfr (by show S.length + 12 ≤ 41 * xfr y; omega) (kk G p l e s m args below meth c C)
theorem x_refs {r' : Nat → Nat → Option Nat} (hr : ∀ o, 3 ≤ o → o < n → xKd o ≠ 10 → ∀ j, j < xLn o → r o j = r' o j) (kk : XEa y mc ms cells slots v hf pc L S (n, r', I)) : XEa y mc ms cells slots v hf pc L S (n, r, I) := fun G p l e s m args below meth c C H locs ls hR hS hL => kk G p l e s m args below meth c C H locs ls (xRel_refs hr hR) hS hL
theorem x_getr {idx o q : Nat} (hd : xlook (xcode y) pc = some (.getfield idx, nx, k, a, b)) (ho : 3 ≤ o) (ho2 : o < n) (hk : xKd o = a) (ha : a < 10) (hf : xFk a b = 2) (hq : r o b = some q) {hg : XH} (kk : XEa y mc ms cells slots v hg nx L (.inr q :: S) (n, r, I)) : XEa y mc ms cells slots v hg pc L (.inr o :: S) (n, r, I) := fun G p l e s m args below meth c C => k_getr (h := (n, r, I)) C hd ho ho2 hk ha hf hq (kk G p l e s m args below meth c C)
/-- a constructor's call -/
theorem x_init {idx y' o mc' ms' : Nat} {h1 : XH} (hd : xlook (xcode y) pc = some (.invokespecial idx, nx, k, y', b)) (hy : y' < 106) (hb : b = 3 ∨ b = 4) (hfr : xfr y' < xfr y) (hret : xret y' = none) (hn : xnp y' = 0) (hr : S.length ≤ 8) (hM : XRa y' mc' ms' [.inr o] (n, r, I) none h1) (hc : cells + mc' ≤ mc ∧ slots + ms' ≤ ms) (kk : XEa y mc ms (cells + mc') (slots + ms') v hf nx L S h1) : XEa y mc ms cells slots v hf pc L (.inr o :: S) (n, r, I) := by
  intro G p l e s m args below meth c C
  have hml := (xM_of hy).2.2.2.2.2.2.2
  exact k_callI (as := []) (h := (n, r, I)) C hd hy hb hM (by rw [hn]; rfl) hr hret (by show xfr y' + 1 ≤ xfr y ∧ 8 + (xml y' + 11) + 41 * xfr y' ≤ 41 * xfr y; omega) hc (kk G p l e s m args below meth c C)
end XNEWE
