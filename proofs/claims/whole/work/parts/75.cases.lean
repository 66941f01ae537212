/-! the cases of the law's switch -/
abbrev LQL (i : Int) : XL := [(3, .inl i), (2, .inr 117), (1, .inr 3), (0, .inr 0)]
section LAWC
variable {G : XG} {p : Program} {l : Launch} {e : Env} {s : State} {m : MethodId} {args : Array Value} {below : List Frame} {meth : Method} {c : Code} {Q : State → Prop} {I : Nat → Int → Int} {i : Int} {Ln : Nat} {xs : Nat → Int32}
set_option maxHeartbeats 4000000 in
set_option maxRecDepth 100000 in
theorem L_addWord (C : xCx 166 G p s m args meth c) (hX : xScr G s Ln xs) (hI : SIM I) (i0 : 0 ≤ i) (i1 : i + 4 ≤ Ln) (kk : ∀ J, SIM J → xK 166 G p l e room_1 s m args below meth c Q 121 2434 840 (LQL i) [] (hN J)) : xK 166 G p l e room_1 s m args below meth c Q 121 2434 152 (LQL i) [] (hN I) := by
  obtain ⟨v, J1, J2, h1, h2, h3⟩ := S_addWord hI (scI xs (i + 1)) (scI_R _ _)
  repeat refine k_step C rfl ?_
  refine k_scr C hX rfl (by omega) (by omega) ?_
  repeat refine k_step C rfl ?_
  refine k_calla C (by decide) rfl h1 ⟨Nat.le_of_ble_eq_true rfl, Nat.le_of_ble_eq_true rfl⟩ ?_
  repeat refine k_step C rfl ?_
  refine k_scr C hX rfl (by omega) (by omega) ?_
  repeat refine k_step C rfl ?_
  refine k_calla C (by decide) rfl h2 ⟨Nat.le_of_ble_eq_true rfl, Nat.le_of_ble_eq_true rfl⟩ ?_
  refine k_same C rfl ?_
  exact kk J2 h3
set_option maxHeartbeats 4000000 in
set_option maxRecDepth 100000 in
theorem L_dropWord (C : xCx 166 G p s m args meth c) (hX : xScr G s Ln xs) (hI : SIM I) (i0 : 0 ≤ i) (i1 : i + 4 ≤ Ln) (kk : ∀ J, SIM J → xK 166 G p l e room_1 s m args below meth c Q 121 2434 840 (LQL i) [] (hN J)) : xK 166 G p l e room_1 s m args below meth c Q 121 2434 175 (LQL i) [] (hN I) := by
  obtain ⟨v, J1, J2, h1, h2, h3⟩ := S_dropWord hI (scI xs (i + 1)) (scI_R _ _)
  repeat refine k_step C rfl ?_
  refine k_scr C hX rfl (by omega) (by omega) ?_
  repeat refine k_step C rfl ?_
  refine k_calla C (by decide) rfl h1 ⟨Nat.le_of_ble_eq_true rfl, Nat.le_of_ble_eq_true rfl⟩ ?_
  repeat refine k_step C rfl ?_
  refine k_scr C hX rfl (by omega) (by omega) ?_
  repeat refine k_step C rfl ?_
  refine k_calla C (by decide) rfl h2 ⟨Nat.le_of_ble_eq_true rfl, Nat.le_of_ble_eq_true rfl⟩ ?_
  refine k_same C rfl ?_
  exact kk J2 h3
set_option maxHeartbeats 4000000 in
set_option maxRecDepth 100000 in
theorem L_play (C : xCx 166 G p s m args meth c) (hX : xScr G s Ln xs) (hI : SIM I) (i0 : 0 ≤ i) (i1 : i + 4 ≤ Ln) (kk : ∀ J, SIM J → xK 166 G p l e room_1 s m args below meth c Q 121 2434 840 (LQL i) [] (hN J)) : xK 166 G p l e room_1 s m args below meth c Q 121 2434 198 (LQL i) [] (hN I) := by
  by_cases hb : scI xs (i + 3) = 0
  · obtain ⟨v, J1, J2, h1, h2, h3⟩ := S_play hI (scI xs (i + 1)) (scI xs (i + 2)) 0 (scI_R _ _) (scI_R _ _) (Or.inl rfl)
    repeat refine k_step C rfl ?_
    refine k_scr C hX rfl (by omega) (by omega) ?_
    repeat refine k_step C rfl ?_
    refine k_scr C hX rfl (by omega) (by omega) ?_
    repeat refine k_step C rfl ?_
    refine k_scr C hX rfl (by omega) (by omega) ?_
    refine k_eq C rfl (scI_R _ _) (by omega) (fun w => ?_) (fun w => absurd hb w)
    repeat refine k_step C rfl ?_
    refine k_calla C (by decide) rfl h1 ⟨Nat.le_of_ble_eq_true rfl, Nat.le_of_ble_eq_true rfl⟩ ?_
    repeat refine k_step C rfl ?_
    refine k_scr C hX rfl (by omega) (by omega) ?_
    repeat refine k_step C rfl ?_
    refine k_scr C hX rfl (by omega) (by omega) ?_
    repeat refine k_step C rfl ?_
    refine k_scr C hX rfl (by omega) (by omega) ?_
    refine k_eq C rfl (scI_R _ _) (by omega) (fun w => ?_) (fun w => absurd hb w)
    repeat refine k_step C rfl ?_
    refine k_calla C (by decide) rfl h2 ⟨Nat.le_of_ble_eq_true rfl, Nat.le_of_ble_eq_true rfl⟩ ?_
    refine k_same C rfl ?_
    exact kk J2 h3
  · obtain ⟨v, J1, J2, h1, h2, h3⟩ := S_play hI (scI xs (i + 1)) (scI xs (i + 2)) 1 (scI_R _ _) (scI_R _ _) (Or.inr rfl)
    repeat refine k_step C rfl ?_
    refine k_scr C hX rfl (by omega) (by omega) ?_
    repeat refine k_step C rfl ?_
    refine k_scr C hX rfl (by omega) (by omega) ?_
    repeat refine k_step C rfl ?_
    refine k_scr C hX rfl (by omega) (by omega) ?_
    refine k_eq C rfl (scI_R _ _) (by omega) (fun w => absurd w hb) (fun w => ?_)
    repeat refine k_step C rfl ?_
    refine k_calla C (by decide) rfl h1 ⟨Nat.le_of_ble_eq_true rfl, Nat.le_of_ble_eq_true rfl⟩ ?_
    repeat refine k_step C rfl ?_
    refine k_scr C hX rfl (by omega) (by omega) ?_
    repeat refine k_step C rfl ?_
    refine k_scr C hX rfl (by omega) (by omega) ?_
    repeat refine k_step C rfl ?_
    refine k_scr C hX rfl (by omega) (by omega) ?_
    refine k_eq C rfl (scI_R _ _) (by omega) (fun w => absurd w hb) (fun w => ?_)
    repeat refine k_step C rfl ?_
    refine k_calla C (by decide) rfl h2 ⟨Nat.le_of_ble_eq_true rfl, Nat.le_of_ble_eq_true rfl⟩ ?_
    refine k_same C rfl ?_
    exact kk J2 h3
set_option maxHeartbeats 4000000 in
set_option maxRecDepth 100000 in
theorem L_pass (C : xCx 166 G p s m args meth c) (hX : xScr G s Ln xs) (hI : SIM I) (i0 : 0 ≤ i) (i1 : i + 4 ≤ Ln) (kk : ∀ J, SIM J → xK 166 G p l e room_1 s m args below meth c Q 121 2434 840 (LQL i) [] (hN J)) : xK 166 G p l e room_1 s m args below meth c Q 121 2434 257 (LQL i) [] (hN I) := by
  obtain ⟨v, J1, J2, h1, h2, h3⟩ := S_pass hI 
  repeat refine k_step C rfl ?_
  refine k_calla C (by decide) rfl h1 ⟨Nat.le_of_ble_eq_true rfl, Nat.le_of_ble_eq_true rfl⟩ ?_
  repeat refine k_step C rfl ?_
  refine k_calla C (by decide) rfl h2 ⟨Nat.le_of_ble_eq_true rfl, Nat.le_of_ble_eq_true rfl⟩ ?_
  refine k_same C rfl ?_
  exact kk J2 h3
set_option maxHeartbeats 4000000 in
set_option maxRecDepth 100000 in
theorem L_swap (C : xCx 166 G p s m args meth c) (hX : xScr G s Ln xs) (hI : SIM I) (i0 : 0 ≤ i) (i1 : i + 4 ≤ Ln) (kk : ∀ J, SIM J → xK 166 G p l e room_1 s m args below meth c Q 121 2434 840 (LQL i) [] (hN J)) : xK 166 G p l e room_1 s m args below meth c Q 121 2434 270 (LQL i) [] (hN I) := by
  obtain ⟨v, J1, J2, h1, h2, h3⟩ := S_swap hI 
  repeat refine k_step C rfl ?_
  refine k_calla C (by decide) rfl h1 ⟨Nat.le_of_ble_eq_true rfl, Nat.le_of_ble_eq_true rfl⟩ ?_
  repeat refine k_step C rfl ?_
  refine k_calla C (by decide) rfl h2 ⟨Nat.le_of_ble_eq_true rfl, Nat.le_of_ble_eq_true rfl⟩ ?_
  refine k_same C rfl ?_
  exact kk J2 h3
set_option maxHeartbeats 4000000 in
set_option maxRecDepth 100000 in
theorem L_append (C : xCx 166 G p s m args meth c) (hX : xScr G s Ln xs) (hI : SIM I) (i0 : 0 ≤ i) (i1 : i + 4 ≤ Ln) (kk : ∀ J, SIM J → xK 166 G p l e room_1 s m args below meth c Q 121 2434 840 (LQL i) [] (hN J)) : xK 166 G p l e room_1 s m args below meth c Q 121 2434 283 (LQL i) [] (hN I) := by
  obtain ⟨v, J1, J2, h1, h2, h3⟩ := S_append hI (scI xs (i + 1)) (scI_R _ _)
  repeat refine k_step C rfl ?_
  refine k_scr C hX rfl (by omega) (by omega) ?_
  repeat refine k_step C rfl ?_
  refine k_calla C (by decide) rfl h1 ⟨Nat.le_of_ble_eq_true rfl, Nat.le_of_ble_eq_true rfl⟩ ?_
  repeat refine k_step C rfl ?_
  refine k_scr C hX rfl (by omega) (by omega) ?_
  repeat refine k_step C rfl ?_
  refine k_calla C (by decide) rfl h2 ⟨Nat.le_of_ble_eq_true rfl, Nat.le_of_ble_eq_true rfl⟩ ?_
  refine k_same C rfl ?_
  exact kk J2 h3
set_option maxHeartbeats 4000000 in
set_option maxRecDepth 100000 in
theorem L_clearText (C : xCx 166 G p s m args meth c) (hX : xScr G s Ln xs) (hI : SIM I) (i0 : 0 ≤ i) (i1 : i + 4 ≤ Ln) (kk : ∀ J, SIM J → xK 166 G p l e room_1 s m args below meth c Q 121 2434 840 (LQL i) [] (hN J)) : xK 166 G p l e room_1 s m args below meth c Q 121 2434 306 (LQL i) [] (hN I) := by
  obtain ⟨v, J1, J2, h1, h2, h3⟩ := S_clearText hI 
  repeat refine k_step C rfl ?_
  refine k_calla C (by decide) rfl h1 ⟨Nat.le_of_ble_eq_true rfl, Nat.le_of_ble_eq_true rfl⟩ ?_
  repeat refine k_step C rfl ?_
  refine k_calla C (by decide) rfl h2 ⟨Nat.le_of_ble_eq_true rfl, Nat.le_of_ble_eq_true rfl⟩ ?_
  refine k_same C rfl ?_
  exact kk J2 h3
set_option maxHeartbeats 4000000 in
set_option maxRecDepth 100000 in
theorem L_fault (C : xCx 166 G p s m args meth c) (hX : xScr G s Ln xs) (hI : SIM I) (i0 : 0 ≤ i) (i1 : i + 4 ≤ Ln) (kk : ∀ J, SIM J → xK 166 G p l e room_1 s m args below meth c Q 121 2434 840 (LQL i) [] (hN J)) : xK 166 G p l e room_1 s m args below meth c Q 121 2434 319 (LQL i) [] (hN I) := by
  obtain ⟨v, J1, J2, h1, h2, h3⟩ := S_fault hI 
  repeat refine k_step C rfl ?_
  refine k_calla C (by decide) rfl h1 ⟨Nat.le_of_ble_eq_true rfl, Nat.le_of_ble_eq_true rfl⟩ ?_
  repeat refine k_step C rfl ?_
  refine k_calla C (by decide) rfl h2 ⟨Nat.le_of_ble_eq_true rfl, Nat.le_of_ble_eq_true rfl⟩ ?_
  refine k_same C rfl ?_
  exact kk J2 h3
set_option maxHeartbeats 4000000 in
set_option maxRecDepth 100000 in
theorem L_perform (C : xCx 166 G p s m args meth c) (hX : xScr G s Ln xs) (hI : SIM I) (i0 : 0 ≤ i) (i1 : i + 4 ≤ Ln) (kk : ∀ J, SIM J → xK 166 G p l e room_1 s m args below meth c Q 121 2434 840 (LQL i) [] (hN J)) : xK 166 G p l e room_1 s m args below meth c Q 121 2434 332 (LQL i) [] (hN I) := by
  obtain ⟨v, J1, J2, h1, h2, h3⟩ := S_perform hI 
  repeat refine k_step C rfl ?_
  refine k_calla C (by decide) rfl h1 ⟨Nat.le_of_ble_eq_true rfl, Nat.le_of_ble_eq_true rfl⟩ ?_
  repeat refine k_step C rfl ?_
  refine k_calla C (by decide) rfl h2 ⟨Nat.le_of_ble_eq_true rfl, Nat.le_of_ble_eq_true rfl⟩ ?_
  refine k_same C rfl ?_
  exact kk J2 h3
set_option maxHeartbeats 4000000 in
set_option maxRecDepth 100000 in
theorem L_stopped (C : xCx 166 G p s m args meth c) (hX : xScr G s Ln xs) (hI : SIM I) (i0 : 0 ≤ i) (i1 : i + 4 ≤ Ln) (kk : ∀ J, SIM J → xK 166 G p l e room_1 s m args below meth c Q 121 2434 840 (LQL i) [] (hN J)) : xK 166 G p l e room_1 s m args below meth c Q 121 2434 345 (LQL i) [] (hN I) := by
  obtain ⟨v, J1, J2, h1, h2, h3⟩ := S_stopped hI 
  repeat refine k_step C rfl ?_
  refine k_calla C (by decide) rfl h1 ⟨Nat.le_of_ble_eq_true rfl, Nat.le_of_ble_eq_true rfl⟩ ?_
  repeat refine k_step C rfl ?_
  refine k_calla C (by decide) rfl h2 ⟨Nat.le_of_ble_eq_true rfl, Nat.le_of_ble_eq_true rfl⟩ ?_
  refine k_same C rfl ?_
  exact kk J2 h3
set_option maxHeartbeats 4000000 in
set_option maxRecDepth 100000 in
theorem L_undo (C : xCx 166 G p s m args meth c) (hX : xScr G s Ln xs) (hI : SIM I) (i0 : 0 ≤ i) (i1 : i + 4 ≤ Ln) (kk : ∀ J, SIM J → xK 166 G p l e room_1 s m args below meth c Q 121 2434 840 (LQL i) [] (hN J)) : xK 166 G p l e room_1 s m args below meth c Q 121 2434 358 (LQL i) [] (hN I) := by
  obtain ⟨v, J1, J2, h1, h2, h3⟩ := S_undo hI 
  repeat refine k_step C rfl ?_
  refine k_calla C (by decide) rfl h1 ⟨Nat.le_of_ble_eq_true rfl, Nat.le_of_ble_eq_true rfl⟩ ?_
  repeat refine k_step C rfl ?_
  refine k_calla C (by decide) rfl h2 ⟨Nat.le_of_ble_eq_true rfl, Nat.le_of_ble_eq_true rfl⟩ ?_
  refine k_same C rfl ?_
  exact kk J2 h3
set_option maxHeartbeats 4000000 in
set_option maxRecDepth 100000 in
theorem L_save (C : xCx 166 G p s m args meth c) (hX : xScr G s Ln xs) (hI : SIM I) (i0 : 0 ≤ i) (i1 : i + 4 ≤ Ln) (kk : ∀ J, SIM J → xK 166 G p l e room_1 s m args below meth c Q 121 2434 840 (LQL i) [] (hN J)) : xK 166 G p l e room_1 s m args below meth c Q 121 2434 371 (LQL i) [] (hN I) := by
  obtain ⟨v, J1, J2, h1, h2, h3⟩ := S_save hI 
  repeat refine k_step C rfl ?_
  refine k_calla C (by decide) rfl h1 ⟨Nat.le_of_ble_eq_true rfl, Nat.le_of_ble_eq_true rfl⟩ ?_
  repeat refine k_step C rfl ?_
  refine k_calla C (by decide) rfl h2 ⟨Nat.le_of_ble_eq_true rfl, Nat.le_of_ble_eq_true rfl⟩ ?_
  refine k_same C rfl ?_
  exact kk J2 h3
set_option maxHeartbeats 4000000 in
set_option maxRecDepth 100000 in
theorem L_restore (C : xCx 166 G p s m args meth c) (hX : xScr G s Ln xs) (hI : SIM I) (i0 : 0 ≤ i) (i1 : i + 4 ≤ Ln) (kk : ∀ J, SIM J → xK 166 G p l e room_1 s m args below meth c Q 121 2434 840 (LQL i) [] (hN J)) : xK 166 G p l e room_1 s m args below meth c Q 121 2434 384 (LQL i) [] (hN I) := by
  obtain ⟨v, J1, J2, h1, h2, h3⟩ := S_restore hI 
  repeat refine k_step C rfl ?_
  refine k_calla C (by decide) rfl h1 ⟨Nat.le_of_ble_eq_true rfl, Nat.le_of_ble_eq_true rfl⟩ ?_
  repeat refine k_step C rfl ?_
  refine k_calla C (by decide) rfl h2 ⟨Nat.le_of_ble_eq_true rfl, Nat.le_of_ble_eq_true rfl⟩ ?_
  refine k_same C rfl ?_
  exact kk J2 h3
set_option maxHeartbeats 4000000 in
set_option maxRecDepth 100000 in
theorem L_word (C : xCx 166 G p s m args meth c) (hX : xScr G s Ln xs) (hI : SIM I) (i0 : 0 ≤ i) (i1 : i + 4 ≤ Ln) (kk : ∀ J, SIM J → xK 166 G p l e room_1 s m args below meth c Q 121 2434 840 (LQL i) [] (hN J)) : xK 166 G p l e room_1 s m args below meth c Q 121 2434 397 (LQL i) [] (hN I) := by
  obtain ⟨v, J1, J2, h1, h2, h3⟩ := S_word hI (scI xs (i + 1)) (scI_R _ _)
  repeat refine k_step C rfl ?_
  refine k_scr C hX rfl (by omega) (by omega) ?_
  repeat refine k_step C rfl ?_
  refine k_calla C (by decide) rfl h1 ⟨Nat.le_of_ble_eq_true rfl, Nat.le_of_ble_eq_true rfl⟩ ?_
  repeat refine k_step C rfl ?_
  refine k_scr C hX rfl (by omega) (by omega) ?_
  repeat refine k_step C rfl ?_
  refine k_calla C (by decide) rfl h2 ⟨Nat.le_of_ble_eq_true rfl, Nat.le_of_ble_eq_true rfl⟩ ?_
  refine k_same C rfl ?_
  exact kk J2 h3
set_option maxHeartbeats 4000000 in
set_option maxRecDepth 100000 in
theorem L_tile (C : xCx 166 G p s m args meth c) (hX : xScr G s Ln xs) (hI : SIM I) (i0 : 0 ≤ i) (i1 : i + 4 ≤ Ln) (kk : ∀ J, SIM J → xK 166 G p l e room_1 s m args below meth c Q 121 2434 840 (LQL i) [] (hN J)) : xK 166 G p l e room_1 s m args below meth c Q 121 2434 420 (LQL i) [] (hN I) := by
  obtain ⟨v, J1, J2, h1, h2, h3⟩ := S_tile hI (scI xs (i + 1)) (scI_R _ _)
  repeat refine k_step C rfl ?_
  refine k_scr C hX rfl (by omega) (by omega) ?_
  repeat refine k_step C rfl ?_
  refine k_calla C (by decide) rfl h1 ⟨Nat.le_of_ble_eq_true rfl, Nat.le_of_ble_eq_true rfl⟩ ?_
  repeat refine k_step C rfl ?_
  refine k_scr C hX rfl (by omega) (by omega) ?_
  repeat refine k_step C rfl ?_
  refine k_calla C (by decide) rfl h2 ⟨Nat.le_of_ble_eq_true rfl, Nat.le_of_ble_eq_true rfl⟩ ?_
  refine k_same C rfl ?_
  exact kk J2 h3
set_option maxHeartbeats 4000000 in
set_option maxRecDepth 100000 in
theorem L_run (C : xCx 166 G p s m args meth c) (hX : xScr G s Ln xs) (hI : SIM I) (i0 : 0 ≤ i) (i1 : i + 4 ≤ Ln) (kk : ∀ J, SIM J → xK 166 G p l e room_1 s m args below meth c Q 121 2434 840 (LQL i) [] (hN J)) : xK 166 G p l e room_1 s m args below meth c Q 121 2434 443 (LQL i) [] (hN I) := by
  by_cases hb : scI xs (i + 2) = 0
  · obtain ⟨v, J1, J2, h1, h2, h3⟩ := S_run hI (scI xs (i + 1)) 0 (scI_R _ _) (Or.inl rfl)
    repeat refine k_step C rfl ?_
    refine k_scr C hX rfl (by omega) (by omega) ?_
    repeat refine k_step C rfl ?_
    refine k_scr C hX rfl (by omega) (by omega) ?_
    refine k_eq C rfl (scI_R _ _) (by omega) (fun w => ?_) (fun w => absurd hb w)
    repeat refine k_step C rfl ?_
    refine k_calla C (by decide) rfl h1 ⟨Nat.le_of_ble_eq_true rfl, Nat.le_of_ble_eq_true rfl⟩ ?_
    repeat refine k_step C rfl ?_
    refine k_scr C hX rfl (by omega) (by omega) ?_
    repeat refine k_step C rfl ?_
    refine k_scr C hX rfl (by omega) (by omega) ?_
    refine k_eq C rfl (scI_R _ _) (by omega) (fun w => ?_) (fun w => absurd hb w)
    repeat refine k_step C rfl ?_
    refine k_calla C (by decide) rfl h2 ⟨Nat.le_of_ble_eq_true rfl, Nat.le_of_ble_eq_true rfl⟩ ?_
    refine k_same C rfl ?_
    exact kk J2 h3
  · obtain ⟨v, J1, J2, h1, h2, h3⟩ := S_run hI (scI xs (i + 1)) 1 (scI_R _ _) (Or.inr rfl)
    repeat refine k_step C rfl ?_
    refine k_scr C hX rfl (by omega) (by omega) ?_
    repeat refine k_step C rfl ?_
    refine k_scr C hX rfl (by omega) (by omega) ?_
    refine k_eq C rfl (scI_R _ _) (by omega) (fun w => absurd w hb) (fun w => ?_)
    repeat refine k_step C rfl ?_
    refine k_calla C (by decide) rfl h1 ⟨Nat.le_of_ble_eq_true rfl, Nat.le_of_ble_eq_true rfl⟩ ?_
    repeat refine k_step C rfl ?_
    refine k_scr C hX rfl (by omega) (by omega) ?_
    repeat refine k_step C rfl ?_
    refine k_scr C hX rfl (by omega) (by omega) ?_
    refine k_eq C rfl (scI_R _ _) (by omega) (fun w => absurd w hb) (fun w => ?_)
    repeat refine k_step C rfl ?_
    refine k_calla C (by decide) rfl h2 ⟨Nat.le_of_ble_eq_true rfl, Nat.le_of_ble_eq_true rfl⟩ ?_
    refine k_same C rfl ?_
    exact kk J2 h3
set_option maxHeartbeats 4000000 in
set_option maxRecDepth 100000 in
theorem L_crossCheck (C : xCx 166 G p s m args meth c) (hX : xScr G s Ln xs) (hI : SIM I) (i0 : 0 ≤ i) (i1 : i + 4 ≤ Ln) (kk : ∀ J, SIM J → xK 166 G p l e room_1 s m args below meth c Q 121 2434 840 (LQL i) [] (hN J)) : xK 166 G p l e room_1 s m args below meth c Q 121 2434 492 (LQL i) [] (hN I) := by
  by_cases hb : scI xs (i + 2) = 0
  · obtain ⟨v, J1, J2, h1, h2, h3⟩ := S_crossCheck hI (scI xs (i + 1)) 0 (scI_R _ _) (Or.inl rfl)
    repeat refine k_step C rfl ?_
    refine k_scr C hX rfl (by omega) (by omega) ?_
    repeat refine k_step C rfl ?_
    refine k_scr C hX rfl (by omega) (by omega) ?_
    refine k_eq C rfl (scI_R _ _) (by omega) (fun w => ?_) (fun w => absurd hb w)
    repeat refine k_step C rfl ?_
    refine k_calla C (by decide) rfl h1 ⟨Nat.le_of_ble_eq_true rfl, Nat.le_of_ble_eq_true rfl⟩ ?_
    repeat refine k_step C rfl ?_
    refine k_scr C hX rfl (by omega) (by omega) ?_
    repeat refine k_step C rfl ?_
    refine k_scr C hX rfl (by omega) (by omega) ?_
    refine k_eq C rfl (scI_R _ _) (by omega) (fun w => ?_) (fun w => absurd hb w)
    repeat refine k_step C rfl ?_
    refine k_calla C (by decide) rfl h2 ⟨Nat.le_of_ble_eq_true rfl, Nat.le_of_ble_eq_true rfl⟩ ?_
    refine k_same C rfl ?_
    exact kk J2 h3
  · obtain ⟨v, J1, J2, h1, h2, h3⟩ := S_crossCheck hI (scI xs (i + 1)) 1 (scI_R _ _) (Or.inr rfl)
    repeat refine k_step C rfl ?_
    refine k_scr C hX rfl (by omega) (by omega) ?_
    repeat refine k_step C rfl ?_
    refine k_scr C hX rfl (by omega) (by omega) ?_
    refine k_eq C rfl (scI_R _ _) (by omega) (fun w => absurd w hb) (fun w => ?_)
    repeat refine k_step C rfl ?_
    refine k_calla C (by decide) rfl h1 ⟨Nat.le_of_ble_eq_true rfl, Nat.le_of_ble_eq_true rfl⟩ ?_
    repeat refine k_step C rfl ?_
    refine k_scr C hX rfl (by omega) (by omega) ?_
    repeat refine k_step C rfl ?_
    refine k_scr C hX rfl (by omega) (by omega) ?_
    refine k_eq C rfl (scI_R _ _) (by omega) (fun w => absurd w hb) (fun w => ?_)
    repeat refine k_step C rfl ?_
    refine k_calla C (by decide) rfl h2 ⟨Nat.le_of_ble_eq_true rfl, Nat.le_of_ble_eq_true rfl⟩ ?_
    refine k_same C rfl ?_
    exact kk J2 h3
set_option maxHeartbeats 4000000 in
set_option maxRecDepth 100000 in
theorem L_anchor (C : xCx 166 G p s m args meth c) (hX : xScr G s Ln xs) (hI : SIM I) (i0 : 0 ≤ i) (i1 : i + 4 ≤ Ln) (kk : ∀ J, SIM J → xK 166 G p l e room_1 s m args below meth c Q 121 2434 840 (LQL i) [] (hN J)) : xK 166 G p l e room_1 s m args below meth c Q 121 2434 541 (LQL i) [] (hN I) := by
  obtain ⟨v, J1, J2, h1, h2, h3⟩ := S_anchor hI (scI xs (i + 1)) (scI_R _ _)
  repeat refine k_step C rfl ?_
  refine k_scr C hX rfl (by omega) (by omega) ?_
  repeat refine k_step C rfl ?_
  refine k_calla C (by decide) rfl h1 ⟨Nat.le_of_ble_eq_true rfl, Nat.le_of_ble_eq_true rfl⟩ ?_
  repeat refine k_step C rfl ?_
  refine k_scr C hX rfl (by omega) (by omega) ?_
  repeat refine k_step C rfl ?_
  refine k_calla C (by decide) rfl h2 ⟨Nat.le_of_ble_eq_true rfl, Nat.le_of_ble_eq_true rfl⟩ ?_
  refine k_same C rfl ?_
  exact kk J2 h3
set_option maxHeartbeats 4000000 in
set_option maxRecDepth 100000 in
theorem L_tiles (C : xCx 166 G p s m args meth c) (hX : xScr G s Ln xs) (hI : SIM I) (i0 : 0 ≤ i) (i1 : i + 4 ≤ Ln) (kk : ∀ J, SIM J → xK 166 G p l e room_1 s m args below meth c Q 121 2434 840 (LQL i) [] (hN J)) : xK 166 G p l e room_1 s m args below meth c Q 121 2434 564 (LQL i) [] (hN I) := by
  obtain ⟨v, J1, J2, h1, h2, h3⟩ := S_tiles hI (scI xs (i + 1)) (scI xs (i + 2)) (scI_R _ _) (scI_R _ _)
  repeat refine k_step C rfl ?_
  refine k_scr C hX rfl (by omega) (by omega) ?_
  repeat refine k_step C rfl ?_
  refine k_scr C hX rfl (by omega) (by omega) ?_
  repeat refine k_step C rfl ?_
  refine k_calla C (by decide) rfl h1 ⟨Nat.le_of_ble_eq_true rfl, Nat.le_of_ble_eq_true rfl⟩ ?_
  repeat refine k_step C rfl ?_
  refine k_scr C hX rfl (by omega) (by omega) ?_
  repeat refine k_step C rfl ?_
  refine k_scr C hX rfl (by omega) (by omega) ?_
  repeat refine k_step C rfl ?_
  refine k_calla C (by decide) rfl h2 ⟨Nat.le_of_ble_eq_true rfl, Nat.le_of_ble_eq_true rfl⟩ ?_
  refine k_same C rfl ?_
  exact kk J2 h3
set_option maxHeartbeats 4000000 in
set_option maxRecDepth 100000 in
theorem L_score (C : xCx 166 G p s m args meth c) (hX : xScr G s Ln xs) (hI : SIM I) (i0 : 0 ≤ i) (i1 : i + 4 ≤ Ln) (kk : ∀ J, SIM J → xK 166 G p l e room_1 s m args below meth c Q 121 2434 840 (LQL i) [] (hN J)) : xK 166 G p l e room_1 s m args below meth c Q 121 2434 597 (LQL i) [] (hN I) := by
  obtain ⟨v, J1, J2, h1, h2, h3⟩ := S_score hI (scI xs (i + 1)) (scI_R _ _)
  repeat refine k_step C rfl ?_
  refine k_scr C hX rfl (by omega) (by omega) ?_
  repeat refine k_step C rfl ?_
  refine k_calla C (by decide) rfl h1 ⟨Nat.le_of_ble_eq_true rfl, Nat.le_of_ble_eq_true rfl⟩ ?_
  repeat refine k_step C rfl ?_
  refine k_scr C hX rfl (by omega) (by omega) ?_
  repeat refine k_step C rfl ?_
  refine k_calla C (by decide) rfl h2 ⟨Nat.le_of_ble_eq_true rfl, Nat.le_of_ble_eq_true rfl⟩ ?_
  refine k_same C rfl ?_
  exact kk J2 h3
set_option maxHeartbeats 4000000 in
set_option maxRecDepth 100000 in
theorem L_count (C : xCx 166 G p s m args meth c) (hX : xScr G s Ln xs) (hI : SIM I) (i0 : 0 ≤ i) (i1 : i + 4 ≤ Ln) (kk : ∀ J, SIM J → xK 166 G p l e room_1 s m args below meth c Q 121 2434 840 (LQL i) [] (hN J)) : xK 166 G p l e room_1 s m args below meth c Q 121 2434 620 (LQL i) [] (hN I) := by
  obtain ⟨v, J1, J2, h1, h2, h3⟩ := S_count hI (scI xs (i + 1)) (scI_R _ _)
  repeat refine k_step C rfl ?_
  refine k_scr C hX rfl (by omega) (by omega) ?_
  repeat refine k_step C rfl ?_
  refine k_calla C (by decide) rfl h1 ⟨Nat.le_of_ble_eq_true rfl, Nat.le_of_ble_eq_true rfl⟩ ?_
  repeat refine k_step C rfl ?_
  refine k_scr C hX rfl (by omega) (by omega) ?_
  repeat refine k_step C rfl ?_
  refine k_calla C (by decide) rfl h2 ⟨Nat.le_of_ble_eq_true rfl, Nat.le_of_ble_eq_true rfl⟩ ?_
  refine k_same C rfl ?_
  exact kk J2 h3
set_option maxHeartbeats 4000000 in
set_option maxRecDepth 100000 in
theorem L_reason (C : xCx 166 G p s m args meth c) (hX : xScr G s Ln xs) (hI : SIM I) (i0 : 0 ≤ i) (i1 : i + 4 ≤ Ln) (kk : ∀ J, SIM J → xK 166 G p l e room_1 s m args below meth c Q 121 2434 840 (LQL i) [] (hN J)) : xK 166 G p l e room_1 s m args below meth c Q 121 2434 643 (LQL i) [] (hN I) := by
  by_cases hb : scI xs (i + 3) = 0
  · obtain ⟨v, J1, J2, h1, h2, h3⟩ := S_reason hI (scI xs (i + 1)) (scI xs (i + 2)) 0 (scI_R _ _) (scI_R _ _) (Or.inl rfl)
    repeat refine k_step C rfl ?_
    refine k_scr C hX rfl (by omega) (by omega) ?_
    repeat refine k_step C rfl ?_
    refine k_scr C hX rfl (by omega) (by omega) ?_
    repeat refine k_step C rfl ?_
    refine k_scr C hX rfl (by omega) (by omega) ?_
    refine k_eq C rfl (scI_R _ _) (by omega) (fun w => ?_) (fun w => absurd hb w)
    repeat refine k_step C rfl ?_
    refine k_calla C (by decide) rfl h1 ⟨Nat.le_of_ble_eq_true rfl, Nat.le_of_ble_eq_true rfl⟩ ?_
    repeat refine k_step C rfl ?_
    refine k_scr C hX rfl (by omega) (by omega) ?_
    repeat refine k_step C rfl ?_
    refine k_scr C hX rfl (by omega) (by omega) ?_
    repeat refine k_step C rfl ?_
    refine k_scr C hX rfl (by omega) (by omega) ?_
    refine k_eq C rfl (scI_R _ _) (by omega) (fun w => ?_) (fun w => absurd hb w)
    repeat refine k_step C rfl ?_
    refine k_calla C (by decide) rfl h2 ⟨Nat.le_of_ble_eq_true rfl, Nat.le_of_ble_eq_true rfl⟩ ?_
    refine k_same C rfl ?_
    exact kk J2 h3
  · obtain ⟨v, J1, J2, h1, h2, h3⟩ := S_reason hI (scI xs (i + 1)) (scI xs (i + 2)) 1 (scI_R _ _) (scI_R _ _) (Or.inr rfl)
    repeat refine k_step C rfl ?_
    refine k_scr C hX rfl (by omega) (by omega) ?_
    repeat refine k_step C rfl ?_
    refine k_scr C hX rfl (by omega) (by omega) ?_
    repeat refine k_step C rfl ?_
    refine k_scr C hX rfl (by omega) (by omega) ?_
    refine k_eq C rfl (scI_R _ _) (by omega) (fun w => absurd w hb) (fun w => ?_)
    repeat refine k_step C rfl ?_
    refine k_calla C (by decide) rfl h1 ⟨Nat.le_of_ble_eq_true rfl, Nat.le_of_ble_eq_true rfl⟩ ?_
    repeat refine k_step C rfl ?_
    refine k_scr C hX rfl (by omega) (by omega) ?_
    repeat refine k_step C rfl ?_
    refine k_scr C hX rfl (by omega) (by omega) ?_
    repeat refine k_step C rfl ?_
    refine k_scr C hX rfl (by omega) (by omega) ?_
    refine k_eq C rfl (scI_R _ _) (by omega) (fun w => absurd w hb) (fun w => ?_)
    repeat refine k_step C rfl ?_
    refine k_calla C (by decide) rfl h2 ⟨Nat.le_of_ble_eq_true rfl, Nat.le_of_ble_eq_true rfl⟩ ?_
    refine k_same C rfl ?_
    exact kk J2 h3
set_option maxHeartbeats 4000000 in
set_option maxRecDepth 100000 in
theorem L_worth (C : xCx 166 G p s m args meth c) (hX : xScr G s Ln xs) (hI : SIM I) (i0 : 0 ≤ i) (i1 : i + 4 ≤ Ln) (kk : ∀ J, SIM J → xK 166 G p l e room_1 s m args below meth c Q 121 2434 840 (LQL i) [] (hN J)) : xK 166 G p l e room_1 s m args below meth c Q 121 2434 702 (LQL i) [] (hN I) := by
  by_cases hb : scI xs (i + 3) = 0
  · obtain ⟨v, J1, J2, h1, h2, h3⟩ := S_worth hI (scI xs (i + 1)) (scI xs (i + 2)) 0 (scI_R _ _) (scI_R _ _) (Or.inl rfl)
    repeat refine k_step C rfl ?_
    refine k_scr C hX rfl (by omega) (by omega) ?_
    repeat refine k_step C rfl ?_
    refine k_scr C hX rfl (by omega) (by omega) ?_
    repeat refine k_step C rfl ?_
    refine k_scr C hX rfl (by omega) (by omega) ?_
    refine k_eq C rfl (scI_R _ _) (by omega) (fun w => ?_) (fun w => absurd hb w)
    repeat refine k_step C rfl ?_
    refine k_calla C (by decide) rfl h1 ⟨Nat.le_of_ble_eq_true rfl, Nat.le_of_ble_eq_true rfl⟩ ?_
    repeat refine k_step C rfl ?_
    refine k_scr C hX rfl (by omega) (by omega) ?_
    repeat refine k_step C rfl ?_
    refine k_scr C hX rfl (by omega) (by omega) ?_
    repeat refine k_step C rfl ?_
    refine k_scr C hX rfl (by omega) (by omega) ?_
    refine k_eq C rfl (scI_R _ _) (by omega) (fun w => ?_) (fun w => absurd hb w)
    repeat refine k_step C rfl ?_
    refine k_calla C (by decide) rfl h2 ⟨Nat.le_of_ble_eq_true rfl, Nat.le_of_ble_eq_true rfl⟩ ?_
    refine k_same C rfl ?_
    exact kk J2 h3
  · obtain ⟨v, J1, J2, h1, h2, h3⟩ := S_worth hI (scI xs (i + 1)) (scI xs (i + 2)) 1 (scI_R _ _) (scI_R _ _) (Or.inr rfl)
    repeat refine k_step C rfl ?_
    refine k_scr C hX rfl (by omega) (by omega) ?_
    repeat refine k_step C rfl ?_
    refine k_scr C hX rfl (by omega) (by omega) ?_
    repeat refine k_step C rfl ?_
    refine k_scr C hX rfl (by omega) (by omega) ?_
    refine k_eq C rfl (scI_R _ _) (by omega) (fun w => absurd w hb) (fun w => ?_)
    repeat refine k_step C rfl ?_
    refine k_calla C (by decide) rfl h1 ⟨Nat.le_of_ble_eq_true rfl, Nat.le_of_ble_eq_true rfl⟩ ?_
    repeat refine k_step C rfl ?_
    refine k_scr C hX rfl (by omega) (by omega) ?_
    repeat refine k_step C rfl ?_
    refine k_scr C hX rfl (by omega) (by omega) ?_
    repeat refine k_step C rfl ?_
    refine k_scr C hX rfl (by omega) (by omega) ?_
    refine k_eq C rfl (scI_R _ _) (by omega) (fun w => absurd w hb) (fun w => ?_)
    repeat refine k_step C rfl ?_
    refine k_calla C (by decide) rfl h2 ⟨Nat.le_of_ble_eq_true rfl, Nat.le_of_ble_eq_true rfl⟩ ?_
    refine k_same C rfl ?_
    exact kk J2 h3
set_option maxHeartbeats 4000000 in
set_option maxRecDepth 100000 in
theorem L_plays (C : xCx 166 G p s m args meth c) (hX : xScr G s Ln xs) (hI : SIM I) (i0 : 0 ≤ i) (i1 : i + 4 ≤ Ln) (kk : ∀ J, SIM J → xK 166 G p l e room_1 s m args below meth c Q 121 2434 840 (LQL i) [] (hN J)) : xK 166 G p l e room_1 s m args below meth c Q 121 2434 761 (LQL i) [] (hN I) := by
  obtain ⟨v, J1, J2, h1, h2, h3⟩ := S_plays hI 
  repeat refine k_step C rfl ?_
  refine k_calla C (by decide) rfl h1 ⟨Nat.le_of_ble_eq_true rfl, Nat.le_of_ble_eq_true rfl⟩ ?_
  repeat refine k_step C rfl ?_
  refine k_calla C (by decide) rfl h2 ⟨Nat.le_of_ble_eq_true rfl, Nat.le_of_ble_eq_true rfl⟩ ?_
  refine k_same C rfl ?_
  exact kk J2 h3
set_option maxHeartbeats 4000000 in
set_option maxRecDepth 100000 in
theorem L_best (C : xCx 166 G p s m args meth c) (hX : xScr G s Ln xs) (hI : SIM I) (i0 : 0 ≤ i) (i1 : i + 4 ≤ Ln) (kk : ∀ J, SIM J → xK 166 G p l e room_1 s m args below meth c Q 121 2434 840 (LQL i) [] (hN J)) : xK 166 G p l e room_1 s m args below meth c Q 121 2434 774 (LQL i) [] (hN I) := by
  obtain ⟨v, J1, J2, h1, h2, h3⟩ := S_best hI (scI xs (i + 1)) (scI_R _ _)
  repeat refine k_step C rfl ?_
  refine k_scr C hX rfl (by omega) (by omega) ?_
  repeat refine k_step C rfl ?_
  refine k_calla C (by decide) rfl h1 ⟨Nat.le_of_ble_eq_true rfl, Nat.le_of_ble_eq_true rfl⟩ ?_
  repeat refine k_step C rfl ?_
  refine k_scr C hX rfl (by omega) (by omega) ?_
  repeat refine k_step C rfl ?_
  refine k_calla C (by decide) rfl h2 ⟨Nat.le_of_ble_eq_true rfl, Nat.le_of_ble_eq_true rfl⟩ ?_
  refine k_same C rfl ?_
  exact kk J2 h3
end LAWC
