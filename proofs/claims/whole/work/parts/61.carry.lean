/-! an order is carried out -/
noncomputable def caV (z : Int → Int) (sg c q d : Int) : Int × (Int → Int) :=
  @ite _ (sg = 43) (Classical.propDecidable _) (if 0 ≤ noM (fun _ => z) c then (-4, z) else if z 112 = 20 then (-3, z) else (z 112, pwS z c))
    (@ite _ (sg = 45) (Classical.propDecidable _) (if 0 ≤ noM (fun _ => z) c then (noM (fun _ => z) c, twS z (noM (fun _ => z) c)) else (-1, z))
      (if rfS z (inM (fun _ => z)) (rkZ z (z 106)) c q d = 0 then (woS z c q d, dpZ z c q d) else (-10 - rfS z (inM (fun _ => z)) (rkZ z (z 106)) c q d, z)))
section CARRY
variable {H : Nat → Int → Int} {z : Int → Int} {sg c q d : Int}
theorem caV_p (h : sg = 43) : caV z sg c q d = if 0 ≤ noM (fun _ => z) c then (-4, z) else if z 112 = 20 then (-3, z) else (z 112, pwS z c) := by
  unfold caV
  rw [if_pos h]
theorem caV_m (h : sg = 45) : caV z sg c q d = if 0 ≤ noM (fun _ => z) c then (noM (fun _ => z) c, twS z (noM (fun _ => z) c)) else (-1, z) := by
  unfold caV
  rw [if_neg (by omega), if_pos h]
theorem caV_o (h : ¬ (sg = 43 ∨ sg = 45)) : caV z sg c q d = if rfS z (inM (fun _ => z)) (rkZ z (z 106)) c q d = 0 then (woS z c q d, dpZ z c q d) else (-10 - rfS z (inM (fun _ => z)) (rkZ z (z 106)) c q d, z) := by
  unfold caV
  rw [if_neg (fun w => h (Or.inl w)), if_neg (fun w => h (Or.inr w))]
theorem WZ.ca (h : WZ z) (hl : 0 < lnS c) (hc : InR c) : WZ (caV z sg c q d).2 ∧ -20 ≤ (caV z sg c q d).1 ∧ (caV z sg c q d).1 ≤ 100000 := by
  have hm := h.mn
  have hwm : wdM (fun _ => z) := ⟨hm.1, hm.2, fun k a b => (h.wd k a b).2⟩
  have hnR := noM_R (fun _ => z) hwm.1 hwm.2.1 c
  have hni := noM_in (I := fun _ => z) hwm.1 c
  have hnR : 0 ≤ noM (fun _ => z) c ∧ noM (fun _ => z) c < z 112 ∨ noM (fun _ => z) c = -5 := hnR
  by_cases h1 : sg = 43
  · rw [caV_p h1]
    by_cases g1 : 0 ≤ noM (fun _ => z) c
    · rw [if_pos g1]
      exact ⟨h, by show (-20 : Int) ≤ -4; omega, by show (-4 : Int) ≤ 100000; omega⟩
    · rw [if_neg g1]
      by_cases g2 : z 112 = 20
      · rw [if_pos g2]
        exact ⟨h, by show (-20 : Int) ≤ -3; omega, by show (-3 : Int) ≤ 100000; omega⟩
      · rw [if_neg g2]
        refine ⟨h.pw hl hc (fun k a b g => g1 (hni.mpr ⟨k, a, b, g⟩)) (by omega), ?_, ?_⟩
        · show -20 ≤ z 112; omega
        · show z 112 ≤ 100000; omega
  · by_cases h2 : sg = 45
    · rw [caV_m h2]
      by_cases g1 : 0 ≤ noM (fun _ => z) c
      · rw [if_pos g1]
        refine ⟨h.tw g1 (by omega), ?_, ?_⟩
        · show -20 ≤ noM (fun _ => z) c; omega
        · show noM (fun _ => z) c ≤ 100000; omega
      · rw [if_neg g1]
        exact ⟨h, by show (-20 : Int) ≤ -1; omega, by show (-1 : Int) ≤ 100000; omega⟩
    · rw [caV_o (by omega)]
      have hR := rfS_R z (inM (fun _ => z)) (rkZ z (z 106)) c q d
      have hS := woS_R z c q d
      by_cases g1 : rfS z (inM (fun _ => z)) (rkZ z (z 106)) c q d = 0
      · rw [if_pos g1]
        have hok := rf_ok g1
        refine ⟨h.dp hl hok.2, ?_, ?_⟩
        · show -20 ≤ woS z c q d; omega
        · show woS z c q d ≤ 100000; omega
      · rw [if_neg g1]
        refine ⟨h, ?_, ?_⟩
        · show -20 ≤ -10 - rfS z (inM (fun _ => z)) (rkZ z (z 106)) c q d; omega
        · show -10 - rfS z (inM (fun _ => z)) (rkZ z (z 106)) c q d ≤ 100000; omega
end CARRY
