/-! step: town, its end -/
section TOWNEND
variable {T : NT} {u : TU} {c : CU} {sd se : Int64} {N : Nat}
theorem tw_cls_no {r : Int32} {c' : CU} (h : ¬ r = -9) (a1 : f_X6_readText N c sd = some (r, c')) : f_X6_town N c sd = some (-3, false, c') := by
  unfold f_X6_town; rw [a1, Option.bind_some]; exact if_neg h
theorem tw_ref_no {r : Int32} {u' : TU} (h : ¬ r = -9) (a2 : f_X7_readText N u se = some (r, u')) : f_X7_town N u se = some (-3, u') := by
  unfold f_X7_town; rw [a2, Option.bind_some]; exact if_neg h
theorem tw_cls_yes {r : Int32} {c' c8 : CU} {v' l' : TU} (h : r = -9) (a1 : f_X6_readText N c sd = some (r, c')) (w1 : f_X5_weighWorlds N (mk_sw c' 2) = some v') (l1 : f_X2_startAnew N (mk_set3 (mk_sw c') 2 v' 4) = some l') (g1 : f_X6_forgetKept N (mk_set3 (mk_set3 (mk_set3 (mk_sw c') 2 v') 4 l') 5 (mk_put ((mk_set3 (mk_set3 (mk_sw c') 2 v') 4 l') 5) 0 0 0)) sd = some c8) : f_X6_town N c sd = some (10 * (c8 2 0 0) + c8 2 0 2, true, c8) := by
  unfold f_X6_town
  rw [a1, Option.bind_some, if_pos h]
  unfold mk_nm
  dsimp only
  rw [w1, Option.bind_some, l1, Option.bind_some, g1, Option.bind_some]
theorem tw_ref_yes {r : Int32} {u' w : TU} {q : Int32} (h : r = -9) (a2 : f_X7_readText N u se = some (r, u')) (k1 : lq2 (g_X7_town_38 N se) N (mk_put (mk_put (mk_put u' 0 0 (u' 0 3)) 0 1 ((mk_put u' 0 0 (u' 0 3)) 0 4)) 0 2 ((mk_put (mk_put u' 0 0 (u' 0 3)) 0 1 ((mk_put u' 0 0 (u' 0 3)) 0 4)) 0 5)) 0 = some (q, w)) : f_X7_town N u se = some (q, w) := by
  unfold f_X7_town
  rw [a2, Option.bind_some, if_pos h]
  unfold mk_nm
  exact k1
end TOWNEND
