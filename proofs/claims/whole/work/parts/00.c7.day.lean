/-! steps: day, undo -/
theorem st_day (c0 : CU) (sd : Int64) (u0 : TU) (se : Int64) (hR : Rel c0 sd u0 se) : ∃ (r : Int32) (c1 : CU) (mu1 : TU), f_X6_day NN c0 sd = some (r, c1) ∧ f_X7_day NN u0 se = some (r, mu1) ∧ Rel c1 sd mu1 se := by
  have hNN : NN = 1000 := rfl
  obtain ⟨e0, T, A, hT, hC, hM, hA, hL, hW, hTx, hAc, h6, h7, hSe⟩ := id hR
  have h4 := hT.1
  obtain ⟨d, hd, ed⟩ := hA.1
  by_cases hd9 : d = 9
  · subst hd9
    refine ⟨-3, c0, u0, ?_, ?_, hR⟩
    · unfold f_X6_day; rw [hL.1, ed, if_neg (by decide)]
    · unfold f_X7_day; rw [px_rd0 (by decide) (by decide), hW 0 (by decide), ed, Option.bind_some, if_pos (by decide)]
  obtain ⟨G, hG⟩ : ∃ G : Nat → Nat, G = fun i => if A (2 + i) = -9 ∧ d < tE T i then 1 else 0 := ⟨_, rfl⟩
  obtain ⟨g, hg⟩ : ∃ g : Int32, g = nI (sm G (T 0 0)) := ⟨_, rfl⟩
  obtain ⟨v', u', q1, q2, q3, q4, q5⟩ := acts_push (se := se) hA hW hAc 1 0 g
  have u11 : u' 11 = u0 11 := q3 11 (by decide) (by decide)
  have hM1 : ∀ (u'' : TU), (∀ k, k ≠ 11 → u'' k = u' k) → RT u'' T := fun u'' hk => RT_of (u := u0) (fun j hj => by rw [hk 0 (by decide)]; exact q4 j (by omega) (by omega)) (fun k h1 h2 => by rw [hk k (by omega)]; exact q3 k (by omega) (by omega)) hM
  have p11 : ∀ (w : TU) (j : Nat) (x : Int32), ∀ k, k ≠ 11 → mk_put w 11 j x k = w k := fun w j x k hk => by unfold mk_put; rw [if_neg hk]
  have w5 : RT u' T := hM1 _ (fun _ _ => rfl)
  have fin11 : ∀ k, k ≠ 11 → mk_put (mk_put u' 11 0 (A 0 + 1)) 11 1 (A 1 + g) k = u' k := fun k hk => by rw [p11 _ _ _ k hk, p11 _ _ _ k hk]
  have ref : f_X7_day NN u0 se = some (g, mk_put (mk_put u' 11 0 (A 0 + 1)) 11 1 (A 1 + g)) := by
    unfold f_X7_day
    rw [px_rd0 (by decide) (by decide), hW 0 (by decide), Option.bind_some, if_neg (by rw [ed, show (9 : Int32) = nI 9 from rfl, nI_eq (by omega) (by decide)]; exact hd9), q2, Option.bind_some]
    refine lq2_up (T 0 0) NN (fun i => nI (sm G i)) _ (by omega) (by omega) _ w5.1 _ _ (fun _ _ _ => rfl) ?_ (fun rec i hi => ?_)
    · try dsimp only
      rw [px_rd0 (by decide) (by decide), u11, hW 0 (by decide), ← hg, Option.bind_some, show mk_ix 10 0 = some () by decide, Option.bind_some]
      unfold mk_nm
      dsimp only
      rw [px_rd1 (by decide) (by decide), Option.bind_some, show mk_ix 10 1 = some () by decide, Option.bind_some, show ((0 : Int32).toNatClampNeg) = 0 from rfl, show ((1 : Int32).toNatClampNeg) = 1 from rfl, show mk_put u' 11 0 (A 0 + 1) 11 1 = A 1 by show upd (u' 11) 0 (A 0 + 1) 1 = _; rw [upd_n _ (by omega), u11]; exact hW 1 (by decide)]
    · try dsimp only
      have h9 := tE_9 hT hi
      rw [show (2 : Int32) = nI 2 from rfl, nI_add, px_rd (by omega) (by decide), u11, hW (2 + i) (by omega), Option.bind_some, px_rd0 (by decide) (by decide), hW 0 (by decide), rf_trueEnd hT w5 hi, Option.bind_some, Option.bind_some]
      unfold g_X7_day_62
      simp only [sm]
      by_cases g3 : A (2 + i) = -9
      · rw [if_pos g3]
        by_cases h : d < tE T i
        · rw [if_neg (by rw [ed]; exact nI_ge h (by omega)), show G i = 1 by rw [hG]; exact if_pos ⟨g3, h⟩, px_1, nI_add]
        · rw [if_pos (by rw [ed]; exact nI_le (by omega) (by omega)), show G i = 0 by rw [hG]; exact if_neg (fun q => h q.2), px_0, nI_add]
      · rw [if_neg g3, show G i = 0 by rw [hG]; exact if_neg (fun q => g3 q.1), px_0, nI_add]
  have cls : f_X6_day NN c0 sd = some (g, mk_set3 (mk_set3 (mk_set3 c0 4 (mk_put (c0 4) 0 0 (A 0 + 1))) 4 (mk_put (mk_put (c0 4) 0 0 (A 0 + 1)) 0 1 (A 1 + g))) 5 v') := by
    unfold f_X6_day
    rw [hL.1, if_pos (by rw [ed, show (9 : Int32) = nI 9 from rfl]; exact nI_lt (by omega) (by decide))]
    refine lq2_up (T 0 0) NN (fun i => nI (sm G i)) _ (by omega) (by omega) _ hC.1.1 _ _ (fun _ _ _ => rfl) ?_ (fun rec i hi => ?_)
    · try dsimp only
      unfold mk_nm
      dsimp only
      rw [hL.1, ← hg]
      rw [show mk_set3 c0 4 (mk_put (c0 4) 0 0 (A 0 + 1)) 4 = mk_put (c0 4) 0 0 (A 0 + 1) from rfl, show mk_put (c0 4) 0 0 (A 0 + 1) 0 1 = A 1 from hL.2.1]
      rw [show mk_set3 (mk_set3 c0 4 (mk_put (c0 4) 0 0 (A 0 + 1))) 4 (mk_put (mk_put (c0 4) 0 0 (A 0 + 1)) 0 1 (A 1 + g)) 5 = c0 5 from rfl, q1]
      rfl
    · try dsimp only
      rw [px_rd (by omega) (by decide), hL.2.2.2 i (by omega), Option.bind_some, ck_ended hT hC hL hd ed hi, Option.bind_some]
      simp only [sm]
      by_cases g3 : A (2 + i) = -9
      · rw [if_pos g3]
        by_cases h : d < tE T i
        · rw [if_pos h, if_pos rfl, show G i = 1 by rw [hG]; exact if_pos ⟨g3, h⟩, nI_1]
        · rw [if_neg h, if_neg (by decide), show G i = 0 by rw [hG]; exact if_neg (fun q => h q.2), Nat.add_zero]
      · rw [if_neg g3, show G i = 0 by rw [hG]; exact if_neg (fun q => g3 q.1), Nat.add_zero]
  have cell : ∀ k, k ≠ 0 → k ≠ 11 → k ≠ 13 → mk_put (mk_put u' 11 0 (A 0 + 1)) 11 1 (A 1 + g) k = u0 k := fun k h1 h2 h3 => (fin11 k h2).trans (q3 k h1 h3)
  have c0z : ∀ j, j ≠ 9 → j ≠ 10 → mk_put (mk_put u' 11 0 (A 0 + 1)) 11 1 (A 1 + g) 0 j = u0 0 j := fun j h1 h2 => q4 j h1 h2
  refine ⟨g, _, _, cls, ref, e0, T, sA (sA A 0 (A 0 + 1)) 1 (A 1 + g), hT, hC, hM1 _ fin11, ?_, ?_, ?_, Text_of (c0z 6 (by decide) (by decide)) (cell 12 (by decide) (by decide) (by decide)) hTx, ?_, Slot_of (by rw [cell 18 (by decide) (by decide) (by decide)]) (fun j _ => by rw [cell 19 (by decide) (by decide) (by decide)]) h6, Slot_of (by rw [cell 18 (by decide) (by decide) (by decide)]) (fun j _ => by rw [cell 19 (by decide) (by decide) (by decide)]) h7, Seen_of (c0z 12 (by decide) (by decide)) (cell 15 (by decide) (by decide) (by decide)) (cell 16 (by decide) (by decide) (by decide)) hSe⟩
  · refine ⟨⟨d + 1, by omega, by unfold sA; rw [if_neg (by omega), if_pos rfl, ed, nI_1]⟩, fun j hj => ?_, fun b hb => ?_⟩
    · unfold sA; rw [if_neg (by omega), if_neg (by omega)]; exact hA.2.1 j hj
    · unfold sA; rw [if_neg (by omega), if_neg (by omega)]; exact hA.2.2 b hb
  · refine ⟨?_, ?_, fun b hb => ?_, fun j hj => ?_⟩
    · unfold sA; rw [if_neg (by omega), if_pos rfl]; rfl
    · unfold sA; rw [if_pos rfl]; rfl
    · unfold sA; rw [if_neg (by omega), if_neg (by omega)]; exact hL.2.2.1 b hb
    · unfold sA; rw [if_neg (by omega), if_neg (by omega)]; exact hL.2.2.2 j hj
  · intro j hj
    show upd (upd (u' 11) 0 (A 0 + 1)) 1 (A 1 + g) j = _
    unfold sA
    by_cases hj1 : j = 1
    · subst hj1; rw [upd_s, if_pos rfl]
    · rw [upd_n _ hj1, if_neg hj1]
      by_cases hji : j = 0
      · subst hji; rw [upd_s, if_pos rfl]
      · rw [upd_n _ hji, if_neg hji, u11]; exact hW j hj
  · refine q5 _ _ ⟨?_, Or.inl ⟨rfl, ?_, fun j h1 h2 => ?_⟩⟩ rfl rfl (fin11 13 (by decide))
    · unfold sA; rw [if_pos rfl, i_as]
    · unfold sA; rw [if_neg (by omega), if_pos rfl, i_as]
    · unfold sA; rw [if_neg (by omega), if_neg (by omega)]

theorem rk_undo {u : TU} {se : Int64} {x : Nat} (hx : x < 16) (e10 : u 0 10 = nI x) : ∃ u', lq2 (g_X7_undo_36 NN se) NN u 0 = some (u 0 9, u') ∧ (∀ k, k ≠ 11 → u' k = u k) ∧ (∀ j, j < 10 → u' 11 j = u 13 (10 * x + j)) := by
  have hNN : NN = 1000 := rfl
  obtain ⟨F, hF0, hF⟩ : ∃ F : Nat → TU, F 0 = u ∧ ∀ i, F (i + 1) = mk_put (F i) 11 i (u 13 (10 * x + i)) := by
    refine ⟨fun i => Nat.rec u (fun i w => mk_put w 11 i (u 13 (10 * x + i))) i, rfl, fun i => rfl⟩
  have h1 : ∀ i, ∀ k, k ≠ 11 → F i k = u k := by
    intro i
    induction i with
    | zero => intro k _; rw [hF0]
    | succ i ih => intro k hk; rw [hF]; unfold mk_put; rw [if_neg hk]; exact ih k hk
  have h2 : ∀ i j, j < i → F i 11 j = u 13 (10 * x + j) := by
    intro i
    induction i with
    | zero => intro j hj; omega
    | succ i ih =>
      intro j hj
      rw [hF]
      show upd (F i 11) i (u 13 (10 * x + i)) j = _
      by_cases hj2 : j = i
      · subst hj2; rw [upd_s]
      · rw [upd_n _ hj2]; exact ih j (by omega)
  refine ⟨F 10, ?_, fun k hk => h1 10 k hk, fun j hj => h2 10 j hj⟩
  rw [show lq2 (g_X7_undo_36 NN se) NN u 0 = lq2 (g_X7_undo_36 NN se) NN (F 0) (nI 0) by rw [hF0]; rfl]
  refine lq2_for 0 10 NN F _ (fun rec => ?_) (fun rec i _ hi => ?_) (by omega) (by omega)
  · unfold g_X7_undo_36
    rw [show (10 : Int32) = nI 10 from rfl, if_pos (Int32.le_refl _), h1 10 0 (by decide)]
  · unfold g_X7_undo_36 mk_nm
    rw [show F i 0 10 = nI x by rw [h1 i 0 (by decide)]; exact e10, show (10 : Int32) = nI 10 from rfl, if_neg (nI_ge hi (by decide)), pk_mul, nI_add, px_rd (by omega) (by decide), px_ix hi (by decide), nI_clamp (by omega), nI_1, h1 i 13 (by decide)]
    simp only [Option.bind_some]
    rw [hF]
theorem ck_back {v l : TU} {A B : Nat → Int32} {s : Nat} (hs : s < 16) (e : v 0 0 = nI (s + 1)) (hL : lifeR l A) (hU : undoes (v 1 s) (v 2 s) (v 3 s) A B) : ∃ l', f_X0_takeBackLast NN v l = some (mk_put v 0 0 (nI s), l') ∧ lifeR l' B := by
  obtain ⟨h1, h2⟩ := hU
  have pre : ∀ r, (((mk_rd (v 1) 16 (nI s)).bind fun v_4 => if v_4 = (1 : Int32) then some (mk_put v 0 0 (nI s), mk_put (mk_put l 0 1 (B 1)) 0 0 (A 0 - 1)) else (mk_rd (v 1) 16 (nI s)).bind fun v_6 => if v_6 = (2 : Int32) then ((mk_rd (v 2) 16 (nI s)).bind fun v_7 => (mk_ix 4 v_7).bind fun _ => some (mk_put v 0 0 (nI s), mk_put (mk_put l 0 1 (B 1)) 2 v_7.toNatClampNeg (-9 : Int32))) else (mk_rd (v 2) 16 (nI s)).bind fun v_9 => (mk_ix 4 v_9).bind fun _ => some (mk_put v 0 0 (nI s), mk_put (mk_put l 0 1 (B 1)) 1 v_9.toNatClampNeg (-9 : Int32))) = some r) → f_X0_takeBackLast NN v l = some r := by
    intro r hr
    rw [← hr]
    unfold f_X0_takeBackLast mk_nm
    dsimp only
    rw [e, if_pos (show (0 : Int32) < nI (s + 1) from nI_lt (a := 0) (by omega) (by omega)), show nI (s + 1) - 1 = nI s by rw [px_1, pk_sub (by omega), Nat.add_sub_cancel], show mk_put v 0 0 (nI s) 1 = v 1 from rfl, show mk_put v 0 0 (nI s) 2 = v 2 from rfl, show mk_put v 0 0 (nI s) 3 = v 3 from rfl, show mk_put v 0 0 (nI s) 0 0 = nI s from rfl, px_rd (f := v 3) hs (by decide), hL.2.1, Option.bind_some, ← h1, show mk_put l 0 1 (B 1) 0 0 = A 0 from hL.1]
  have p0 := px_rd (f := v 1) hs (by decide)
  have p2 := px_rd (f := v 2) hs (by decide)
  rcases h2 with ⟨k1, b0, bj⟩ | ⟨k1, i, hi, w1, b0, bi, bj⟩ | ⟨k1, a, ha, w1, b0, ba, bj⟩
  · refine ⟨_, pre _ (by rw [p0, Option.bind_some, k1, if_pos rfl]), ?_, rfl, fun a ha => ?_, fun i hi => ?_⟩
    · exact b0.symm
    · exact (hL.2.2.1 a ha).trans (bj _ (by omega) (by omega)).symm
    · exact (hL.2.2.2 i hi).trans (bj _ (by omega) (by omega)).symm
  · refine ⟨mk_put (mk_put l 0 1 (B 1)) 2 i (-9), pre _ (by rw [p0, p2, Option.bind_some, Option.bind_some, Option.bind_some, k1, if_neg (by decide), if_pos rfl, w1, px_ix hi (by decide), Option.bind_some, nI_clamp (by omega)]), ?_, rfl, fun a ha => ?_, fun j hj => ?_⟩
    · exact hL.1.trans b0.symm
    · exact (hL.2.2.1 a ha).trans (bj _ (by omega) (by omega) (by omega)).symm
    · show upd (l 2) i (-9) j = _
      by_cases hji : j = i
      · subst hji; rw [upd_s]; exact bi.symm
      · rw [upd_n _ hji]; exact (hL.2.2.2 j hj).trans (bj _ (by omega) (by omega) (by omega)).symm
  · refine ⟨mk_put (mk_put l 0 1 (B 1)) 1 a (-9), pre _ (by rw [p0, p2, Option.bind_some, Option.bind_some, k1, if_neg (by decide), if_neg (by decide), Option.bind_some, w1, px_ix ha (by decide), Option.bind_some, nI_clamp (by omega)]), ?_, rfl, fun j hj => ?_, fun i hi => ?_⟩
    · exact hL.1.trans b0.symm
    · show upd (l 1) a (-9) j = _
      by_cases hji : j = a
      · subst hji; rw [upd_s]; exact ba.symm
      · rw [upd_n _ hji]; exact (hL.2.2.1 j hj).trans (bj _ (by omega) (by omega) (by omega)).symm
    · exact (hL.2.2.2 i hi).trans (bj _ (by omega) (by omega) (by omega)).symm
theorem st_undo (c0 : CU) (sd : Int64) (u0 : TU) (se : Int64) (hR : Rel c0 sd u0 se) : ∃ (r : Int32) (c1 : CU) (mu1 : TU), f_X6_undo NN c0 sd = some (r, c1) ∧ f_X7_undo NN u0 se = some (r, mu1) ∧ Rel c1 sd mu1 se := by
  have hNN : NN = 1000 := rfl
  obtain ⟨e0, T, A, hT, hC, hM, hA, hL, hW, hTx, ⟨s, x, hs, hx, e1, e9, e10, S, hS0, hS⟩, h6, h7, hSe⟩ := id hR
  by_cases h0 : s = 0
  · subst h0
    refine ⟨-3, c0, u0, ?_, ?_, hR⟩
    · unfold f_X6_undo; rw [e1, if_neg (by decide)]
    · unfold f_X7_undo; rw [e9, if_pos (by decide)]
  obtain ⟨s', rfl⟩ : ∃ s', s = s' + 1 := ⟨s - 1, by omega⟩
  obtain ⟨w1, w2, w3⟩ := hS 0 (by omega)
  rw [show s' + 1 - 1 - 0 = s' by omega] at w3
  obtain ⟨l', t1, t2⟩ := ck_back (by omega) e1 hL (undoes_c (fun j hj => (hS0 j hj).symm) w3)
  obtain ⟨u', k1, k2, k3⟩ := rk_undo (se := se) (u := mk_put (mk_put u0 0 9 (nI s')) 0 10 (nI ((x + 15) % 16))) (x := (x + 15) % 16) (Nat.mod_lt _ (by decide)) rfl
  have kk : ∀ k, k ≠ 0 → k ≠ 11 → u' k = u0 k := fun k g1 g2 => by rw [k2 k g2]; unfold mk_put; rw [if_neg g1, if_neg g1]
  have kz : ∀ j, j ≠ 9 → j ≠ 10 → u' 0 j = u0 0 j := fun j g1 g2 => by rw [k2 0 (by decide)]; show upd (upd (u0 0) 9 _) 10 _ j = _; rw [upd_n _ g2, upd_n _ g1]
  refine ⟨nI s', mk_set3 (mk_set3 c0 5 (mk_put (c0 5) 0 0 (nI s'))) 4 l', u', ?_, ?_, e0, T, S 1, hT, hC, RT_of (fun j hj => kz j (by omega) (by omega)) (fun k g1 g2 => kk k (by omega) (by omega)) hM, w1, t2, fun j hj => ?_, Text_of (kz 6 (by decide) (by decide)) (kk 12 (by decide) (by decide)) hTx, ?_, Slot_of (by rw [kk 18 (by decide) (by decide)]) (fun j _ => by rw [kk 19 (by decide) (by decide)]) h6, Slot_of (by rw [kk 18 (by decide) (by decide)]) (fun j _ => by rw [kk 19 (by decide) (by decide)]) h7, Seen_of (kz 12 (by decide) (by decide)) (kk 15 (by decide) (by decide)) (kk 16 (by decide) (by decide)) hSe⟩
  · unfold f_X6_undo mk_nm
    rw [t1, e1, if_pos (show (0 : Int32) < nI (s' + 1) from nI_lt (a := 0) (by omega) (by omega))]
    rfl
  · unfold f_X7_undo mk_nm
    dsimp only
    rw [e9, if_neg (nI_ne0 (by omega) (by omega)), px_1, pk_sub (by omega), Nat.add_sub_cancel, show mk_put u0 0 9 (nI s') 0 10 = nI x from e10, show (15 : Int32) = nI 15 from rfl, nI_add, show (16 : Int32) = nI 16 from rfl, pk_rem (by omega) (by decide) (by decide), k1]
    rfl
  · rw [k3 j hj, show mk_put (mk_put u0 0 9 (nI s')) 0 10 (nI ((x + 15) % 16)) 13 = u0 13 from rfl]
    exact w2 j hj
  · refine ⟨s', (x + 15) % 16, by omega, Nat.mod_lt _ (by decide), rfl, by rw [k2 0 (by decide)]; rfl, by rw [k2 0 (by decide)]; rfl, fun j => S (j + 1), fun j _ => rfl, fun j hj => ?_⟩
    obtain ⟨p1, p2, p3⟩ := hS (j + 1) (by omega)
    refine ⟨p1, fun k hk => ?_, ?_⟩
    · rw [kk 13 (by decide) (by decide), show ((x + 15) % 16 + 15 - j) % 16 = (x + 15 - (j + 1)) % 16 by omega]
      exact p2 k hk
    · rw [show s' + 1 - 1 - (j + 1) = s' - 1 - j by omega] at p3
      exact p3
