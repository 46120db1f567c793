/-! step: town -/
section TOWNS
variable {T : NT} {u : TU} {c : CU} {sd se : Int64} {N : Nat}
theorem ck_forget : ∃ c', f_X6_forgetKept NN c sd = some c' ∧ (∀ k, k ≠ 6 → k ≠ 7 → c' k = c k) ∧ (c' 6) 0 2 = 0 ∧ (c' 7) 0 2 = 0 := by
  refine ⟨mk_set3 (mk_set3 c 6 (mk_put (c 6) 0 2 0)) 7 (mk_put (c 7) 0 2 0), ?_, fun k h1 h2 => by unfold mk_set3; rw [if_neg h2, if_neg h1], rfl, rfl⟩
  unfold f_X6_forgetKept
  rw [show lq2 (g_X6_forgetKept_2 NN sd) NN c 0 = g_X6_forgetKept_2 NN sd (lq2 (g_X6_forgetKept_2 NN sd) 999) c (nI 0) from rfl]
  have s0 : ∀ rec, g_X6_forgetKept_2 NN sd rec c (nI 0) = rec (mk_set3 c 6 (mk_put (c 6) 0 2 0)) (nI 1) := by
    intro rec
    unfold g_X6_forgetKept_2 mk_nm
    rw [if_neg (by decide), slot_t (by decide), Option.bind_some, if_pos (by rfl), nI_1]
  have s1 : ∀ rec (c : CU), g_X6_forgetKept_2 NN sd rec c (nI 1) = rec (mk_set3 c 7 (mk_put (c 7) 0 2 0)) (nI 2) := by
    intro rec c
    unfold g_X6_forgetKept_2 mk_nm
    rw [if_neg (by decide), slot_t (by decide), Option.bind_some, if_neg (by decide), if_pos (by rfl), nI_1]
  have s2 : ∀ rec (c : CU), g_X6_forgetKept_2 NN sd rec c (nI 2) = some c := by
    intro rec c
    unfold g_X6_forgetKept_2
    rw [if_pos (by decide)]
  rw [s0]
  rw [show lq2 (g_X6_forgetKept_2 NN sd) 999 (mk_set3 c 6 (mk_put (c 6) 0 2 0)) (nI 1) = g_X6_forgetKept_2 NN sd (lq2 (g_X6_forgetKept_2 NN sd) 998) (mk_set3 c 6 (mk_put (c 6) 0 2 0)) (nI 1) from rfl, s1]
  rw [show ∀ d : CU, lq2 (g_X6_forgetKept_2 NN sd) 998 d (nI 2) = g_X6_forgetKept_2 NN sd (lq2 (g_X6_forgetKept_2 NN sd) 997) d (nI 2) from fun _ => rfl, s2]
  rfl
theorem rk_copy (hN : 700 ≤ N) : ∃ w, lq2 (g_X7_town_38 N sd) N u 0 = some (10 * (u 0 0) + u 0 1, w) ∧ (∀ k, k ≠ 0 → k ≠ 1 → k ≠ 2 → k ≠ 3 → k ≠ 4 → k ≠ 5 → k ≠ 11 → k ≠ 18 → w k = u k) ∧ (∀ j, j ≠ 9 → w 0 j = u 0 j) ∧ w 0 9 = 0 ∧ (∀ j, j < 20 → w 1 j = u 6 j) ∧ (∀ j, j < 4 → w 2 j = u 7 j ∧ w 3 j = u 8 j) ∧ (∀ j, j < 3 → w 4 j = u 9 j ∧ w 5 j = u 10 j) ∧ nowR w A0 ∧ w 18 0 = 0 ∧ w 18 1 = 0 := by
  have third : ∀ u : TU, ∃ w, lq2 (g_X7_town_101 N sd) N u 0 = some (10 * (u 0 0) + u 0 1, w) ∧ (∀ k, k ≠ 0 → k ≠ 4 → k ≠ 5 → k ≠ 11 → k ≠ 18 → w k = u k) ∧ (∀ j, j ≠ 9 → w 0 j = u 0 j) ∧ w 0 9 = 0 ∧ (∀ j, j < 3 → w 4 j = u 9 j ∧ w 5 j = u 10 j) ∧ nowR w A0 ∧ w 18 0 = 0 ∧ w 18 1 = 0 := by
    intro u
    obtain ⟨w, ⟨q1, q2⟩, h2⟩ := lq2_inv (b := g_X7_town_101 N sd) 0 3 N (fun i (w : TU) => (∀ k, k ≠ 4 → k ≠ 5 → w k = u k) ∧ ∀ j, j < i → w 4 j = u 9 j ∧ w 5 j = u 10 j) (fun w => (f_X7_clear N w sd).bind fun r_1 => mk_nm (mk_put r_1 0 9 (0 : Int32)) fun w_2 => (mk_ix 2 (0 : Int32)).bind fun _ => mk_nm (mk_put w_2 18 ((0 : Int32).toNatClampNeg) (0 : Int32)) fun w_3 => (mk_ix 2 (1 : Int32)).bind fun _ => mk_nm (mk_put w_3 18 ((1 : Int32).toNatClampNeg) (0 : Int32)) fun w_4 => some ((((10 : Int32) * (w_4 0 0)) + (w_4 0 1)), w_4)) (fun rec w _ => by
      unfold g_X7_town_101
      rw [if_pos (by decide)]) (fun rec w i _ hi ⟨q1, q2⟩ => by
      refine ⟨mk_put (mk_put w 4 i (u 9 i)) 5 i (u 10 i), ⟨fun k h1 h2 => by unfold mk_put; rw [if_neg h2, if_neg h1]; exact q1 k h1 h2, fun j hj => ?_⟩, ?_⟩
      · show upd (w 4) i (u 9 i) j = _ ∧ upd (w 5) i (u 10 i) j = _
        by_cases e : j = i
        · subst e; rw [upd_s, upd_s]; exact ⟨rfl, rfl⟩
        · rw [upd_n _ e, upd_n _ e]; exact q2 j (by omega)
      · unfold g_X7_town_101 mk_nm
        dsimp only
        rw [show (3 : Int32) = nI 3 from rfl, if_neg (nI_ge hi (by decide)), px_rd hi (by decide), Option.bind_some, px_ix hi (by decide), Option.bind_some, nI_clamp (by omega), q1 9 (by decide) (by decide), px_rd hi (by decide), Option.bind_some, Option.bind_some, show (mk_put w 4 i (u 9 i)) 10 = u 10 from q1 10 (by decide) (by decide), nI_1]) u ⟨fun _ _ _ => rfl, fun j hj => absurd hj (by omega)⟩ (by omega) (by omega)
    obtain ⟨w', c1, c2, c3⟩ := rf_clear (u := w) (sd := sd) (N := N) hN
    refine ⟨mk_put (mk_put (mk_put w' 0 9 0) 18 0 0) 18 1 0, ?_, fun k h0 h4 h5 h11 h18 => ?_, fun j hj => ?_, rfl, fun j hj => ?_, c3, rfl, rfl⟩
    · refine h2.trans ?_
      rw [c1, Option.bind_some]
      unfold mk_nm
      dsimp only
      rw [show mk_ix 2 0 = some () by decide, show mk_ix 2 1 = some () by decide, Option.bind_some, Option.bind_some, show ((0 : Int32).toNatClampNeg) = 0 from rfl, show ((1 : Int32).toNatClampNeg) = 1 from rfl, show (mk_put (mk_put (mk_put w' 0 9 0) 18 0 0) 18 1 0) 0 0 = u 0 0 by show w' 0 0 = _; rw [c2 0 (by decide), q1 0 (by decide) (by decide)], show (mk_put (mk_put (mk_put w' 0 9 0) 18 0 0) 18 1 0) 0 1 = u 0 1 by show w' 0 1 = _; rw [c2 0 (by decide), q1 0 (by decide) (by decide)]]
    · unfold mk_put
      rw [if_neg h18, if_neg h18, if_neg h0, c2 k h11, q1 k h4 h5]
    · show upd (w' 0) 9 0 j = _
      rw [upd_n _ hj, c2 0 (by decide), q1 0 (by decide) (by decide)]
    · show w' 4 j = _ ∧ w' 5 j = _
      rw [c2 4 (by decide), c2 5 (by decide)]; exact q2 j hj
  have second : ∀ u : TU, ∃ w, lq2 (g_X7_town_64 N sd) N u 0 = some (10 * (u 0 0) + u 0 1, w) ∧ (∀ k, k ≠ 0 → k ≠ 2 → k ≠ 3 → k ≠ 4 → k ≠ 5 → k ≠ 11 → k ≠ 18 → w k = u k) ∧ (∀ j, j ≠ 9 → w 0 j = u 0 j) ∧ w 0 9 = 0 ∧ (∀ j, j < 4 → w 2 j = u 7 j ∧ w 3 j = u 8 j) ∧ (∀ j, j < 3 → w 4 j = u 9 j ∧ w 5 j = u 10 j) ∧ nowR w A0 ∧ w 18 0 = 0 ∧ w 18 1 = 0 := by
    intro u
    obtain ⟨w, ⟨q1, q2⟩, h2⟩ := lq2_inv (b := g_X7_town_64 N sd) 0 4 N (fun i (w : TU) => (∀ k, k ≠ 2 → k ≠ 3 → w k = u k) ∧ ∀ j, j < i → w 2 j = u 7 j ∧ w 3 j = u 8 j) (fun w => lq2 (g_X7_town_101 N sd) N w 0) (fun rec w _ => by
      unfold g_X7_town_64
      rw [if_pos (by decide)]) (fun rec w i _ hi ⟨q1, q2⟩ => by
      refine ⟨mk_put (mk_put w 2 i (u 7 i)) 3 i (u 8 i), ⟨fun k h1 h2 => by unfold mk_put; rw [if_neg h2, if_neg h1]; exact q1 k h1 h2, fun j hj => ?_⟩, ?_⟩
      · show upd (w 2) i (u 7 i) j = _ ∧ upd (w 3) i (u 8 i) j = _
        by_cases e : j = i
        · subst e; rw [upd_s, upd_s]; exact ⟨rfl, rfl⟩
        · rw [upd_n _ e, upd_n _ e]; exact q2 j (by omega)
      · unfold g_X7_town_64 mk_nm
        dsimp only
        rw [show (4 : Int32) = nI 4 from rfl, if_neg (nI_ge hi (by decide)), px_rd hi (by decide), Option.bind_some, px_ix hi (by decide), Option.bind_some, nI_clamp (by omega), q1 7 (by decide) (by decide), px_rd hi (by decide), Option.bind_some, Option.bind_some, show (mk_put w 2 i (u 7 i)) 8 = u 8 from q1 8 (by decide) (by decide), nI_1]) u ⟨fun _ _ _ => rfl, fun j hj => absurd hj (by omega)⟩ (by omega) (by omega)
    obtain ⟨w', a1, a2, a3, a4, a5, a6, a7, a8⟩ := third w
    have z := q1 0 (by decide) (by decide)
    rw [z] at a1 a3
    refine ⟨w', h2.trans a1, fun k h0 h2 h3 h4 h5 h11 h18 => (a2 k h0 h4 h5 h11 h18).trans (q1 k h2 h3), a3, a4, fun j hj => ?_, fun j hj => ?_, a6, a7, a8⟩
    · rw [a2 2 (by decide) (by decide) (by decide) (by decide) (by decide), a2 3 (by decide) (by decide) (by decide) (by decide) (by decide)]; exact q2 j hj
    · have := a5 j hj
      rw [q1 9 (by decide) (by decide), q1 10 (by decide) (by decide)] at this
      exact this
  obtain ⟨w, ⟨q1, q2⟩, h2⟩ := lq2_inv (b := g_X7_town_38 N sd) 0 20 N (fun i (w : TU) => (∀ k, k ≠ 1 → w k = u k) ∧ ∀ j, j < i → w 1 j = u 6 j) (fun w => lq2 (g_X7_town_64 N sd) N w 0) (fun rec w _ => by
    unfold g_X7_town_38
    rw [if_pos (by decide)]) (fun rec w i _ hi ⟨q1, q2⟩ => by
    refine ⟨mk_put w 1 i (u 6 i), ⟨fun k h1 => by unfold mk_put; rw [if_neg h1]; exact q1 k h1, fun j hj => ?_⟩, ?_⟩
    · show upd (w 1) i (u 6 i) j = _
      by_cases e : j = i
      · subst e; rw [upd_s]
      · rw [upd_n _ e]; exact q2 j (by omega)
    · unfold g_X7_town_38 mk_nm
      dsimp only
      rw [show (20 : Int32) = nI 20 from rfl, if_neg (nI_ge hi (by decide)), px_rd hi (by decide), Option.bind_some, px_ix hi (by decide), Option.bind_some, nI_clamp (by omega), q1 6 (by decide), nI_1]) u ⟨fun _ _ => rfl, fun j hj => absurd hj (by omega)⟩ (by omega) (by omega)
  obtain ⟨w', a1, a2, a3, a4, a5, a6, a7, a8, a9⟩ := second w
  have z := q1 0 (by decide)
  rw [z] at a1 a3
  refine ⟨w', h2.trans a1, fun k h0 h1 h2 h3 h4 h5 h11 h18 => (a2 k h0 h2 h3 h4 h5 h11 h18).trans (q1 k h1), a3, a4, fun j hj => ?_, fun j hj => ?_, fun j hj => ?_, a7, a8, a9⟩
  · rw [a2 1 (by decide) (by decide) (by decide) (by decide) (by decide) (by decide) (by decide)]; exact q2 j hj
  · have := a5 j hj
    rw [q1 7 (by decide), q1 8 (by decide)] at this
    exact this
  · have := a6 j hj
    rw [q1 9 (by decide), q1 10 (by decide)] at this
    exact this
end TOWNS
