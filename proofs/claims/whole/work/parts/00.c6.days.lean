/-! steps: sell, day, undo -/
theorem ck_ended {T : NT} {A : Nat → Int32} {c0 : CU} {sd : Int64} (hT : wfT T) (hC : CT (c0 2) T) (hL : lifeR (c0 4) A) {d i : Nat} (hd : d ≤ 9) (ed : A 0 = nI d) (hi : i < T 0 0) : f_X6_hasEnded NN c0 sd (nI i) = some (if d < tE T i then 0 else 1) := by
  have h9 := tE_9 hT hi
  unfold f_X6_hasEnded
  rw [ct_trueEnd hT hC.1 hi, hL.1, ed]
  simp only [Option.bind_some]
  by_cases h : d < tE T i
  · rw [if_pos (nI_lt h (by omega)), if_pos h]
  · rw [if_neg (nI_nlt (by omega) (by omega)), if_neg h]
theorem st_sell (c0 : CU) (sd : Int64) (u0 : TU) (se : Int64) (p0 : Int32) (hR : Rel c0 sd u0 se) : ∃ (r : Int32) (c1 : CU) (mu1 : TU), f_X6_sell NN c0 sd p0 = some (r, c1) ∧ f_X7_sell NN u0 se p0 = some (r, mu1) ∧ Rel c1 sd mu1 se := by
  obtain ⟨e0, T, A, hT, hC, hM, hA, hL, hW, hTx, hAc, h6, h7, hSe⟩ := id hR
  have h4 := hT.1
  rcases ix2 p0 h4 with hb | ⟨i, hi, rfl⟩
  · refine ⟨-1, c0, u0, ?_, ?_, hR⟩
    · unfold f_X6_sell; rw [ct_thing_f hC.1 hb]; rfl
    · unfold f_X7_sell; rw [rf_thing_f hT hM hb]; rfl
  obtain ⟨d, hd, ed⟩ := hA.1
  have h9 := tE_9 hT hi
  obtain ⟨-, -, -, a4⟩ := hC.1.2.2.2.2.1 i hi
  obtain ⟨-, -, -, b4, -⟩ := hM.2.2.2.1 i hi
  by_cases g3 : A (2 + i) = -9
  · obtain ⟨g, hg⟩ : ∃ g : Int32, g = if d < tE T i then nI (T 4 i) else 0 := ⟨_, rfl⟩
    obtain ⟨v', u', q1, q2, q3, q4, q5⟩ := acts_push (se := se) hA hW hAc 2 (nI i) g
    have u11 : u' 11 = u0 11 := q3 11 (by decide) (by decide)
    have hM1 : ∀ (u'' : TU), (∀ k, k ≠ 11 → u'' k = u' k) → RT u'' T := fun u'' hk => RT_of (u := u0) (fun j hj => by rw [hk 0 (by decide)]; exact q4 j (by omega) (by omega)) (fun k h1 h2 => by rw [hk k (by omega)]; exact q3 k (by omega) (by omega)) hM
    have p11 : ∀ (w : TU) (j : Nat) (x : Int32), ∀ k, k ≠ 11 → mk_put w 11 j x k = w k := fun w j x k hk => by unfold mk_put; rw [if_neg hk]
    have w5 : RT (mk_put u' 11 (2 + i) (A 0)) T := hM1 _ (p11 _ _ _)
    have ref : f_X7_sell NN u0 se (nI i) = some (g, mk_put (mk_put u' 11 (2 + i) (A 0)) 11 1 (A 1 + g)) := by
      have e72 : ∀ t : Int32, g_X7_sell_72 NN (mk_put u' 11 (2 + i) (A 0)) se t = some (t, mk_put (mk_put u' 11 (2 + i) (A 0)) 11 1 (A 1 + t)) := by
        intro t
        unfold g_X7_sell_72 mk_nm
        rw [px_rd1 (by decide) (by decide), show mk_put u' 11 (2 + i) (A 0) 11 1 = A 1 by show upd (u' 11) (2 + i) (A 0) 1 = _; rw [upd_n _ (by omega), u11]; exact hW 1 (by decide), show mk_ix 10 1 = some () by decide]
        rfl
      unfold f_X7_sell mk_nm
      rw [rf_thing_t hT hM hi, show (2 : Int32) = nI 2 from rfl, nI_add, px_rd (by omega) (by decide), hW (2 + i) (by omega), q2, px_ix (by omega) (by decide), nI_clamp (by omega)]
      simp only [Option.bind_some]
      rw [if_neg (show ¬ (1 : Int32) = 0 by decide), if_pos g3, px_rd0 (show 0 < 10 by decide) (show 10 < 2 ^ 31 by decide), u11, hW 0 (show 0 < 10 by decide)]
      rw [Option.bind_some]
      rw [rf_trueEnd hT w5 hi, px_rd0 (by decide) (by decide), show mk_put u' 11 (2 + i) (A 0) 11 0 = A 0 by show upd (u' 11) (2 + i) (A 0) 0 = _; rw [upd_n _ (by omega), u11]; exact hW 0 (by decide)]
      simp only [Option.bind_some]
      rw [show (3 : Int32) = nI 3 from rfl, px_5, px_rd (by omega) (by decide), (w5.2.2.2.1 i hi).2.2.2.1]
      simp only [Option.bind_some]
      rw [e72, e72]
      by_cases h : d < tE T i
      · rw [if_neg (by rw [ed]; exact nI_ge h (by omega)), hg, if_pos h]
      · rw [if_pos (by rw [ed]; exact nI_le (by omega) (by omega)), hg, if_neg h]
    have cls : f_X6_sell NN c0 sd (nI i) = some (g, mk_set3 (mk_set3 (mk_set3 c0 4 (mk_put (c0 4) 2 i (A 0))) 4 (mk_put (mk_put (c0 4) 2 i (A 0)) 0 1 (A 1 + g))) 5 v') := by
      have e51 : ∀ t : Int32, t = g → g_X6_sell_51 NN c0 sd (nI i) t = some (g, mk_set3 (mk_set3 (mk_set3 c0 4 (mk_put (c0 4) 2 i (A 0))) 4 (mk_put (mk_put (c0 4) 2 i (A 0)) 0 1 (A 1 + g))) 5 v') := by
        intro t htg
        subst htg
        unfold g_X6_sell_51 mk_nm
        rw [px_ix (by omega) (by decide), nI_clamp (by omega), hL.1]
        simp only [Option.bind_some]
        rw [show mk_set3 c0 4 (mk_put (c0 4) 2 i (A 0)) 4 = mk_put (c0 4) 2 i (A 0) from rfl, show mk_put (c0 4) 2 i (A 0) 0 1 = A 1 from hL.2.1]
        rw [show mk_set3 (mk_set3 c0 4 (mk_put (c0 4) 2 i (A 0))) 4 (mk_put (mk_put (c0 4) 2 i (A 0)) 0 1 (A 1 + t)) 5 = c0 5 from rfl, q1]
        rfl
      unfold f_X6_sell
      rw [ct_thing_t hT hC.1 hi, px_rd (by omega) (by decide), hL.2.2.2 i (by omega), ck_ended hT hC hL hd ed hi, px_rd (by omega) (by decide), a4]
      simp only [Option.bind_some]
      rw [if_neg (by decide), if_pos g3]
      by_cases h : d < tE T i
      · rw [if_pos h, if_pos rfl]; exact e51 _ (by rw [hg, if_pos h])
      · rw [if_neg h, if_neg (by decide)]; exact e51 _ (by rw [hg, if_neg h])
    have fin11 : ∀ k, k ≠ 11 → mk_put (mk_put u' 11 (2 + i) (A 0)) 11 1 (A 1 + g) k = u' k := fun k hk => by rw [p11 _ _ _ k hk, p11 _ _ _ k hk]
    have cell : ∀ k, k ≠ 0 → k ≠ 11 → k ≠ 13 → mk_put (mk_put u' 11 (2 + i) (A 0)) 11 1 (A 1 + g) k = u0 k := fun k h1 h2 h3 => (fin11 k h2).trans (q3 k h1 h3)
    have c0z : ∀ j, j ≠ 9 → j ≠ 10 → mk_put (mk_put u' 11 (2 + i) (A 0)) 11 1 (A 1 + g) 0 j = u0 0 j := fun j h1 h2 => q4 j h1 h2
    refine ⟨g, _, _, cls, ref, e0, T, sA (sA A (2 + i) (A 0)) 1 (A 1 + g), hT, hC, hM1 _ fin11, ?_, ?_, ?_, Text_of (c0z 6 (by decide) (by decide)) (cell 12 (by decide) (by decide) (by decide)) hTx, ?_, Slot_of (by rw [cell 18 (by decide) (by decide) (by decide)]) (fun j _ => by rw [cell 19 (by decide) (by decide) (by decide)]) h6, Slot_of (by rw [cell 18 (by decide) (by decide) (by decide)]) (fun j _ => by rw [cell 19 (by decide) (by decide) (by decide)]) h7, Seen_of (c0z 12 (by decide) (by decide)) (cell 15 (by decide) (by decide) (by decide)) (cell 16 (by decide) (by decide) (by decide)) hSe⟩
    · refine ⟨⟨d, hd, by unfold sA; rw [if_neg (by omega), if_neg (by omega)]; exact ed⟩, fun j hj => ?_, fun b hb => ?_⟩
      · unfold sA
        rw [if_neg (by omega)]
        by_cases hji : 2 + j = 2 + i
        · rw [if_pos hji]; exact Or.inr ⟨d, hd, ed⟩
        · rw [if_neg hji]; exact hA.2.1 j hj
      · unfold sA; rw [if_neg (by omega), if_neg (by omega)]; exact hA.2.2 b hb
    · refine ⟨?_, ?_, fun b hb => ?_, fun j hj => ?_⟩
      · unfold sA; rw [if_neg (by omega), if_neg (by omega)]; exact hL.1
      · unfold sA; rw [if_pos rfl]; rfl
      · unfold sA; rw [if_neg (by omega), if_neg (by omega)]; exact hL.2.2.1 b hb
      · show upd (c0 4 2) i (A 0) j = _
        unfold sA
        rw [if_neg (by omega)]
        by_cases hji : j = i
        · subst hji; rw [upd_s, if_pos rfl]
        · rw [upd_n _ hji, if_neg (by omega)]; exact hL.2.2.2 j hj
    · intro j hj
      show upd (upd (u' 11) (2 + i) (A 0)) 1 (A 1 + g) j = _
      unfold sA
      by_cases hj1 : j = 1
      · subst hj1; rw [upd_s, if_pos rfl]
      · rw [upd_n _ hj1, if_neg hj1]
        by_cases hji : j = 2 + i
        · subst hji; rw [upd_s, if_pos rfl]
        · rw [upd_n _ hji, if_neg hji, u11]; exact hW j hj
    · refine q5 _ _ ⟨?_, Or.inr (Or.inl ⟨rfl, i, by omega, rfl, ?_, g3, fun j h1 h2 h3 => ?_⟩)⟩ rfl rfl (fin11 13 (by decide))
      · unfold sA; rw [if_pos rfl, i_as]
      · unfold sA; rw [if_neg (by omega), if_neg (by omega)]
      · unfold sA; rw [if_neg (by omega), if_neg h3]
  · refine ⟨-3, c0, u0, ?_, ?_, hR⟩
    · unfold f_X6_sell
      rw [ct_thing_t hT hC.1 hi, px_rd (by omega) (by decide), hL.2.2.2 i (by omega)]
      simp only [Option.bind_some]
      rw [if_neg (by decide), if_neg g3]
    · unfold f_X7_sell
      rw [rf_thing_t hT hM hi, show (2 : Int32) = nI 2 from rfl, nI_add, px_rd (by omega) (by decide), hW (2 + i) (by omega)]
      simp only [Option.bind_some]
      rw [if_neg (by decide), if_neg g3]
