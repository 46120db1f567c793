/-! steps: acts -/
theorem add_low {v : TU} (k w g : Int32) {s : Nat} (hs : s < 16) (e : v 0 0 = nI s) : ∃ v', g_X0_add_13 NN v k w g = some v' ∧ v' 0 0 = nI (s + 1) ∧ v' 1 = upd (v 1) s k ∧ v' 2 = upd (v 2) s w ∧ v' 3 = upd (v 3) s g := by
  unfold g_X0_add_13 mk_nm
  rw [e, px_ix hs (by decide), nI_clamp (by omega)]
  simp only [Option.bind_some]
  rw [show mk_put v 1 s k 0 0 = nI s from e, px_ix hs (by decide), nI_clamp (by omega)]
  simp only [Option.bind_some]
  rw [show mk_put (mk_put v 1 s k) 2 s w 0 0 = nI s from e, px_ix hs (by decide), nI_clamp (by omega)]
  simp only [Option.bind_some]
  rw [show mk_put (mk_put (mk_put v 1 s k) 2 s w) 3 s g 0 0 = nI s from e, nI_1]
  exact ⟨_, rfl, rfl, rfl, rfl, rfl⟩
theorem cpy15 {f g : Nat → Int32} {j : Nat} (h : j < 15) : va_cpy f g ((1 : Int32).toNatClampNeg) ((0 : Int32).toNatClampNeg) ((nI 15).toNatClampNeg) j = f (1 + j) := by
  rw [show ((1 : Int32).toNatClampNeg) = 1 from rfl, show ((0 : Int32).toNatClampNeg) = 0 from rfl, nI_clamp (by decide), pk_cpy_in (Nat.zero_le _) (by omega), Nat.sub_zero]
theorem forget_sp (v : TU) : ∃ v', f_X0_forgetFirst NN v = some v' ∧ v' 0 0 = nI 15 ∧ (∀ j, j < 15 → v' 1 j = v 1 (1 + j)) ∧ (∀ j, j < 15 → v' 2 j = v 2 (1 + j)) ∧ (∀ j, j < 15 → v' 3 j = v 3 (1 + j)) := by
  unfold f_X0_forgetFirst mk_nm
  dsimp only
  rw [show mk_put v 0 0 15 0 0 = nI 15 from rfl, show mk_cp 16 16 1 0 (nI 15) = some () by decide]
  simp only [Option.bind_some]
  rw [show ∀ f, mk_cell (mk_put v 0 0 15) 1 f 0 0 = nI 15 from fun _ => rfl, show mk_cp 16 16 1 0 (nI 15) = some () by decide]
  simp only [Option.bind_some]
  rw [show ∀ f g, mk_cell (mk_cell (mk_put v 0 0 15) 1 f) 2 g 0 0 = nI 15 from fun _ _ => rfl, show mk_cp 16 16 1 0 (nI 15) = some () by decide]
  simp only [Option.bind_some]
  exact ⟨_, rfl, rfl, fun j hj => cpy15 hj, fun j hj => cpy15 hj, fun j hj => cpy15 hj⟩
/-- the class's row of acts, one more at its end -/
theorem add_sp {v : TU} (k w g : Int32) {s : Nat} (hs : s ≤ 16) (e : v 0 0 = nI s) : ∃ v' s', f_X0_add NN v k w g = some v' ∧ s' ≤ 16 ∧ s' = (if s < 16 then s + 1 else 16) ∧ v' 0 0 = nI s' ∧ (v' 1 (s' - 1) = k ∧ v' 2 (s' - 1) = w ∧ v' 3 (s' - 1) = g) ∧ ∀ j, j + 1 < s' → v' 1 (s' - 1 - (j + 1)) = v 1 (s - 1 - j) ∧ v' 2 (s' - 1 - (j + 1)) = v 2 (s - 1 - j) ∧ v' 3 (s' - 1 - (j + 1)) = v 3 (s - 1 - j) := by
  unfold f_X0_add
  by_cases h : s < 16
  · obtain ⟨v', a1, a2, a3, a4, a5⟩ := add_low (v := v) k w g h e
    refine ⟨v', s + 1, ?_, by omega, by rw [if_pos h], a2, ?_, fun j hj => ?_⟩
    · rw [e, show (16 : Int32) = nI 16 from rfl, if_pos (nI_lt h (by decide)), a1]
    · rw [a3, a4, a5, Nat.add_sub_cancel, upd_s, upd_s, upd_s]; exact ⟨rfl, rfl, rfl⟩
    · rw [a3, a4, a5, show s + 1 - 1 - (j + 1) = s - 1 - j by omega, upd_n _ (by omega), upd_n _ (by omega), upd_n _ (by omega)]; exact ⟨rfl, rfl, rfl⟩
  · have : s = 16 := by omega
    subst this
    obtain ⟨v1, f1, f2, f3, f4, f5⟩ := forget_sp v
    obtain ⟨v', a1, a2, a3, a4, a5⟩ := add_low (v := v1) k w g (s := 15) (by decide) f2
    refine ⟨v', 16, ?_, by omega, by rw [if_neg h], a2, ?_, fun j hj => ?_⟩
    · rw [e, if_neg (by decide), f1]; exact a1
    · rw [a3, a4, a5]; exact ⟨upd_s _ _ _, upd_s _ _ _, upd_s _ _ _⟩
    · rw [a3, a4, a5, upd_n _ (by omega), upd_n _ (by omega), upd_n _ (by omega), f3 _ (by omega), f4 _ (by omega), f5 _ (by omega), show 1 + (16 - 1 - (j + 1)) = 16 - 1 - j by omega]; exact ⟨rfl, rfl, rfl⟩
theorem rk_act {u : TU} {se : Int64} {s x : Nat} (hs : s ≤ 16) (hx : x < 16) (e9 : u 0 9 = nI s) (e10 : u 0 10 = nI x) : ∃ u', f_X7_keepAct NN u se = some u' ∧ u' 0 9 = nI (if s < 16 then s + 1 else 16) ∧ u' 0 10 = nI ((x + 1) % 16) ∧ (∀ k, k ≠ 0 → k ≠ 13 → u' k = u k) ∧ (∀ j, j ≠ 9 → j ≠ 10 → u' 0 j = u 0 j) ∧ (∀ k, k < 10 → u' 13 (10 * x + k) = u 11 k) ∧ (∀ y, y < 16 → y ≠ x → ∀ k, k < 10 → u' 13 (10 * y + k) = u 13 (10 * y + k)) := by
  have hNN : NN = 1000 := rfl
  obtain ⟨F, hF0, hF⟩ : ∃ F : Nat → TU, F 0 = u ∧ ∀ i, F (i + 1) = mk_put (F i) 13 (10 * x + i) (u 11 i) := by
    refine ⟨fun i => Nat.rec u (fun i w => mk_put w 13 (10 * x + i) (u 11 i)) i, rfl, fun i => rfl⟩
  have h1 : ∀ i, ∀ k, k ≠ 13 → F i k = u k := by
    intro i
    induction i with
    | zero => intro k _; rw [hF0]
    | succ i ih => intro k hk; rw [hF]; unfold mk_put; rw [if_neg hk]; exact ih k hk
  have h2 : ∀ i j, F i 13 j = if 10 * x ≤ j ∧ j < 10 * x + i then u 11 (j - 10 * x) else u 13 j := by
    intro i
    induction i with
    | zero => intro j; rw [hF0, if_neg (by omega)]
    | succ i ih =>
      intro j
      rw [hF]
      show upd (F i 13) (10 * x + i) (u 11 i) j = _
      by_cases hj : j = 10 * x + i
      · subst hj; rw [upd_s, if_pos (by omega), Nat.add_sub_cancel_left]
      · rw [upd_n _ hj, ih j]
        by_cases hc : 10 * x ≤ j ∧ j < 10 * x + i
        · rw [if_pos hc, if_pos (by omega)]
        · rw [if_neg hc, if_neg (by omega)]
  have z := h1 10 0 (by decide)
  have e16 : nI (x + 1) - nI (x + 1) / (16 : Int32) * 16 = nI ((x + 1) % 16) := by
    rw [show (16 : Int32) = nI 16 from rfl]; exact pk_rem (by omega) (by decide) (by decide)
  refine ⟨mk_put (mk_put (F 10) 0 10 (nI ((x + 1) % 16))) 0 9 (nI (if s < 16 then s + 1 else 16)), ?_, rfl, rfl, fun k hk0 hk => ?_, fun j hj9 hj10 => ?_, fun k hk => ?_, fun y hy hyx k hk => ?_⟩
  · unfold f_X7_keepAct
    rw [show lq2 (g_X7_keepAct_2 NN se) NN u 0 = lq2 (g_X7_keepAct_2 NN se) NN (F 0) (nI 0) by rw [hF0]; rfl]
    refine lq2_for 0 10 NN F _ (fun rec => ?_) (fun rec i _ hi => ?_) (by omega) (by omega)
    · unfold g_X7_keepAct_2 mk_nm
      rw [show nI 10 = (10 : Int32) from rfl, if_pos (Int32.le_refl _), show F 10 0 10 = nI x by rw [z]; exact e10, nI_1, e16]
      show (if 16 ≤ mk_put (F 10) 0 10 (nI ((x + 1) % 16)) 0 9 then _ else _) = _
      rw [show mk_put (F 10) 0 10 (nI ((x + 1) % 16)) 0 9 = nI s by show F 10 0 9 = _; rw [z]; exact e9]
      by_cases h : s < 16
      · rw [show (16 : Int32) = nI 16 from rfl, if_neg (nI_ge h (by decide)), nI_1, if_pos h]
      · have : s = 16 := by omega
        subst this
        rw [if_pos (by decide), if_neg h]; rfl
    · unfold g_X7_keepAct_2 mk_nm
      rw [show (10 : Int32) = nI 10 from rfl, if_neg (nI_ge hi (by decide)), px_rd hi (by decide), show F i 0 10 = nI x by rw [h1 i 0 (by decide)]; exact e10, pk_mul, nI_add, px_ix (by omega) (by decide), nI_clamp (by omega), nI_1, h1 i 11 (by decide)]
      simp only [Option.bind_some]
      rw [hF]
  · unfold mk_put; rw [if_neg hk0, if_neg hk0]; exact h1 10 k hk
  · show upd (upd (F 10 0) 10 _) 9 _ j = _
    rw [upd_n _ hj9, upd_n _ hj10, z]
  · show F 10 13 (10 * x + k) = _
    rw [h2, if_pos (by omega), Nat.add_sub_cancel_left]
  · show F 10 13 (10 * y + k) = _
    rw [h2, if_neg (by omega)]
theorem undoes_c {k w g : Int32} {A A' B : Nat → Int32} (h : ∀ j, j < 10 → A' j = A j) (hU : undoes k w g A B) : undoes k w g A' B := by
  obtain ⟨h1, h2⟩ := hU
  refine ⟨by rw [h 1 (by decide)]; exact h1, ?_⟩
  rcases h2 with ⟨a, b, c⟩ | ⟨a, i, hi, b, c, d, e⟩ | ⟨a, i, hi, b, c, d, e⟩
  · exact Or.inl ⟨a, by rw [h 0 (by decide)]; exact b, fun j h1 h2 => (c j h1 h2).trans (h j h2).symm⟩
  · exact Or.inr (Or.inl ⟨a, i, hi, b, by rw [h 0 (by decide)]; exact c, d, fun j h1 h2 h3 => (e j h1 h2 h3).trans (h j h2).symm⟩)
  · exact Or.inr (Or.inr ⟨a, i, hi, b, by rw [h 0 (by decide)]; exact c, d, fun j h1 h2 h3 => (e j h1 h2 h3).trans (h j h2).symm⟩)
/-- one more act on both sides -/
theorem acts_push {T : NT} {v u : TU} {se : Int64} {A : Nat → Int32} (hA : wfA T A) (hW : nowR u A) (hAc : ActsR T v u A) (k w g : Int32) : ∃ v' u', f_X0_add NN v k w g = some v' ∧ f_X7_keepAct NN u se = some u' ∧ (∀ k, k ≠ 0 → k ≠ 13 → u' k = u k) ∧ (∀ j, j ≠ 9 → j ≠ 10 → u' 0 j = u 0 j) ∧ ∀ (A' : Nat → Int32) (u'' : TU), undoes k w g A' A → u'' 0 9 = u' 0 9 → u'' 0 10 = u' 0 10 → u'' 13 = u' 13 → ActsR T v' u'' A' := by
  obtain ⟨s, x, hs, hx, e1, e9, e10, S, hS0, hS⟩ := hAc
  obtain ⟨v', s', a1, a2, a3, a4, a5, a6⟩ := add_sp (v := v) k w g hs e1
  obtain ⟨u', b1, b2, b3, b4, b5, b6, b7⟩ := rk_act (se := se) hs hx e9 e10
  refine ⟨v', u', a1, b1, b4, b5, fun A' u'' hU c9 c10 c13 => ?_⟩
  have hs' : s' ≤ s + 1 := by rw [a3]; split <;> omega
  refine ⟨s', (x + 1) % 16, a2, Nat.mod_lt _ (by decide), a4, by rw [c9, b2, a3], by rw [c10, b3], fun j => if j = 0 then A' else if j = 1 then A else S (j - 1), fun j _ => by simp, fun j hj => ?_⟩
  rw [c13]
  by_cases h0 : j = 0
  · subst h0
    refine ⟨?_, fun q hq => ?_, ?_⟩
    · simpa using hA
    · rw [show ((x + 1) % 16 + 15 - 0) % 16 = x by omega, b6 q hq]; simpa using hW q hq
    · rw [show s' - 1 - 0 = s' - 1 by omega, a5.1, a5.2.1, a5.2.2]; simpa using hU
  · obtain ⟨i, rfl⟩ : ∃ i, j = i + 1 := ⟨j - 1, by omega⟩
    obtain ⟨p1, p2, p3⟩ := hS i (by omega)
    obtain ⟨q1, q2, q3⟩ := a6 i hj
    refine ⟨?_, fun q hq => ?_, ?_⟩
    · simp only [show ¬ i + 1 + 1 = 0 by omega, show ¬ i + 1 + 1 = 1 by omega, if_false, Nat.add_sub_cancel]; exact p1
    · simp only [show ¬ i + 1 + 1 = 0 by omega, show ¬ i + 1 + 1 = 1 by omega, if_false, Nat.add_sub_cancel]
      rw [show ((x + 1) % 16 + 15 - (i + 1)) % 16 = (x + 15 - i) % 16 by omega, b7 _ (Nat.mod_lt _ (by decide)) (by omega) q hq]
      exact p2 q hq
    · rw [q1, q2, q3]
      simp only [show ¬ i + 1 + 1 = 0 by omega, show ¬ i + 1 + 1 = 1 by omega, show ¬ i + 1 = 0 by omega, if_false, Nat.add_sub_cancel]
      by_cases hi : i = 0
      · subst hi
        simp only [Nat.zero_add, if_true]
        exact undoes_c (fun j hj => (hS0 j hj).symm) p3
      · rw [if_neg (by omega)]; exact p3
/-- the row 'now' with one place changed -/
def sA (A : Nat → Int32) (k : Nat) (x : Int32) : Nat → Int32 := fun j => if j = k then x else A j
theorem i_as (a g : Int32) : (a + g) - g = a := by
  rw [Int32.add_sub_cancel]
theorem st_ask (c0 : CU) (sd : Int64) (u0 : TU) (se : Int64) (p0 p1 : Int32) (hR : Rel c0 sd u0 se) : ∃ (r : Int32) (c1 : CU) (mu1 : TU), f_X6_ask NN c0 sd p0 p1 = some (r, c1) ∧ f_X7_ask NN u0 se p0 p1 = some (r, mu1) ∧ Rel c1 sd mu1 se := by
  obtain ⟨e0, T, A, hT, hC, hM, hA, hL, hW, hTx, hAc, h6, h7, hSe⟩ := id hR
  have h4 := hT.1
  have k4 := hT.2.1
  rcases ix2 p0 k4 with hb | ⟨a, ha, rfl⟩
  · refine ⟨-1, c0, u0, ?_, ?_, hR⟩
    · unfold f_X6_ask; rw [ct_asker_f hC.1 hb]; rfl
    · unfold f_X7_ask; rw [rf_asker_f hT hM hb]; rfl
  rcases ix2 p1 h4 with hb | ⟨t, ht, rfl⟩
  · refine ⟨-1, c0, u0, ?_, ?_, hR⟩
    · unfold f_X6_ask; rw [ct_asker_t hT hC.1 ha, ct_thing_f hC.1 hb]; rfl
    · unfold f_X7_ask; rw [rf_asker_t hT hM ha, rf_thing_f hT hM hb]; rfl
  obtain ⟨a1, a2⟩ := hC.1.2.2.2.2.2.1 a ha
  obtain ⟨b1, b2⟩ := hM.2.2.2.2.1 a ha
  obtain ⟨r1, r2⟩ := hT.2.2.2.2.1 a ha
  have pre6 : ∀ K : Option (Int32 × CU), f_X6_ask NN c0 sd (nI a) (nI t) = (if nI t < nI (T 6 a) then some (-2, c0) else if nI t ≤ nI (T 7 a) then (if A (6 + a) = -9 then ((mk_ix 4 (nI a)).bind fun _ => mk_nm (mk_set3 c0 4 (mk_put (c0 4) 1 (nI a).toNatClampNeg (nI t))) fun w_6 => (f_X0_add NN (w_6 5) 0 (nI a) 0).bind fun r_7 => mk_nm (mk_set3 w_6 5 (r_7)) fun w_8 => (f_X5_trueEnd NN (w_8 2) (nI t)).bind fun r_9 => some (r_9, w_8)) else some (-3, c0)) else some (-2, c0)) := by
    intro K
    unfold f_X6_ask
    rw [ct_asker_t hT hC.1 ha, ct_thing_t hT hC.1 ht, px_rd (by omega) (by decide), px_rd (by omega) (by decide), px_rd (by omega) (by decide), a1, a2, hL.2.2.1 a (by omega)]
    rfl
  have pre7 : f_X7_ask NN u0 se (nI a) (nI t) = (if (if nI t < nI (T 6 a) then (0 : Int32) else if nI (T 7 a) < nI t then 0 else 1) = 0 then some (-2, u0) else if A (6 + a) = -9 then ((f_X7_keepAct NN u0 se).bind fun r_7 => (mk_ix 10 (nI (6 + a))).bind fun _ => mk_nm (mk_put r_7 11 (nI (6 + a)).toNatClampNeg (nI t)) fun w_8 => (f_X7_trueEnd NN w_8 se (nI t)).bind fun r_9 => some (r_9, w_8)) else some (-3, u0)) := by
    unfold f_X7_ask
    rw [rf_asker_t hT hM ha, rf_thing_t hT hM ht, px_rd (by omega) (by decide), px_rd (by omega) (by decide), b1, b2, show (6 : Int32) = nI 6 from rfl, nI_add, px_rd (by omega) (by decide), hW (6 + a) (by omega)]
    simp only [Option.bind_some]
    rw [if_neg (by decide), if_neg (by decide), rf_in]
    rfl
  rw [pre6 none, pre7]
  by_cases g1 : t < T 6 a
  · exact ⟨-2, c0, u0, by rw [if_pos (nI_lt g1 (by omega))], by rw [if_pos (nI_lt g1 (by omega)), if_pos rfl], hR⟩
  rw [if_neg (nI_nlt (by omega) (by omega)), if_neg (nI_nlt (by omega) (by omega))]
  by_cases g2 : T 7 a < t
  · exact ⟨-2, c0, u0, by rw [if_neg (nI_ge g2 (by omega))], by rw [if_pos (nI_lt g2 (by omega)), if_pos rfl], hR⟩
  rw [if_pos (nI_le (by omega) (by omega)), if_neg (nI_nlt (by omega) (by omega)), if_neg (show ¬ (1 : Int32) = 0 by decide)]
  by_cases g3 : A (6 + a) = -9
  · rw [if_pos g3, if_pos g3, px_ix (by omega) (by decide), nI_clamp (by omega), nI_clamp (by omega)]
    obtain ⟨v', u', q1, q2, q3, q4, q5⟩ := acts_push (se := se) hA hW hAc 0 (nI a) 0
    rw [q2, px_ix (by omega) (by decide)]
    simp only [Option.bind_some, mk_nm]
    rw [show mk_set3 c0 4 (mk_put (c0 4) 1 a (nI t)) 5 = c0 5 from rfl, q1]
    simp only [Option.bind_some]
    rw [show mk_set3 (mk_set3 c0 4 (mk_put (c0 4) 1 a (nI t))) 5 v' 2 = c0 2 from rfl, ct_trueEnd hT hC.1 ht]
    have hM' : RT (mk_put u' 11 (6 + a) (nI t)) T := RT_of (u := u0) (fun j hj => q4 j (by omega) (by omega)) (fun k h1 h2 => by rw [show mk_put u' 11 (6 + a) (nI t) k = u' k by unfold mk_put; rw [if_neg (by omega)]]; exact q3 k (by omega) (by omega)) hM
    rw [rf_trueEnd hT hM' ht]
    have cell : ∀ k, k ≠ 0 → k ≠ 11 → k ≠ 13 → mk_put u' 11 (6 + a) (nI t) k = u0 k := fun k h1 h2 h3 => by unfold mk_put; rw [if_neg h2]; exact q3 k h1 h3
    refine ⟨nI (tE T t), mk_set3 (mk_set3 c0 4 (mk_put (c0 4) 1 a (nI t))) 5 v', mk_put u' 11 (6 + a) (nI t), rfl, rfl, e0, T, sA A (6 + a) (nI t), hT, hC, hM', ?_, ?_, ?_, Text_of (q4 6 (by decide) (by decide)) (cell 12 (by decide) (by decide) (by decide)) hTx, ?_, Slot_of (by rw [cell 18 (by decide) (by decide) (by decide)]) (fun j _ => by rw [cell 19 (by decide) (by decide) (by decide)]) h6, Slot_of (by rw [cell 18 (by decide) (by decide) (by decide)]) (fun j _ => by rw [cell 19 (by decide) (by decide) (by decide)]) h7, Seen_of (q4 12 (by decide) (by decide)) (cell 15 (by decide) (by decide) (by decide)) (cell 16 (by decide) (by decide) (by decide)) hSe⟩
    · refine ⟨?_, fun i hi => ?_, fun b hb => ?_⟩
      · obtain ⟨d, hd, ed⟩ := hA.1; exact ⟨d, hd, by unfold sA; rw [if_neg (by omega)]; exact ed⟩
      · unfold sA; rw [if_neg (by omega)]; exact hA.2.1 i hi
      · unfold sA
        by_cases hba : 6 + b = 6 + a
        · rw [if_pos hba]; exact Or.inr ⟨by omega, t, ht, rfl⟩
        · rw [if_neg hba]; exact hA.2.2 b hb
    · refine ⟨?_, ?_, fun b hb => ?_, fun i hi => ?_⟩
      · unfold sA; rw [if_neg (by omega)]; exact hL.1
      · unfold sA; rw [if_neg (by omega)]; exact hL.2.1
      · show upd (c0 4 1) a (nI t) b = _
        unfold sA
        by_cases hba : b = a
        · subst hba; rw [upd_s, if_pos rfl]
        · rw [upd_n _ hba, if_neg (by omega)]; exact hL.2.2.1 b hb
      · unfold sA; rw [if_neg (by omega)]; exact hL.2.2.2 i hi
    · intro j hj
      show upd (u' 11) (6 + a) (nI t) j = _
      unfold sA
      by_cases hja : j = 6 + a
      · subst hja; rw [upd_s, if_pos rfl]
      · rw [upd_n _ hja, if_neg hja, q3 11 (by decide) (by decide)]; exact hW j hj
    · refine q5 _ _ ⟨?_, Or.inr (Or.inr ⟨rfl, a, by omega, rfl, ?_, g3, fun j h1 h2 h3 => ?_⟩)⟩ rfl rfl rfl
      · unfold sA; rw [if_neg (by omega)]; simp
      · unfold sA; rw [if_neg (by omega)]
      · unfold sA; rw [if_neg h3]
  · exact ⟨-3, c0, u0, by rw [if_neg g3], by rw [if_neg g3], hR⟩
