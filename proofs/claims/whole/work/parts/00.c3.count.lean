/-! steps: counts, slots -/
theorem so_if {c : Prop} [Decidable c] {a b : Int32} {k : Option Int32} (h : k = some b) : (if c then some a else k) = some (if c then a else b) := by
  by_cases hc : c
  · rw [if_pos hc, if_pos hc]
  · rw [if_neg hc, if_neg hc, h]
theorem st_count (c0 : CU) (sd : Int64) (u0 : TU) (se : Int64) (p0 : Int32) (hR : Rel c0 sd u0 se) : ∃ (r : Int32), f_X6_count NN c0 sd p0 = some r ∧ f_X7_count NN u0 se p0 = some r ∧ Rel c0 sd u0 se := by
  have hNN : NN = 1000 := rfl
  obtain ⟨e0, T, A, hT, hC, hM, hA, hL, hW, ⟨n, hn, t1, t2, t3, t4⟩, ⟨s, x, hs, hx, s1, s2, s3, hSS⟩, h6, h7, ⟨q, hq, q1, q2, q3⟩⟩ := id hR
  have h4 := hT.1
  obtain ⟨d, hd, ed⟩ := hA.1
  have loop : f_X7_count NN u0 se p0 = if p0 = 0 then (some (u0 0 6)) else if p0 = 1 then (some (u0 0 0)) else if p0 = 2 then (some (u0 0 1)) else if p0 = 3 then (some (u0 0 2)) else if p0 = 4 then ((mk_rd (u0 11) 10 0).bind fun v_1 => some v_1) else if p0 = 5 then ((mk_rd (u0 11) 10 1).bind fun v_2 => some v_2) else if p0 = 6 then (some (nI (mkm (sldB A) (T 0 0)))) else if p0 = 7 then (some (nI (mkm (fun i => decide (tE T i ≤ d)) (T 0 0)))) else if p0 = 8 then ((f_X7_askedOf NN u0 se).bind fun r_3 => some r_3) else if p0 = 9 then (some (u0 0 9)) else if p0 = 10 then (some (u0 0 12)) else some (-2) := by
    unfold f_X7_count
    refine lq3_for 0 (T 0 0) NN (fun i => nI (mkm (sldB A) i)) (fun i => nI (mkm (fun i => decide (tE T i ≤ d)) i)) _ (fun rec => ?_) (fun rec i _ hi => ?_) (Nat.zero_le _) (by omega)
    · unfold g_X7_count_7
      rw [hM.1, if_pos (Int32.le_refl _)]
    · unfold g_X7_count_7 g_X7_count_39
      have h9 := tE_9 hT hi
      rw [hM.1, if_neg (nI_ge hi (by omega)), show (2 : Int32) = nI 2 from rfl, nI_add, px_rd (by omega) (by decide), hW (2 + i) (by omega), rf_trueEnd hT hM hi, px_rd0 (by decide) (by decide), hW 0 (by decide), ed, px_sh (by omega), nI_1]
      simp only [Option.bind_some]
      have a1 : A (2 + i) = -9 → nI (mkm (sldB A) i) ||| 0 = nI (mkm (sldB A) (i + 1)) := by
        intro h; rw [px_0, px_or, Nat.or_zero, show mkm (sldB A) (i + 1) = mkm (sldB A) i by simp [mkm, sldB, h]]
      have a2 : ¬ A (2 + i) = -9 → nI (mkm (sldB A) i) ||| nI (2 ^ i) = nI (mkm (sldB A) (i + 1)) := by
        intro h; rw [px_or, show mkm (sldB A) i ||| 2 ^ i = mkm (sldB A) (i + 1) by rw [← mkm_or]; simp [sldB, h]]
      have b1 : d < tE T i → nI (mkm (fun i => decide (tE T i ≤ d)) i) ||| 0 = nI (mkm (fun i => decide (tE T i ≤ d)) (i + 1)) := by
        intro h; rw [px_0, px_or, Nat.or_zero, show mkm (fun i => decide (tE T i ≤ d)) (i + 1) = mkm (fun i => decide (tE T i ≤ d)) i by simp [mkm]; omega]
      have b2 : ¬ d < tE T i → nI (mkm (fun i => decide (tE T i ≤ d)) i) ||| nI (2 ^ i) = nI (mkm (fun i => decide (tE T i ≤ d)) (i + 1)) := by
        intro h; rw [px_or, show mkm (fun i => decide (tE T i ≤ d)) i ||| 2 ^ i = mkm (fun i => decide (tE T i ≤ d)) (i + 1) by rw [← mkm_or, if_pos (decide_eq_true (show tE T i ≤ d by omega))]]
      by_cases g1 : A (2 + i) = -9
      · rw [if_pos g1]
        by_cases g2 : d < tE T i
        · rw [if_pos (nI_lt g2 (by omega)), a1 g1, b1 g2]
        · rw [if_neg (nI_nlt (by omega) (by omega)), a1 g1, b2 g2]
      · rw [if_neg g1]
        by_cases g2 : d < tE T i
        · rw [if_pos (nI_lt g2 (by omega)), a2 g1, b1 g2]
        · rw [if_neg (nI_nlt (by omega) (by omega)), a2 g1, b2 g2]
  refine ⟨if p0 = 0 then nI n else if p0 = 1 then nI (T 0 0) else if p0 = 2 then nI (T 0 1) else if p0 = 3 then nI (T 0 2) else if p0 = 4 then A 0 else if p0 = 5 then A 1 else if p0 = 6 then nI (mkm (sldB A) (T 0 0)) else if p0 = 7 then nI (mkm (fun i => decide (tE T i ≤ d)) (T 0 0)) else if p0 = 8 then nI (orL (ab A) 4) else if p0 = 9 then nI s else if p0 = 10 then nI q else -2, ?_, ?_, hR⟩
  · unfold f_X6_count
    rw [t1, hC.1.1, hC.1.2.2.1, hC.1.2.2.2.1, cl_sold hT hC.1 hL (by decide), cl_asked hT hL hA (by decide), s1, q1, hL.1, hL.2.1]
    rw [show f_X5_thingsEndedOn NN (c0 2) (A 0) = some (nI (mkm (fun i => decide (tE T i ≤ d)) (T 0 0))) by rw [ed]; exact ct_ended hT hC.1 (by decide) hd]
    simp only [Option.bind_some]
    exact so_if (so_if (so_if (so_if (so_if (so_if (so_if (so_if (so_if (so_if (so_if rfl))))))))))
  · rw [loop, t2, hM.1, hM.2.1, hM.2.2.1, px_rd0 (by decide) (by decide), px_rd1 (by decide) (by decide), hW 0 (by decide), hW 1 (by decide), rl_asked hT hM hW hA (by decide), s2, q2]
    simp only [Option.bind_some]
    exact so_if (so_if (so_if (so_if (so_if (so_if (so_if (so_if (so_if (so_if (so_if rfl))))))))))
theorem cpy4 {f g : Nat → Int32} {j : Nat} (h : j < 4) : va_cpy f g ((0 : Int32).toNatClampNeg) ((0 : Int32).toNatClampNeg) ((4 : Int32).toNatClampNeg) j = f j := sb_cpy0 h
theorem ck_like (v w : TU) : ∃ v', f_X2_becomeLike NN v w = some v' ∧ v' 0 0 = w 0 0 ∧ v' 0 1 = w 0 1 ∧ v' 0 2 = v 0 2 ∧ (∀ j, j < 4 → v' 1 j = w 1 j) ∧ (∀ j, j < 4 → v' 2 j = w 2 j) := by
  unfold f_X2_becomeLike mk_nm
  rw [show mk_cp 4 4 0 0 4 = some () by decide]
  simp only [Option.bind_some]
  refine ⟨_, rfl, rfl, rfl, rfl, fun j hj => ?_, fun j hj => ?_⟩
  · exact cpy4 hj
  · exact cpy4 hj
theorem ck_lifeR {v' w : TU} {A : Nat → Int32} (hL : lifeR w A) (h0 : v' 0 0 = w 0 0) (h1 : v' 0 1 = w 0 1) (h2 : ∀ j, j < 4 → v' 1 j = w 1 j) (h3 : ∀ j, j < 4 → v' 2 j = w 2 j) : lifeR v' A := ⟨h0.trans hL.1, h1.trans hL.2.1, fun a ha => (h2 a ha).trans (hL.2.2.1 a ha), fun i hi => (h3 i hi).trans (hL.2.2.2 i hi)⟩
/-- the reference's copy of the row 'now' into its slot -/
theorem rk_keep {u : TU} {se : Int64} (s : Nat) (hs : s < 2) : ∃ u', lq2 (g_X7_keep_21 NN se (nI s)) NN u 0 = some (u 11 1, u') ∧ (∀ k, k ≠ 19 → u' k = u k) ∧ (∀ j, j < 10 → u' 19 (10 * s + j) = u 11 j) ∧ (∀ j, (j < 10 * s ∨ 10 * s + 10 ≤ j) → u' 19 j = u 19 j) := by
  have hNN : NN = 1000 := rfl
  obtain ⟨F, hF0, hF⟩ : ∃ F : Nat → TU, F 0 = u ∧ ∀ i, F (i + 1) = mk_put (F i) 19 (10 * s + i) (u 11 i) := by
    refine ⟨fun i => Nat.rec u (fun i w => mk_put w 19 (10 * s + i) (u 11 i)) i, rfl, fun i => rfl⟩
  have h1 : ∀ i, ∀ k, k ≠ 19 → F i k = u k := by
    intro i
    induction i with
    | zero => intro k _; rw [hF0]
    | succ i ih => intro k hk; rw [hF]; unfold mk_put; rw [if_neg hk]; exact ih k hk
  have h2 : ∀ i j, F i 19 j = if 10 * s ≤ j ∧ j < 10 * s + i then u 11 (j - 10 * s) else u 19 j := by
    intro i
    induction i with
    | zero => intro j; rw [hF0, if_neg (by omega)]
    | succ i ih =>
      intro j
      rw [hF]
      show upd (F i 19) (10 * s + i) (u 11 i) j = _
      by_cases hj : j = 10 * s + i
      · subst hj; rw [upd_s, if_pos (by omega), Nat.add_sub_cancel_left]
      · rw [upd_n _ hj, ih j]
        by_cases hc : 10 * s ≤ j ∧ j < 10 * s + i
        · rw [if_pos hc, if_pos (by omega)]
        · rw [if_neg hc, if_neg (by omega)]
  refine ⟨F 10, ?_, h1 10, fun j hj => by rw [h2, if_pos (by omega), Nat.add_sub_cancel_left], fun j hj => by rw [h2, if_neg (by omega)]⟩
  rw [show lq2 (g_X7_keep_21 NN se (nI s)) NN u 0 = lq2 (g_X7_keep_21 NN se (nI s)) NN (F 0) (nI 0) by rw [hF0]; rfl]
  refine lq2_for 0 10 NN F _ (fun rec => ?_) (fun rec i _ hi => ?_) (by omega) (by omega)
  · unfold g_X7_keep_21
    rw [show (10 : Int32) = nI 10 from rfl, if_pos (Int32.le_refl _), px_rd1 (by decide) (by decide), h1 10 11 (by decide)]
    rfl
  · unfold g_X7_keep_21 mk_nm
    rw [show (10 : Int32) = nI 10 from rfl, if_neg (nI_ge hi (by decide)), px_rd hi (by decide), pk_mul, nI_add, px_ix (by omega) (by decide), nI_clamp (by omega), nI_1, h1 i 11 (by decide)]
    simp only [Option.bind_some]
    rw [hF]
theorem rk_again {u : TU} {se : Int64} (s : Nat) (hs : s < 2) : ∃ u', lq2 (g_X7_again_26 NN se (nI s)) NN u 0 = some (u 19 (10 * s + 1), u') ∧ (∀ k, k ≠ 11 → k ≠ 0 → u' k = u k) ∧ (∀ j, j ≠ 9 → u' 0 j = u 0 j) ∧ u' 0 9 = 0 ∧ (∀ j, j < 10 → u' 11 j = u 19 (10 * s + j)) := by
  have hNN : NN = 1000 := rfl
  obtain ⟨F, hF0, hF⟩ : ∃ F : Nat → TU, F 0 = u ∧ ∀ i, F (i + 1) = mk_put (F i) 11 i (u 19 (10 * s + i)) := by
    refine ⟨fun i => Nat.rec u (fun i w => mk_put w 11 i (u 19 (10 * s + i))) i, rfl, fun i => rfl⟩
  have h1 : ∀ i, ∀ k, k ≠ 11 → F i k = u k := by
    intro i
    induction i with
    | zero => intro k _; rw [hF0]
    | succ i ih => intro k hk; rw [hF]; unfold mk_put; rw [if_neg hk]; exact ih k hk
  have h2 : ∀ i j, j < i → F i 11 j = u 19 (10 * s + j) := by
    intro i
    induction i with
    | zero => intro j hj; omega
    | succ i ih =>
      intro j hj
      rw [hF]
      show upd (F i 11) i (u 19 (10 * s + i)) j = _
      by_cases hj2 : j = i
      · subst hj2; rw [upd_s]
      · rw [upd_n _ hj2]; exact ih j (by omega)
  refine ⟨mk_put (F 10) 0 9 0, ?_, fun k hk hk0 => ?_, fun j hj => ?_, rfl, fun j hj => h2 10 j hj⟩
  · rw [show lq2 (g_X7_again_26 NN se (nI s)) NN u 0 = lq2 (g_X7_again_26 NN se (nI s)) NN (F 0) (nI 0) by rw [hF0]; rfl]
    refine lq2_for 0 10 NN F _ (fun rec => ?_) (fun rec i _ hi => ?_) (by omega) (by omega)
    · unfold g_X7_again_26 mk_nm
      rw [show (10 : Int32) = nI 10 from rfl, if_pos (Int32.le_refl _)]
      show (mk_rd (mk_put (F 10) 0 9 0 11) 10 1).bind _ = _
      rw [px_rd1 (by decide) (by decide), show mk_put (F 10) 0 9 0 11 1 = F 10 11 1 from rfl, h2 10 1 (by decide)]
      rfl
    · unfold g_X7_again_26 mk_nm
      rw [show (10 : Int32) = nI 10 from rfl, if_neg (nI_ge hi (by decide)), pk_mul, nI_add, px_rd (by omega) (by decide), px_ix hi (by decide), nI_clamp (by omega), nI_1, h1 i 19 (by decide)]
      simp only [Option.bind_some]
      rw [hF]
  · unfold mk_put; rw [if_neg hk0]; exact h1 10 k hk
  · show upd (F 10 0) 9 0 j = _
    rw [upd_n _ hj, h1 10 0 (by decide)]
