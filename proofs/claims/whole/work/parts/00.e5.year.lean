/-! step: year -/
def nx (sd : Int64) : Int64 := (sd * (6364136223846793005 : Int64)) + (1442695040888963407 : Int64)
def sq (sd : Int64) : Nat → Int64
  | 0 => sd
  | i + 1 => nx (sq sd i)
def lwB (y : Int64) (t : Int32) : Bool := decide (lg_cmp (((y.toUInt64 >>> ((33 : Int32).toInt64.toUInt64 &&& Int64.toUInt64 63)).toInt64) - ((y.toUInt64 >>> ((33 : Int32).toInt64.toUInt64 &&& Int64.toUInt64 63)).toInt64) / (10 : Int64) * (10 : Int64)) (t.toInt64) < 0)
def lw (T : NT) (sd : Int64) (i : Nat) : Bool := lwB (sq sd (i + 1)) (nI (T 3 i))
def dw (T : NT) (sd : Int64) : Nat := pss T (mkm (lw T sd) (T 0 0)) 4
section YEAR
variable {T : NT} {u v : TU} {N : Nat} {sd : Int64} {c : CU}
theorem mkm_not (p : Nat → Bool) : mkm (fun i => !p i) (T 0 0) = cw T (mkm p (T 0 0)) := by
  have h1 := mkm_lt p (T 0 0)
  have h2 := cw_lt (T := T) h1
  apply Nat.eq_of_testBit_eq
  intro i
  rw [mkm_bit]
  by_cases hi : i < T 0 0
  · rw [cw_bit hi, mkm_bit]; simp [hi]
  · rw [Nat.testBit_lt_two_pow (Nat.lt_of_lt_of_le h2 (Nat.pow_le_pow_right (by decide) (by omega)))]; simp [hi]
theorem ct_draw (hT : wfT T) (hC : CT0 (c 2) T) (hN : 700 ≤ N) : f_X6_drawWorld N c sd = some (nI (cw T (dw T sd)), sq sd (T 0 0)) := by
  have h4 := hT.1
  unfold f_X6_drawWorld
  refine lq3_for 0 (T 0 0) N (fun i => sq sd i) (fun i => nI (mkm (fun i => !lw T sd i) i)) _ (fun rec => ?_) (fun rec i _ hi => ?_) (Nat.zero_le _) (by omega)
  · unfold g_X6_drawWorld_4
    rw [hC.1, if_pos (Int32.le_refl _), mkm_not]
    obtain ⟨x, x1, x2⟩ := ct_held (N := N) hT hC hN (mkm_lt (lw T sd) (T 0 0))
    rw [x2, Option.bind_some, Clo_u x1 (pss_clo hT (mkm_lt (lw T sd) (T 0 0)))]
    rfl
  · obtain ⟨-, -, a3, -⟩ := hC.2.2.2.2.1 i hi
    unfold g_X6_drawWorld_4 mk_nm
    try dsimp only
    rw [hC.1, if_neg (nI_ge hi (by omega)), px_rd (by omega) (by decide), a3, Option.bind_some, px_sh (by omega), px_or, nI_1]
    rw [show sq sd i * (6364136223846793005 : Int64) + (1442695040888963407 : Int64) = sq sd (i + 1) from rfl]
    by_cases h : lw T sd i = true
    · rw [if_pos (of_decide_eq_true h), show mkm (fun i => !lw T sd i) (i + 1) = mkm (fun i => !lw T sd i) i by simp [mkm, h]]
    · rw [if_neg (fun q => h (decide_eq_true q)), show mkm (fun i => !lw T sd i) i ||| 2 ^ i = mkm (fun i => !lw T sd i) (i + 1) by rw [← mkm_or]; simp [h]]
theorem rf_draw (hT : wfT T) (hR : RT u T) (hN : 700 ≤ N) : f_X7_drawn N u sd = some (nI (dw T sd), sq sd (T 0 0)) := by
  have h4 := hT.1
  unfold f_X7_drawn
  refine lq3_for 0 (T 0 0) N (fun i => sq sd i) (fun i => nI (mkm (lw T sd) i)) _ (fun rec => ?_) (fun rec i _ hi => ?_) (Nat.zero_le _) (by omega)
  · unfold g_X7_drawn_4
    rw [hR.1, if_pos (Int32.le_refl _)]
    exact rf_pass hT hR hN (mkm_lt (lw T sd) (T 0 0))
  · obtain ⟨-, -, a3, -, -⟩ := hR.2.2.2.1 i hi
    unfold g_X7_drawn_4 mk_nm
    try dsimp only
    rw [hR.1, if_neg (nI_ge hi (by omega)), show (2 : Int32) = nI 2 from rfl, px_5, px_rd (by omega) (by decide), a3, Option.bind_some, px_sh (by omega), px_or, show nI (mkm (lw T sd) i) ||| (0 : Int32) = nI (mkm (lw T sd) i) by rw [px_0, px_or, Nat.or_zero], nI_1]
    rw [show sq sd i * (6364136223846793005 : Int64) + (1442695040888963407 : Int64) = sq sd (i + 1) from rfl]
    by_cases h : lw T sd i = true
    · rw [if_neg (Int32.not_le.mpr (of_decide_eq_true h)), show mkm (lw T sd) i ||| 2 ^ i = mkm (lw T sd) (i + 1) by rw [← mkm_or]; simp [h]]
    · rw [if_pos (Int32.not_lt.mp (fun q => h (decide_eq_true q))), show mkm (lw T sd) (i + 1) = mkm (lw T sd) i by simp [mkm, h]]
theorem ct_coins0 (hT : wfT T) (hC : CT0 v T) {i e k : Nat} (hi : i < T 0 0) (he : e ≤ 9) (hk : k ≤ 9) : f_X5_coinsKept N v (nI i) (nI e) 0 (nI k) = some (nI (kp (T 4 i) e 0 k)) := ct_coins (d := 0) hT hC hi he (by omega) hk
theorem rf_gives0 (hT : wfT T) (hR : RT u T) {i e k : Nat} (hi : i < T 0 0) (he : e ≤ 9) (hk : k ≤ 9) : f_X7_gives N u sd (nI i) (nI e) 0 (nI k) = some (nI (kp (T 4 i) e 0 k)) := rf_gives (d := 0) hT hR hi he (by omega) hk
def yS (T : NT) (sd : Int64) : Nat → Int64
  | 0 => sd
  | k + 1 => sq (yS T sd k) (T 0 0)
def yT (T : NT) (x : Nat) : Nat := sm (fun i => kp (T 4 i) (endOf T (cw T x) i) 0 (wsd T (okW T) i 0)) (T 0 0)
def yY (T : NT) (sd : Int64) : Nat → Nat
  | 0 => 0
  | k + 1 => yY T sd k + yT T (dw T (yS T sd k))
theorem dw_lt (hT : wfT T) (sd : Int64) : dw T sd < 2 ^ T 0 0 := (pss_clo hT (mkm_lt (lw T sd) (T 0 0))).1
theorem ct_years (hT : wfT T) (hC : CT0 (c 2) T) (hN : 700 ≤ N) (hw : ∀ j, j < T 0 0 → (c 0) 2 j = nI (wsd T (okW T) j 0)) {m : Nat} (hm : m ≤ 30) : lq3 (g_X6_year_59 N c (nI m)) N sd (nI 0) (nI 0) = some (nI (yY T sd m), c, yS T sd m) := by
  have h4 := hT.1
  have h16 := px_sh16 h4
  refine lq3_for 0 m N (fun k => yS T sd k) (fun k => nI (yY T sd k)) _ (fun rec => ?_) (fun rec k _ hk => ?_) (Nat.zero_le _) (by omega)
  · unfold g_X6_year_59
    rw [if_pos (Int32.le_refl _)]
  · unfold g_X6_year_59
    rw [if_neg (nI_ge hk (by omega)), ct_draw hT hC hN, Option.bind_some]
    have e : lq2 (g_X6_year_73 N c (sq (yS T sd k) (T 0 0)) rec (nI m) (nI k) (nI (cw T (dw T (yS T sd k))))) N (nI (yY T sd k)) (nI 0) = rec (sq (yS T sd k) (T 0 0)) (nI (yY T sd k + yT T (dw T (yS T sd k)))) (nI k + 1) := by
      refine lq2_up (T 0 0) N (fun i => nI (yY T sd k + sm (fun i => kp (T 4 i) (endOf T (cw T (dw T (yS T sd k))) i) 0 (wsd T (okW T) i 0)) i)) _ (by omega) (by omega) _ hC.1 _ _ (fun _ _ _ => rfl) rfl (fun rec2 i hi => ?_)
      try dsimp only
      have hl := cw_lt (T := T) (dw_lt hT (yS T sd k))
      rw [ct_endIn hT hC (by omega) hi, Option.bind_some, px_rd (by omega) (by decide), hw i hi, Option.bind_some, ct_coins0 hT hC hi (endOf_9 hT hi) (wsd_le (by omega)).2, Option.bind_some, nI_add]
      simp only [sm]
      rw [Nat.add_assoc]
    rw [← nI_1]
    exact e
theorem rf_years (hT : wfT T) (hR : RT u T) (hN : 700 ≤ N) (hw : ∀ j, j < T 0 0 → u 17 j = nI (wsd T (okW T) j 0)) {m : Nat} (hm : m ≤ 30) : lq3 (g_X7_year_52 N u (nI m)) N sd (nI 0) (nI 0) = some (nI (yY T sd m), u, yS T sd m) := by
  have h4 := hT.1
  have h16 := px_sh16 h4
  refine lq3_for 0 m N (fun k => yS T sd k) (fun k => nI (yY T sd k)) _ (fun rec => ?_) (fun rec k _ hk => ?_) (Nat.zero_le _) (by omega)
  · unfold g_X7_year_52
    rw [if_pos (Int32.le_refl _)]
  · unfold g_X7_year_52
    rw [if_neg (nI_ge hk (by omega)), rf_draw hT hR hN, Option.bind_some]
    have e : lq2 (g_X7_year_66 N u (sq (yS T sd k) (T 0 0)) rec (nI m) (nI k) (nI (dw T (yS T sd k)))) N (nI (yY T sd k)) (nI 0) = rec (sq (yS T sd k) (T 0 0)) (nI (yY T sd k + yT T (dw T (yS T sd k)))) (nI k + 1) := by
      refine lq2_up (T 0 0) N (fun i => nI (yY T sd k + sm (fun i => kp (T 4 i) (endOf T (cw T (dw T (yS T sd k))) i) 0 (wsd T (okW T) i 0)) i)) _ (by omega) (by omega) _ hR.1 _ _ (fun _ _ _ => rfl) rfl (fun rec2 i hi => ?_)
      try dsimp only
      have hl := dw_lt hT (yS T sd k)
      rw [rf_has (by omega) (by omega), Option.bind_some, rf_endBy hT hR hi, Option.bind_some, px_rd (by omega) (by decide), hw i hi, Option.bind_some, rf_gives0 hT hR hi (endOf_9 hT hi) (wsd_le (by omega)).2, Option.bind_some, nI_add]
      simp only [sm]
      rw [Nat.add_assoc]
    rw [← nI_1]
    exact e
end YEAR
theorem st_year (c0 : CU) (sd : Int64) (u0 : TU) (se : Int64) (p0 : Int32) (hR : Rel c0 sd u0 se) : ∃ (r : Int32) (c1 : CU) (sd1 : Int64) (mu1 : TU) (msd1 : Int64), f_X6_year NN c0 sd p0 = some (r, c1, sd1) ∧ f_X7_year NN u0 se p0 = some (r, mu1, msd1) ∧ Rel c1 sd1 mu1 msd1 := by
  have hNN : NN = 1000 := rfl
  obtain ⟨e0, T, A, hA0⟩ := id hR
  obtain ⟨hT, hC, hM, hA, hL, hW, hTx, hAc, h6, h7, hSe⟩ := id hA0
  subst e0
  have h4 := hT.1
  have h16 := px_sh16 h4
  have in30 : ∀ p : Int32, f_X7_in NN p.toInt64 (1 : Int64) (30 : Int64) = some (if p < 1 then 0 else if 30 < p then 0 else 1) := fun p => rf_in p 1 30
  by_cases g1 : p0 < 1
  · refine ⟨-2, c0, sd, u0, sd, ?_, ?_, hR⟩
    · unfold f_X6_year; rw [if_pos g1]
    · unfold f_X7_year; rw [in30, if_pos g1]; rfl
  by_cases g2 : (30 : Int32) < p0
  · refine ⟨-2, c0, sd, u0, sd, ?_, ?_, hR⟩
    · unfold f_X6_year; rw [if_neg g1, if_neg (Int32.not_le.mpr g2)]
    · unfold f_X7_year; rw [in30, if_neg g1, if_pos g2]; rfl
  have g0 : ¬ p0 < 0 := fun z => g1 (Int32.lt_trans z (by decide))
  obtain ⟨m, hm, rfl⟩ := nI_of2 (M := 30) (n := 30) (by decide) g0 (Int32.not_lt.mp g2)
  have cl : ∃ c, (∀ k, k ≠ 0 → c k = c0 k) ∧ (c 0) 0 = (c0 0) 0 ∧ (c 0) 1 = (c0 0) 1 ∧ f_X6_year NN c0 sd (nI m) = some (nI (yY T sd m), c, yS T sd m) := by
    obtain ⟨c, ⟨q1, q2, q3, q4⟩, h2⟩ := lq2_inv (b := g_X6_year_16 NN sd (nI m)) 0 (T 0 0) NN (fun i (c : CU) => (∀ k, k ≠ 0 → c k = c0 k) ∧ (c 0) 0 = (c0 0) 0 ∧ (c 0) 1 = (c0 0) 1 ∧ ∀ j, j < i → (c 0) 2 j = nI (wsd T (okW T) j 0)) (fun c => lq3 (g_X6_year_59 NN c (nI m)) NN sd (0 : Int32) (0 : Int32)) (fun rec c ⟨q1, _⟩ => by
      unfold g_X6_year_16
      rw [q1 2 (by decide), hC.1.1, if_pos (Int32.le_refl _)]) (fun rec c i _ hi ⟨q1, q2, q3, q4⟩ => by
      refine ⟨mk_set3 c 0 (mk_put (c 0) 2 i (nI (wsd T (okW T) i 0))), ⟨fun k hk => by rw [← q1 k hk]; unfold mk_set3; rw [if_neg hk], q2, q3, fun j hj => ?_⟩, ?_⟩
      · show upd ((c 0) 2) i _ j = _
        by_cases hji : j = i
        · subst hji; rw [upd_s]
        · rw [upd_n _ hji]; exact q4 j (by omega)
      · unfold g_X6_year_16 mk_nm
        rw [q1 2 (by decide), hC.1.1, if_neg (nI_ge hi (by omega)), hC.2.1, ct_wise0 hT hC (by decide) (okW T) hi, Option.bind_some, px_ix (by omega) (by decide), Option.bind_some, nI_clamp (by omega), nI_1]) c0 ⟨fun _ _ => rfl, rfl, rfl, fun j hj => absurd hj (by omega)⟩ (Nat.zero_le _) (by omega)
    refine ⟨c, q1, q2, q3, ?_⟩
    unfold f_X6_year
    rw [if_neg g1, if_pos (Int32.not_lt.mp g2), show lq2 (g_X6_year_16 NN sd (nI m)) NN c0 0 = _ from h2]
    exact ct_years hT (by rw [q1 2 (by decide)]; exact hC.1) (by decide) q4 hm
  have rl : ∃ w, (∀ k, k ≠ 0 → k ≠ 17 → w k = u0 k) ∧ (∀ j, j ≠ 11 → w 0 j = u0 0 j) ∧ f_X7_year NN u0 sd (nI m) = some (nI (yY T sd m), w, yS T sd m) := by
    obtain ⟨w, ⟨q1, q2, q3, q4⟩, h2⟩ := lq2_inv (b := g_X7_year_22 NN sd (nI m)) 0 (T 0 0) NN (fun i (w : TU) => (∀ k, k ≠ 0 → k ≠ 17 → w k = u0 k) ∧ (∀ j, j ≠ 11 → w 0 j = u0 0 j) ∧ w 0 11 = nI (mkm (fun x => stW T 0 (cw T x)) (2 ^ T 0 0)) ∧ ∀ j, j < i → w 17 j = nI (wsd T (okW T) j 0)) (fun w => lq3 (g_X7_year_52 NN w (nI m)) NN sd (0 : Int32) (0 : Int32)) (fun rec w ⟨q1, q2, _⟩ => by
      unfold g_X7_year_22
      rw [q2 0 (by decide), hM.1, if_pos (Int32.le_refl _)]) (fun rec w i _ hi ⟨q1, q2, q3, q4⟩ => by
      have hRw : RT w T := RT_of (fun j hj => q2 j (by omega)) (fun k h1 h2 => q1 k (by omega) (by omega)) hM
      refine ⟨mk_put w 17 i (nI (wsd T (okW T) i 0)), ⟨fun k hk hk2 => by rw [← q1 k hk hk2]; unfold mk_put; rw [if_neg hk2], q2, q3, fun j hj => ?_⟩, ?_⟩
      · show upd (w 17) i _ j = _
        by_cases hji : j = i
        · subst hji; rw [upd_s]
        · rw [upd_n _ hji]; exact q4 j (by omega)
      · unfold g_X7_year_22 mk_nm
        rw [q2 0 (by decide), hM.1, if_neg (nI_ge hi (by omega)), rf_wise0 hT hRw (by decide) (stW T 0) q3 hi, Option.bind_some, px_ix (by omega) (by decide), Option.bind_some, nI_clamp (by omega), nI_1, stW_0]) (mk_put u0 0 11 (nI (mkm (fun x => stW T 0 (cw T x)) (2 ^ T 0 0)))) ⟨fun k hk _ => by unfold mk_put; rw [if_neg hk], fun j hj => by show upd (u0 0) 11 _ j = _; rw [upd_n _ hj], rfl, fun j hj => absurd hj (by omega)⟩ (Nat.zero_le _) (by omega)
    refine ⟨w, q1, q2, ?_⟩
    have hRw : RT w T := RT_of (fun j hj => q2 j (by omega)) (fun k h1 h2 => q1 k (by omega) (by omega)) hM
    unfold f_X7_year
    rw [in30, if_neg g1, if_neg g2, Option.bind_some, if_neg (by decide), show f_X7_layStart NN u0 sd 0 = _ from rf_layStart (h := 0) hT hM (by decide) (by decide), Option.bind_some, show lq2 (g_X7_year_22 NN sd (nI m)) NN _ 0 = _ from h2]
    exact rf_years hT hRw (by decide) q4 hm
  obtain ⟨c, q1, q2, q3, q4⟩ := cl
  obtain ⟨w, r1, r2, r3⟩ := rl
  refine ⟨_, c, _, w, _, q4, r3, rfl, T, A, hT, by rw [q1 2 (by decide)]; exact hC, RT_of (fun j hj => r2 j (by omega)) (fun k h1 h2 => r1 k (by omega) (by omega)) hM, hA, by rw [q1 4 (by decide)]; exact hL, now_of (fun j _ => by rw [r1 11 (by decide) (by decide)]) hW, ?_, ?_, ?_, ?_, ?_⟩
  · have := Text_of (r2 6 (by decide)) (r1 12 (by decide) (by decide)) hTx
    unfold TextR at this ⊢
    rw [q2, q3]; exact this
  · rw [q1 5 (by decide)]; exact Acts_of (r2 9 (by decide)) (r2 10 (by decide)) (r1 13 (by decide) (by decide)) hAc
  · rw [q1 6 (by decide)]; exact Slot_of (by rw [r1 18 (by decide) (by decide)]) (fun j _ => by rw [r1 19 (by decide) (by decide)]) h6
  · rw [q1 7 (by decide)]; exact Slot_of (by rw [r1 18 (by decide) (by decide)]) (fun j _ => by rw [r1 19 (by decide) (by decide)]) h7
  · rw [q1 8 (by decide)]; exact Seen_of (r2 12 (by decide)) (r1 15 (by decide) (by decide)) (r1 16 (by decide) (by decide)) hSe
