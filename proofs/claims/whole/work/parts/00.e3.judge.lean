/-! step: judge -/
theorem ct_power {N n : Nat} (hN : 700 ≤ N) (hn : n ≤ 8) : f_X6_powerOfTen N (nI n) = some (nI (10 ^ n)) := by
  unfold f_X6_powerOfTen
  refine lq2_up n N (fun i => nI (10 ^ i)) _ (by omega) (by omega) _ rfl _ _ (fun _ _ _ => rfl) rfl (fun rec i hi => ?_)
  try dsimp only
  rw [show (10 : Int32) = nI 10 from rfl, pk_mul, ← Nat.pow_succ]
theorem rf_power {N n : Nat} (hN : 700 ≤ N) (hn : n ≤ 8) : f_X7_power N (nI n) = some (nI (10 ^ n)) := by
  unfold f_X7_power
  refine lq2_up n N (fun i => nI (10 ^ i)) _ (by omega) (by omega) _ rfl _ _ (fun _ _ _ => rfl) rfl (fun rec i hi => ?_)
  try dsimp only
  rw [show (10 : Int32) = nI 10 from rfl, pk_mul, ← Nat.pow_succ]
theorem ct_figure {N p row : Nat} (hN : 700 ≤ N) (hp : p ≤ 8) (hr : row < 2 ^ 31) : f_X6_figureAt N (nI row) (nI p) = some (nI (row / 10 ^ p % 10)) := by
  unfold f_X6_figureAt
  have key := lq2_up (b := g_X6_figureAt_4 N (nI p)) p N (fun i => nI (row / 10 ^ i)) (some (nI (row / 10 ^ p % 10))) (by omega) (by omega) _ rfl _ _ (fun _ _ _ => rfl) (by
    try dsimp only
    have : row / 10 ^ p ≤ row := Nat.div_le_self _ _
    rw [show (10 : Int32) = nI 10 from rfl, pk_rem (by omega) (by decide) (by decide)]) (fun rec i hi => by
    try dsimp only
    have : row / 10 ^ i ≤ row := Nat.div_le_self _ _
    rw [show (10 : Int32) = nI 10 from rfl, pk_div (by omega) (by decide) (by decide), Nat.div_div_eq_div_mul, ← Nat.pow_succ])
  try dsimp only at key
  rw [Nat.pow_zero, Nat.div_one] at key
  exact key
theorem st_judge (c0 : CU) (sd : Int64) (u0 : TU) (se : Int64) (p0 p1 : Int32) (hR : Rel c0 sd u0 se) : ∃ (r : Int32), f_X6_judge NN c0 sd p0 p1 = some r ∧ f_X7_judge NN u0 se p0 p1 = some r ∧ Rel c0 sd u0 se := by
  have hNN : NN = 1000 := rfl
  obtain ⟨e0, T, A, hA0⟩ := id hR
  obtain ⟨hT, hC, hM, hA, hL, hW, hx⟩ := id hA0
  have h4 := hT.1
  have h16 := px_sh16 h4
  obtain ⟨d, hd, ed⟩ := hA.1
  have in8 : ∀ p : Int32, f_X7_in NN p.toInt64 (1 : Int64) (8 : Int64) = some (if p < 1 then 0 else if 8 < p then 0 else 1) := fun p => rf_in p 1 8
  by_cases g1 : p0 < 1
  · refine ⟨-2, ?_, ?_, hR⟩
    · unfold f_X6_judge; rw [if_pos g1]
    · unfold f_X7_judge; rw [in8, if_pos g1]; rfl
  by_cases g2 : (8 : Int32) < p0
  · refine ⟨-2, ?_, ?_, hR⟩
    · unfold f_X6_judge; rw [if_neg g1, if_pos g2]
    · unfold f_X7_judge; rw [in8, if_neg g1, if_pos g2]; rfl
  have g0 : ¬ p0 < 0 := fun z => g1 (Int32.lt_trans z (by decide))
  obtain ⟨n, hn, rfl⟩ := nI_of2 (M := 8) (n := 8) (by decide) g0 (Int32.not_lt.mp g2)
  have hn1 : 1 ≤ n := by
    rcases Nat.eq_zero_or_pos n with h | h
    · subst h; exact absurd (by decide) g1
    · exact h
  have h10 : 10 ^ n ≤ 10 ^ 8 := Nat.pow_le_pow_right (by decide) hn
  have pre6 : ∀ p, f_X6_judge NN c0 sd (nI n) p = if p < 0 then some (-2) else if p < nI (10 ^ n) then lq3 (g_X6_judge_50 NN c0 sd (nI n) p) NN (nI d) (nI (mkm (sldB A) (T 0 0))) 0 else some (-2) := by
    intro p
    unfold f_X6_judge
    rw [if_neg g1, if_neg g2, ct_power (by decide) hn, Option.bind_some, cl_sold hT hC.1 hL (by decide), Option.bind_some, hL.1, ed]
  have pre7 : ∀ p, f_X7_judge NN u0 se (nI n) p = if p < 0 then some (-2) else if nI (10 ^ n) - 1 < p then some (-2) else lq3 (g_X7_judge_89 NN u0 se (nI n) p) NN (nI d) (nI (mkm (sldB A) (T 0 0))) 0 := by
    intro p
    have lp : lq2 (g_X7_judge_44 NN u0 se (nI n) p (nI d)) NN (nI 0) (nI 0) = lq3 (g_X7_judge_89 NN u0 se (nI n) p) NN (nI d) (nI (mkm (sldB A) (T 0 0))) 0 := by
      refine lq2_up (T 0 0) NN (fun i => nI (mkm (sldB A) i)) _ (by omega) (by omega) _ hM.1 _ _ (fun _ _ _ => rfl) rfl (fun rec i hi => ?_)
      try dsimp only
      rw [show (2 : Int32) = nI 2 from rfl, nI_add, px_rd (by omega) (by decide), hW (2 + i) (by omega), Option.bind_some, px_sh (by omega), px_or, px_0, px_or, Nat.or_zero]
      by_cases h : A (2 + i) = -9
      · rw [if_pos h, show mkm (sldB A) (i + 1) = mkm (sldB A) i by simp [mkm, sldB, h]]
      · rw [if_neg h, show mkm (sldB A) i ||| 2 ^ i = mkm (sldB A) (i + 1) by rw [← mkm_or]; simp [sldB, h]]
    unfold f_X7_judge
    rw [in8, if_neg g1, if_neg g2, Option.bind_some, if_neg (by decide), rf_power (by decide) hn, Option.bind_some, i64_0, rf_in, Option.bind_some, px_rd0 (by decide) (by decide), hW 0 (by decide), ed, Option.bind_some, show lq2 (g_X7_judge_44 NN u0 se (nI n) p (nI d)) NN 0 0 = _ from lp]
    by_cases c1 : p < 0
    · rw [if_pos c1, if_pos c1, if_pos rfl]
    · rw [if_neg c1, if_neg c1]
      by_cases c2 : nI (10 ^ n) - 1 < p
      · rw [if_pos c2, if_pos c2, if_pos rfl]
      · rw [if_neg c2, if_neg c2, if_neg (by decide)]
  rcases pk_ix p1 (n := 10 ^ n) (by omega) with hb | hb | ⟨row, hrow, rfl⟩
  · exact ⟨-2, by rw [pre6, if_pos hb], by rw [pre7, if_pos hb], hR⟩
  · refine ⟨-2, ?_, ?_, hR⟩
    · rw [pre6, if_neg (show ¬ p1 < nI (10 ^ n) from Int32.not_lt.mpr hb)]; split <;> rfl
    · rw [pre7, if_pos ((nI_m1 (by omega) p1).mpr hb)]; split <;> rfl
  have run : ∀ m k fuel day sold, k + m = n → m < fuel → day ≤ 9 → sold < 16 → ∃ r, lq3 (g_X6_judge_50 NN c0 sd (nI n) (nI row)) fuel (nI day) (nI sold) (nI k) = some r ∧ lq3 (g_X7_judge_89 NN u0 se (nI n) (nI row)) fuel (nI day) (nI sold) (nI k) = some r := by
    intro m
    induction m with
    | zero =>
      intro k fuel day sold h1 h2 h3 h5
      obtain ⟨f, rfl⟩ : ∃ f, fuel = f + 1 := ⟨fuel - 1, by omega⟩
      have : k = n := by omega
      subst this
      refine ⟨-9, ?_, ?_⟩
      · simp only [lq3]; unfold g_X6_judge_50; rw [if_pos (Int32.le_refl _)]
      · simp only [lq3]; unfold g_X7_judge_89; rw [if_pos (Int32.le_refl _)]
    | succ m ih =>
      intro k fuel day sold h1 h2 h3 h5
      obtain ⟨f, rfl⟩ : ∃ f, fuel = f + 1 := ⟨fuel - 1, by omega⟩
      obtain ⟨fg, hfg⟩ : ∃ fg, fg = row / 10 ^ (n - 1 - k) % 10 := ⟨_, rfl⟩
      have fg10 : fg < 10 := by rw [hfg]; exact Nat.mod_lt _ (by decide)
      have p10 : 10 ^ (n - 1 - k) ≤ 10 ^ 8 := Nat.pow_le_pow_right (by decide) (by omega)
      have p1 : 0 < 10 ^ (n - 1 - k) := Nat.pow_pos (by decide)
      have ih' := fun day' sold' => ih (k + 1) f day' sold' (by omega) (by omega)
      simp only [lq3]
      revert ih'
      generalize lq3 (g_X6_judge_50 NN c0 sd (nI n) (nI row)) f = r6
      generalize lq3 (g_X7_judge_89 NN u0 se (nI n) (nI row)) f = r7
      intro ih'
      have eC : g_X6_judge_50 NN c0 sd (nI n) (nI row) r6 (nI day) (nI sold) (nI k) = if nI fg = (4 : Int32) then (if (9 : Int32) ≤ nI day then g_X6_judge_86 NN c0 sd r6 (nI n) (nI row) (nI day) (nI sold) (nI k) (nI fg) else r6 (nI day + 1) (nI sold) (nI k + 1)) else g_X6_judge_86 NN c0 sd r6 (nI n) (nI row) (nI day) (nI sold) (nI k) (nI fg) := by
        unfold g_X6_judge_50
        rw [if_neg (nI_ge (by omega) (by omega)), px_1, pk_sub (by omega), pk_sub (by omega), ct_figure (by decide) (by omega) (by omega), Option.bind_some, ← hfg]
      have eR : g_X7_judge_89 NN u0 se (nI n) (nI row) r7 (nI day) (nI sold) (nI k) = if nI fg = (4 : Int32) then (if (9 : Int32) ≤ nI day then (g_X7_judge_165 NN u0 se r7 (nI n) (nI row) (nI day) (nI sold) (nI k) (nI fg) (0 : Int32)) else g_X7_judge_165 NN u0 se r7 (nI n) (nI row) (nI day) (nI sold) (nI k) (nI fg) (1 : Int32)) else (f_X7_isThing NN u0 se (nI fg)).bind fun r_2 => if r_2 = 0 then (g_X7_judge_165 NN u0 se r7 (nI n) (nI row) (nI day) (nI sold) (nI k) (nI fg) (0 : Int32)) else (f_X7_has NN (nI sold) (nI fg)).bind fun r_3 => if r_3 = 0 then ((f_X7_trueEnd NN u0 se (nI fg)).bind fun r_4 => if r_4 ≤ (nI day) then (g_X7_judge_165 NN u0 se r7 (nI n) (nI row) (nI day) (nI sold) (nI k) (nI fg) (0 : Int32)) else g_X7_judge_165 NN u0 se r7 (nI n) (nI row) (nI day) (nI sold) (nI k) (nI fg) (1 : Int32)) else g_X7_judge_165 NN u0 se r7 (nI n) (nI row) (nI day) (nI sold) (nI k) (nI fg) (0 : Int32) := by
        unfold g_X7_judge_89
        have hd1 : row / 10 ^ (n - 1 - k) ≤ row := Nat.div_le_self _ _
        have e1 : (nI n - 1) - nI k = nI (n - 1 - k) := by rw [px_1, pk_sub (by omega), pk_sub (by omega)]
        have e2 : nI row / nI (10 ^ (n - 1 - k)) = nI (row / 10 ^ (n - 1 - k)) := pk_div (by omega) p1 (by omega)
        have e3 : nI (row / 10 ^ (n - 1 - k)) - nI (row / 10 ^ (n - 1 - k)) / (10 : Int32) * (10 : Int32) = nI fg := by rw [hfg, show (10 : Int32) = nI 10 from rfl]; exact pk_rem (by omega) (by decide) (by decide)
        rw [if_neg (nI_ge (by omega) (by omega)), e1, rf_power (by decide) (by omega), Option.bind_some]
        unfold mk_nz
        rw [if_neg (nI_ne0 p1 (by omega)), Option.bind_some, e2, e3]
      rw [eC, eR]
      unfold g_X6_judge_86 g_X7_judge_165 g_X7_judge_187
      by_cases c4 : fg = 4
      · subst c4
        rw [if_pos (show nI 4 = 4 from rfl), if_pos (show nI 4 = 4 from rfl)]
        by_cases c9 : day = 9
        · subst c9
          refine ⟨nI k, ?_, ?_⟩
          · unfold f_X6_canSellWell
            rw [if_pos (by decide), ct_thing_f hC.1 (Or.inr (nI_le (by omega) (by omega))), Option.bind_some, if_pos rfl, Option.bind_some, if_pos rfl]
          · rw [if_pos (by decide), if_pos rfl]
        · rw [show (9 : Int32) = nI 9 from rfl, if_neg (nI_ge (by omega) (by omega)), if_neg (nI_ge (by omega) (by omega)), if_neg (by decide), if_pos (by rfl), if_pos (by rfl), show nI sold ||| (0 : Int32) = nI sold by rw [px_0, px_or, Nat.or_zero], nI_1, nI_1]
          exact ih' (day + 1) sold (by omega) h5
      · have c4' : ¬ nI fg = (4 : Int32) := fun z => c4 ((nI_eq (b := 4) (by omega) (by decide)).mp z)
        rw [if_neg c4', if_neg c4']
        unfold f_X6_canSellWell
        by_cases ct : fg < T 0 0
        · have h9 := tE_9 hT ct
          rw [ct_thing_t hT hC.1 ct, Option.bind_some, if_neg (show ¬ (1 : Int32) = 0 by decide), rf_thing_t hT hM ct, Option.bind_some, if_neg (show ¬ (1 : Int32) = 0 by decide), rf_has (by omega) (by omega), Option.bind_some, ct_trueEnd hT hC.1 ct, Option.bind_some, rf_trueEnd hT hM ct, Option.bind_some]
          by_cases cs : sold.testBit fg = true
          · refine ⟨nI k, ?_, ?_⟩
            · rw [if_neg (by rw [px_bit0 (by omega) (by omega), cs]; decide), Option.bind_some, if_pos rfl]
            · rw [if_neg (by rw [cs]; decide), if_pos rfl]
          · have cs' : sold.testBit fg = false := by simpa using cs
            rw [if_pos (show ((nI sold >>> (nI fg &&& 31)) &&& (1 : Int32)) = 0 by rw [px_bit0 (by omega) (by omega), cs']), if_pos (show (if sold.testBit fg = true then (1 : Int32) else 0) = 0 by rw [cs']; rfl)]
            by_cases ce : tE T fg ≤ day
            · refine ⟨nI k, ?_, ?_⟩
              · rw [if_pos (nI_le ce (by omega)), Option.bind_some, if_pos rfl]
              · rw [if_pos (nI_le ce (by omega)), if_pos rfl]
            · rw [if_neg (nI_ge (by omega) (by omega)), if_neg (nI_ge (by omega) (by omega)), Option.bind_some, if_neg (by decide), if_neg (by decide), if_neg c4', if_neg c4', px_sh (by omega), px_or, show nI day + (0 : Int32) = nI day by rw [px_0, nI_add]; rfl, nI_1]
              exact ih' day _ h3 (or2_lt h5 (by omega))
        · refine ⟨nI k, ?_, ?_⟩
          · rw [ct_thing_f hC.1 (Or.inr (nI_le (by omega) (by omega))), Option.bind_some, if_pos rfl, Option.bind_some, if_pos rfl]
          · rw [rf_thing_f hT hM (Or.inr (nI_le (by omega) (by omega))), Option.bind_some, if_pos rfl, if_pos rfl]
  have hsl := mkm_lt (sldB A) (T 0 0)
  obtain ⟨r, r1, r2⟩ := run n 0 NN d (mkm (sldB A) (T 0 0)) (by omega) (by omega) hd (by omega)
  refine ⟨r, ?_, ?_, hR⟩
  · rw [pre6, if_neg (nI_pos (by omega)), if_pos (nI_lt hrow (by omega))]; exact r1
  · rw [pre7, if_neg (nI_pos (by omega)), if_neg (by rw [nI_m1 (by omega)]; exact nI_ge hrow (by omega))]; exact r2
