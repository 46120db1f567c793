/-! step: share -/
def fct : Nat → Nat
  | 0 => 1
  | n + 1 => (n + 1) * fct n
theorem fct_le : ∀ n, n < 5 → fct n ≤ 24 ∧ 0 < fct n := by decide +kernel
theorem fct_6 : ∀ m, m < 5 → ∀ i, i < m → fct i * fct (m - 1 - i) ≤ 6 := by decide +kernel
theorem on_sub : ∀ c, c < 16 → ∀ i, i < 16 → ∀ a, a < 4 → (c &&& i = c ∧ i.testBit a = true ∧ c.testBit a = false) → on c + 1 ≤ on i := by decide +kernel
theorem ct_orders {N n : Nat} (hn : n < 5) : f_X1_orders N (nI n) = some (nI (fct n)) := by
  unfold f_X1_orders
  rw [if_neg (nI_pos (by omega)), show (5 : Int32) = nI 5 from rfl, if_pos (nI_lt hn (by decide)), px_rd hn (by decide), Option.bind_some]
  exact congrArg some ((by decide +kernel : ∀ n, n < 5 → mk_od n = nI (fct n)) n hn)
theorem rf_fact {N n : Nat} (hN : 700 ≤ N) (hn : n < 5) : f_X7_factorial N (nI n) = some (nI (fct n)) := by
  obtain ⟨m, rfl⟩ : ∃ m, N = m + 5 := ⟨N - 5, by omega⟩
  unfold f_X7_factorial
  have st : ∀ rec x j, j ≤ n → g_X7_factorial_4 (m + 5) (nI n) rec (nI x) (nI j) = rec (nI (x * j)) (nI (j + 1)) := by
    intro rec x j hj
    unfold g_X7_factorial_4
    rw [if_neg (nI_nlt hj (by omega)), pk_mul, nI_1]
  have en : ∀ rec x j, n < j → j < 9 → g_X7_factorial_4 (m + 5) (nI n) rec (nI x) (nI j) = some (nI x) := by
    intro rec x j hj h9
    unfold g_X7_factorial_4
    rw [if_pos (nI_lt hj (by omega))]
  simp only [lq2]
  rw [show (2 : Int32) = nI 2 from rfl, px_1]
  rcases (show n = 0 ∨ n = 1 ∨ n = 2 ∨ n = 3 ∨ n = 4 by omega) with rfl | rfl | rfl | rfl | rfl
  · rw [en _ 1 2 (by omega) (by omega)]; rfl
  · rw [en _ 1 2 (by omega) (by omega)]; rfl
  · rw [st _ 1 2 (by omega), en _ _ 3 (by omega) (by omega)]; rfl
  · rw [st _ 1 2 (by omega), st _ _ 3 (by omega), en _ _ 4 (by omega) (by omega)]; rfl
  · rw [st _ 1 2 (by omega), st _ _ 3 (by omega), st _ _ 4 (by omega), en _ _ 5 (by omega) (by omega)]; rfl
theorem stp_who {T : NT} {w w' : Nat} (h : ∀ i, w.testBit i = true → w'.testBit i = true) {dl : Nat → Nat} : ∀ {a s : Nat}, stp T w dl a = some s → stp T w' dl a = some s := by
  intro a
  induction a with
  | zero => intro s hs; exact hs
  | succ a ih =>
    intro s hs
    obtain ⟨q, h1, h2⟩ := stp_s.mp hs
    refine stp_s.mpr ⟨q, ih h1, ?_⟩
    unfold one at *
    by_cases c : 4 ≤ dl a
    · rw [if_pos c] at *; exact h2
    · rw [if_neg c] at *
      by_cases m : may T w a (dl a) q = true
      · rw [if_pos m] at h2
        obtain ⟨m1, m2, m3, m4, m5⟩ := may_iff.mp m
        rw [if_pos (may_iff.mpr ⟨m1, h a m2, m3, m4, m5⟩)]; exact h2
      · rw [if_neg m] at h2; cases h2
noncomputable def bB (T : NT) (W : Nat → Nat) (who : Nat) : Nat := Classical.epsilon (fun b => isB T who W b)
theorem bB_is {T : NT} {W : Nat → Nat} {who b : Nat} (h : isB T who W b) : bB T W who = b := isB_u (Classical.epsilon_spec (p := fun b => isB T who W b) ⟨b, h⟩) h
/-- what asker a's coming to c adds, times the orders -/
noncomputable def gO (T : NT) (W : Nat → Nat) (idle a c : Nat) : Nat := if c &&& idle = c ∧ c.testBit a = false then fct (on c) * fct (on idle - 1 - on c) * (W (bB T W (c ||| 2 ^ a)) - W (bB T W c)) else 0
theorem gO_t {T : NT} {W : Nat → Nat} {idle a c : Nat} (h1 : c &&& idle = c) (h2 : c.testBit a = false) : gO T W idle a c = fct (on c) * fct (on idle - 1 - on c) * (W (bB T W (c ||| 2 ^ a)) - W (bB T W c)) := if_pos ⟨h1, h2⟩
theorem gO_f {T : NT} {W : Nat → Nat} {idle a c : Nat} (h : ¬ (c &&& idle = c ∧ c.testBit a = false)) : gO T W idle a c = 0 := if_neg h
section SHARE
variable {T : NT} {u v l z : TU} {A : Nat → Int32} {N : Nat} {sd : Int64}
theorem bB_mono {W : Nat → Nat} {c a b b' : Nat} (h1 : isB T c W b) (h2 : isB T (c ||| 2 ^ a) W b') : W b ≤ W b' := by
  obtain ⟨dl, hb⟩ := h1.1
  have := h2.2 b ⟨dl, stp_who (fun i hi => by rw [Nat.testBit_or, hi]; rfl) hb⟩
  unfold bt at this
  omega
theorem or2_lt {c a : Nat} (hc : c < 16) (ha : a < 4) : c ||| 2 ^ a < 16 := Nat.or_lt_two_pow (n := 4) hc (Nat.pow_lt_pow_right (by decide) ha)
theorem cs_gain (hT : wfT T) (hC : CT0 v T) (hN : 700 ≤ N) {W : Nat → Nat} (hW : ∀ s, W s < 2 ^ 30) (hz : ∀ s, s < 2 ^ T 0 0 → z 1 s = nI (W s)) {idle a : Nat} (hi : idle < 2 ^ T 0 1) (ha : a < T 0 1) (hia : idle.testBit a = true) : f_X1_gainInAllOrders N z v (nI idle) (nI a) = some (nI (sm (gO T W idle a) (2 ^ T 0 1))) := by
  have h4 := hT.1
  have h16 := px_sh16 h4
  have hk := hT.2.1
  have hk16 := px_sh16 hk
  have best : ∀ who, who < 16 → ∃ M, f_X1_setsFor N z v (nI who) = some (nI M) ∧ f_X1_bestOf N z v (nI M) = some (nI (bB T W who)) ∧ isB T who W (bB T W who) := by
    intro who hw
    obtain ⟨M, m1, m2⟩ := cs_sets (z := z) (N := N) hT hC hN (show who < 2 ^ 31 by omega)
    obtain ⟨b, b1, b2⟩ := cs_best (N := N) hT hC hN m2 hW hz
    rw [← bB_is b2] at b1 b2
    exact ⟨M, m1, b1, b2⟩
  unfold f_X1_gainInAllOrders
  rw [ct_on (by omega), Option.bind_some]
  refine lq2_up (2 ^ T 0 1) N (fun i => nI (sm (gO T W idle a) i)) _ (by omega) (by omega) _ (by rw [hC.2.2.1, px_sh (by omega)]) _ _ (fun _ _ _ => rfl) rfl (fun rec c hc => ?_)
  try dsimp only
  simp only [sm]
  have hz1 := sub_i32 c (by omega) idle (by omega)
  by_cases c1 : c &&& idle = c
  · rw [if_pos (hz1.mpr c1)]
    by_cases c2 : c.testBit a = true
    · rw [if_neg (by rw [px_bit0 (by omega) (by omega), c2]; decide), gO_f (fun q => by rw [q.2] at c2; cases c2), Nat.add_zero]
    · have c3 : c.testBit a = false := by simpa using c2
      have ho := on_sub c (by omega) idle (by omega) a (by omega) ⟨c1, hia, c3⟩
      have ho4 := on_le idle
      obtain ⟨M, m1, m2, m3⟩ := best c (by omega)
      obtain ⟨M', n1, n2, n3⟩ := best (c ||| 2 ^ a) (or2_lt (by omega) (by omega))
      have hmono := bB_mono m3 n3
      have l1 := Rc_lt hT m3.1
      have l2 := Rc_lt hT n3.1
      unfold mk_nm
      dsimp only
      rw [if_pos (by rw [px_bit0 (by omega) (by omega), c3]), gO_t c1 c3, ct_on (by omega), Option.bind_some, m1, Option.bind_some, m2, Option.bind_some, px_rd (by omega) (by decide), Option.bind_some, px_sh (by omega), px_or, n1, Option.bind_some, n2, Option.bind_some, px_rd (by omega) (by decide), Option.bind_some, ct_orders (by omega), Option.bind_some, px_1, pk_sub (by omega), pk_sub (by omega), ct_orders (by omega), Option.bind_some, hz _ l1, hz _ l2, pk_sub hmono, pk_mul, pk_mul, nI_add, show on idle - on c - 1 = on idle - 1 - on c by omega]
  · rw [if_neg (fun q => c1 (hz1.mp q)), gO_f (fun q => c1 q.1), Nat.add_zero]
theorem gO_le (hT : wfT T) {d idle a c : Nat} (hi : idle < 16) (hc : c < 16) (ha : a < 4) (hia : idle.testBit a = true) : gO T (wth T A d) idle a c ≤ 69120000 := by
  unfold gO
  by_cases h : c &&& idle = c ∧ c.testBit a = false
  · rw [if_pos h]
    have ho := on_sub c hc idle hi a ha ⟨h.1, hia, h.2⟩
    have ho4 := on_le idle
    have h6 := fct_6 (on idle) (by omega) (on c) (by omega)
    have hw := wth_le hT A d (bB T (wth T A d) (c ||| 2 ^ a))
    have : fct (on c) * fct (on idle - 1 - on c) * (wth T A d (bB T (wth T A d) (c ||| 2 ^ a)) - wth T A d (bB T (wth T A d) c)) ≤ 6 * 11520000 := Nat.mul_le_mul h6 (by omega)
    omega
  · rw [if_neg h]; omega
theorem rf_gain (hT : wfT T) (hR : RT u T) (hN : 700 ≤ N) {W : Nat → Nat} (hW : ∀ s, W s < 2 ^ 30) (hz : ∀ s, s < 2 ^ T 0 0 → u 14 s = nI (W s)) {idle a : Nat} (hi : idle < 2 ^ T 0 1) (ha : a < T 0 1) (hia : idle.testBit a = true) (x2 x3 : Int32) : lq2 (g_X7_share_52 N u sd (nI a) x2 x3 (nI idle) (nI (on idle))) N (nI 0) (nI 0) = g_X7_share_152 N u sd x2 x3 (nI (on idle)) (nI (sm (gO T W idle a) (2 ^ T 0 1))) := by
  have h4 := hT.1
  have h16 := px_sh16 h4
  have hk := hT.2.1
  have hk16 := px_sh16 hk
  have best : ∀ who, who < 16 → f_X7_bestBy N u sd (nI who) = some (nI (bB T W who)) ∧ isB T who W (bB T W who) := by
    intro who hw
    obtain ⟨b, b1, b2⟩ := rf_best (sd := sd) (N := N) hT hR hN (show who < 2 ^ 31 by omega) hW hz
    rw [← bB_is b2] at b1 b2
    exact ⟨b1, b2⟩
  have e16 : sm (gO T W idle a) (2 ^ T 0 1) = sm (gO T W idle a) 16 := (sm_cut hk16 (fun c h1 _ => by
    unfold gO
    rw [if_neg]
    intro q
    have : c &&& idle ≤ idle := Nat.and_le_right
    rw [q.1] at this
    omega)).symm
  rw [e16]
  refine lq2_for 0 16 N (fun i => nI (sm (gO T W idle a) i)) _ (fun rec => ?_) (fun rec c _ hc => ?_) (by omega) (by omega)
  · unfold g_X7_share_52
    rw [if_pos (by decide)]
  · unfold g_X7_share_52
    simp only [sm]
    have hz1 := sub_i32 c (by omega) idle (by omega)
    rw [show (16 : Int32) = nI 16 from rfl, if_neg (nI_ge hc (by decide)), rf_has (by omega) (by omega), Option.bind_some, if_neg (by rw [hia]; decide), nI_1]
    by_cases c1 : c &&& idle = c
    · rw [if_pos (hz1.mpr c1), rf_has (by omega) (by omega), Option.bind_some]
      by_cases c2 : c.testBit a = true
      · rw [if_neg (by rw [c2]; decide), gO_f (fun q => by rw [q.2] at c2; cases c2)]; rfl
      · have c3 : c.testBit a = false := by simpa using c2
        have ho := on_sub c (by omega) idle (by omega) a (by omega) ⟨c1, hia, c3⟩
        have ho4 := on_le idle
        obtain ⟨m2, m3⟩ := best c (by omega)
        obtain ⟨n2, n3⟩ := best (c ||| 2 ^ a) (or2_lt (by omega) (by omega))
        have hmono := bB_mono m3 n3
        have l1 := Rc_lt hT m3.1
        have l2 := Rc_lt hT n3.1
        unfold mk_nm
        dsimp only
        rw [if_pos (by rw [c3]; rfl), gO_t c1 c3, rf_ones (by omega), Option.bind_some, rf_fact hN (by omega), Option.bind_some, Option.bind_some, px_sh (by omega), px_or, px_1, pk_sub (by omega), pk_sub (by omega), rf_fact hN (by omega), Option.bind_some, n2, Option.bind_some, px_rd (by omega) (by decide), Option.bind_some, m2, Option.bind_some, px_rd (by omega) (by decide), Option.bind_some, hz _ l1, hz _ l2, pk_sub hmono, pk_mul, pk_mul, nI_add]
    · rw [if_neg (fun q => c1 (hz1.mp q)), gO_f (fun q => c1 q.1)]; rfl
end SHARE

theorem st_share (c0 : CU) (sd : Int64) (u0 : TU) (se : Int64) (p0 p1 : Int32) (hR : Rel c0 sd u0 se) (_h2 : p1 = 0 ∨ p1 = 1) : ∃ (r : Int32) (c1 : CU) (mu1 : TU), f_X6_share NN c0 sd p0 p1 = some (r, c1) ∧ f_X7_share NN u0 se p0 p1 = some (r, mu1) ∧ Rel c1 sd mu1 se := by
  have hNN : NN = 1000 := rfl
  obtain ⟨e0, T, A, hA0⟩ := id hR
  obtain ⟨hT, hC, hM, hA, hL, hW, hx⟩ := id hA0
  have hk4 := hT.2.1
  have hk := px_sh16 hT.2.1
  have hil := idl_lt A (T 0 1)
  rcases ix2 p0 hT.2.1 with hb | ⟨a, ha, rfl⟩
  · refine ⟨-1, c0, u0, ?_, ?_, hR⟩
    · unfold f_X6_share; rw [ct_asker_f hC.1 hb]; rfl
    · unfold f_X7_share; rw [rf_asker_f hT hM hb]; rfl
  obtain ⟨d, hd, ed⟩ := hA.1
  have hp := prt_le hT (seenW T d)
  by_cases hz : prt T (seenW T d) = 0
  · refine ⟨-3, c0, u0, ?_, ?_, hR⟩
    · unfold f_X6_share; rw [ct_asker_t hT hC.1 ha, Option.bind_some, if_neg (by decide), ck_partsSeen hT hC hL hd ed, Option.bind_some, if_pos (by rw [hz]; rfl)]
    · unfold f_X7_share; rw [rf_asker_t hT hM ha, Option.bind_some, if_neg (by decide), px_rd0 (by decide) (by decide), hW 0 (by decide), ed, Option.bind_some, rf_parts0 hT hM (by decide) hd, Option.bind_some, if_pos (by rw [hz]; rfl)]
  obtain ⟨w, w1, w2, w3⟩ := rq_find (sd := se) (N := NN) hT hM hW (by decide) hd ed
  have hoi := on_le (idl A (T 0 1))
  have hf := fct_le (on (idl A (T 0 1))) (by omega)
  have pre7 : f_X7_share NN u0 se (nI a) p1 = lq2 (g_X7_share_52 NN w se (nI a) p1 (nI (prt T (seenW T d))) (nI (idl A (T 0 1))) (nI (on (idl A (T 0 1))))) NN (nI 0) (nI 0) := by
    unfold f_X7_share
    rw [rf_asker_t hT hM ha, Option.bind_some, if_neg (by decide), px_rd0 (by decide) (by decide), hW 0 (by decide), ed, Option.bind_some, rf_parts0 hT hM (by decide) hd, Option.bind_some, if_neg (fun q => hz ((nI_z (by omega)).mp q)), w1, Option.bind_some, rl_fresh hT (scr_RT w2 hM) (scr_now w2 hW) (by decide), Option.bind_some, rf_ones (by omega), Option.bind_some]
    rfl
  have below : ∀ m, m < 2 ^ 31 → g_X7_share_152 NN w se p1 (nI (prt T (seenW T d))) (nI (on (idl A (T 0 1)))) (nI m) = some (frc m (fct (on (idl A (T 0 1))) * prt T (seenW T d)) p1, w) := by
    intro m hm
    have hb1 : fct (on (idl A (T 0 1))) * prt T (seenW T d) ≤ 24 * 160000 := Nat.mul_le_mul hf.1 hp
    have hb0 : 0 < fct (on (idl A (T 0 1))) * prt T (seenW T d) := Nat.mul_pos hf.2 (by omega)
    unfold g_X7_share_152
    rw [rf_fact (by decide) (by omega), Option.bind_some, pk_mul, Nat.mul_comm (prt T (seenW T d))]
    exact rf_frac (by decide) p1 hm hb0 (by omega) (fun r => some (r, w))
  have pre6 : f_X6_share NN c0 sd (nI a) p1 = (if ((nI (idl A (T 0 1)) >>> (nI a &&& 31)) &&& (1 : Int32)) = 0 then ((f_X6_fraction NN (0 : Int32) (1 : Int32) p1).bind fun r_4 => some (r_4, c0)) else (f_X1_findWorths NN (c0 9) (c0 2) (c0 4)).bind fun r_5 => mk_nm (mk_set3 c0 9 (r_5)) fun w_6 => (f_X1_gainInAllOrders NN (w_6 9) (w_6 2) (nI (idl A (T 0 1))) (nI a)).bind fun r_7 => (f_J6_bitCount_0f7a4 NN (nI (idl A (T 0 1)))).bind fun r_8 => (f_X1_orders NN r_8).bind fun r_9 => (f_X6_fraction NN r_7 (r_9 * nI (prt T (seenW T d))) p1).bind fun r_10 => some (r_10, w_6)) := by
    unfold f_X6_share
    rw [ct_asker_t hT hC.1 ha, Option.bind_some, if_neg (by decide), ck_partsSeen hT hC hL hd ed, Option.bind_some, if_neg (fun q => hz ((nI_z (by omega)).mp q)), cl_idle hT hC.1 hL (by decide), Option.bind_some]
  by_cases c : (idl A (T 0 1)).testBit a = true
  · obtain ⟨z', z1, z2⟩ := cq_find (z := c0 9) (N := NN) hT hC hL (by decide) hd ed
    have hs : sm (gO T (wth T A d) (idl A (T 0 1)) a) (2 ^ T 0 1) < 2 ^ 31 := by
      have h1 := sm_le (g := gO T (wth T A d) (idl A (T 0 1)) a) (B := 69120000) (k := 2 ^ T 0 1) (fun i hi => gO_le hT (by omega) (by omega) (by omega) c)
      have : 2 ^ T 0 1 * 69120000 ≤ 16 * 69120000 := Nat.mul_le_mul_right _ hk
      omega
    have hb1 : fct (on (idl A (T 0 1))) * prt T (seenW T d) ≤ 24 * 160000 := Nat.mul_le_mul hf.1 hp
    have hb0 : 0 < fct (on (idl A (T 0 1))) * prt T (seenW T d) := Nat.mul_pos hf.2 (by omega)
    refine ⟨frc (sm (gO T (wth T A d) (idl A (T 0 1)) a) (2 ^ T 0 1)) (fct (on (idl A (T 0 1))) * prt T (seenW T d)) p1, mk_set3 c0 9 z', w, ?_, ?_, e0, T, A, scr_rel (c := mk_set3 c0 9 z') w2 hA0⟩
    · rw [pre6, if_neg (by rw [px_bit0 (by omega) (by omega), c]; decide), z1, Option.bind_some]
      unfold mk_nm
      show (f_X1_gainInAllOrders NN z' (c0 2) (nI (idl A (T 0 1))) (nI a)).bind _ = _
      rw [cs_gain hT hC.1 (by decide) (wth_30 hT A d) z2 hil ha c, Option.bind_some, ct_on (by omega), Option.bind_some, ct_orders (by omega), Option.bind_some, pk_mul, ct_fraction (by decide) p1 hs hb0 (by omega), Option.bind_some]
    · rw [pre7, rf_gain hT (scr_RT w2 hM) (by decide) (wth_30 hT A d) w3 hil ha c, below _ hs]
  · refine ⟨frc 0 1 p1, c0, w, ?_, ?_, e0, T, A, scr_rel w2 hA0⟩
    · rw [pre6, if_pos (by rw [px_bit0 (by omega) (by omega)]; simpa using c)]
      have := ct_fraction (N := NN) (a := 0) (b := 1) (by decide) p1 (by decide) (by decide) (by decide)
      rw [show f_X6_fraction NN 0 1 p1 = some (frc 0 1 p1) from this, Option.bind_some]
    · rw [pre7]
      have e1 : lq2 (g_X7_share_52 NN w se (nI a) p1 (nI (prt T (seenW T d))) (nI (idl A (T 0 1))) (nI (on (idl A (T 0 1))))) NN (nI 0) (nI 0) = g_X7_share_152 NN w se p1 (nI (prt T (seenW T d))) (nI (on (idl A (T 0 1)))) (nI 0) := by
        refine lq2_for 0 0 NN (fun _ => nI 0) _ (fun rec => ?_) (fun rec i _ hi => absurd hi (by omega)) (by omega) (by omega)
        unfold g_X7_share_52
        rw [if_neg (by decide), rf_has (by omega) (by omega), Option.bind_some, if_pos (by rw [if_neg c])]
      rw [e1, below 0 (by decide)]
      have hb0 : 0 < fct (on (idl A (T 0 1))) * prt T (seenW T d) := Nat.mul_pos hf.2 (by omega)
      unfold frc
      rw [Nat.gcd_zero_left, Nat.gcd_zero_left, Nat.div_self hb0, Nat.zero_div, Nat.zero_div, Nat.div_self (by decide)]
