/-! what is seen, kept, wise: both sides -/
def allB (P : Nat → Bool) : Nat → Bool
  | 0 => true
  | k + 1 => allB P k && P k
theorem allB_iff {P : Nat → Bool} {k : Nat} : allB P k = true ↔ ∀ i, i < k → P i = true := by
  induction k with
  | zero => simp [allB]
  | succ k ih =>
    simp only [allB, Bool.and_eq_true, ih]
    constructor
    · rintro ⟨h1, h2⟩ i hi
      rcases (show i < k ∨ i = k by omega) with h | rfl
      · exact h1 i h
      · exact h2
    · intro h; exact ⟨fun i hi => h i (by omega), h k (by omega)⟩
theorem allB_no {P : Nat → Bool} {k : Nat} (h : ¬ allB P k = true) : ∃ j, j < k ∧ P j = false ∧ ∀ i, i < j → P i = true := by
  induction k with
  | zero => simp [allB] at h
  | succ k ih =>
    by_cases h1 : allB P k = true
    · refine ⟨k, by omega, ?_, allB_iff.mp h1⟩
      simp only [allB, h1, Bool.true_and] at h
      simpa using h
    · obtain ⟨j, hj, r⟩ := ih h1
      exact ⟨j, by omega, r⟩
theorem allB_congr {P Q : Nat → Bool} {k : Nat} (h : ∀ i, i < k → P i = Q i) : allB P k = allB Q k := by
  induction k with
  | zero => rfl
  | succ k ih => simp only [allB]; rw [ih (fun i hi => h i (by omega)), h k (by omega)]
theorem lq1_all {w : Type} {b : (Int32 → Option w) → Int32 → Option w} (e N : Nat) (P : Nat → Bool) (r1 r0 : Option w) (hN : e < N) (he : e < 2 ^ 31) (B : Int32) (hB : B = nI e) (fin : Option w) (stp : (Int32 → Option w) → Int32 → Option w) (hb : ∀ rec x, b rec x = if B ≤ x then fin else stp rec x) (hx : fin = r1) (hs : ∀ rec i, i < e → stp rec (nI i) = if P i then rec (nI i + 1) else r0) : lq1 b N (nI 0) = if allB P e then r1 else r0 := by
  by_cases h : allB P e = true
  · rw [if_pos h]
    exact lq1_up e N r1 hN he B hB fin stp hb hx (fun rec i hi => by rw [hs rec i hi, if_pos (allB_iff.mp h i hi)])
  · obtain ⟨j, hj, hp, ht⟩ := allB_no h
    rw [if_neg h]
    refine lq1_for 0 j N r0 (fun rec => ?_) (fun rec i _ hi => ?_) (Nat.zero_le _) (by omega)
    · rw [hb, hB, if_neg (nI_ge hj he), hs rec j hj, hp]; rfl
    · rw [hb, hB, if_neg (nI_ge (by omega) he), hs rec i (by omega), if_pos (ht i hi), nI_1]
theorem xa0 {w m s k : Nat} (hs : s < 2 ^ k) : ((w ^^^ m) &&& s) = 0 ↔ ∀ i, i < k → s.testBit i = true → w.testBit i = m.testBit i := by
  constructor
  · intro h i _ hb
    have h2 : ((w ^^^ m) &&& s).testBit i = false := by rw [h]; simp
    rw [Nat.testBit_and, Nat.testBit_xor, hb, Bool.and_true] at h2
    revert h2
    cases w.testBit i <;> cases m.testBit i <;> simp
  · intro h
    apply Nat.eq_of_testBit_eq
    intro i
    rw [Nat.testBit_and, Nat.testBit_xor, Nat.zero_testBit]
    by_cases hi : i < k
    · cases hb : s.testBit i
      · simp
      · rw [h i hi hb]; cases m.testBit i <;> rfl
    · rw [Nat.testBit_lt_two_pow (Nat.lt_of_lt_of_le hs (Nat.pow_le_pow_right (by decide) (by omega)))]; simp
def seenB (T : NT) (d w i : Nat) : Bool := if tE T i ≤ d then w.testBit i == (T 5 i == 1) else decide (d < endOf T w i)
def seenW (T : NT) (d w : Nat) : Bool := okW T w && allB (seenB T d w) (T 0 0)
section TOWN2
variable {T : NT} {v : TU} {N : Nat}
theorem ct_others (hT : wfT T) (hC : CT0 v T) (hN : 700 ≤ N) {d w E : Nat} (hd : d ≤ 9) (hw : w < 2 ^ 31) (hE : E < 2 ^ 31) : f_X5_othersEndAfter N v (nI w) (nI E) (nI d) = some (if allB (fun i => E.testBit i || decide (d < endOf T w i)) (T 0 0) then 1 else 0) := by
  have h4 := hT.1
  unfold f_X5_othersEndAfter
  rw [show (some (if allB (fun i => E.testBit i || decide (d < endOf T w i)) (T 0 0) then (1 : Int32) else 0)) = (if allB (fun i => E.testBit i || decide (d < endOf T w i)) (T 0 0) then some 1 else some 0) by split <;> rfl]
  refine lq1_all (T 0 0) N (fun i => E.testBit i || decide (d < endOf T w i)) _ _ (by omega) (by omega) _ hC.1 _ _ (fun _ _ => rfl) rfl (fun rec i hi => ?_)
  try dsimp only
  have h9 := endOf_9 hT (w := w) hi
  rw [ct_endIn hT hC hw hi]
  simp only [Option.bind_some]
  by_cases h1 : E.testBit i = true
  · rw [if_neg (by rw [px_bit0 hE (by omega), h1]; decide)]; simp [h1]
  · rw [if_pos (by rw [px_bit0 hE (by omega)]; simpa using h1)]
    by_cases h2 : d < endOf T w i
    · rw [if_pos (nI_lt h2 (by omega))]; simp [h2]
    · rw [if_neg (nI_nlt (by omega) (by omega))]; simp [h1, h2]
theorem ct_seen (hT : wfT T) (hC : CT v T) (hN : 700 ≤ N) {d : Nat} (hd : d ≤ 9) : f_X5_worldsSeenOn N v (nI d) = some (nI (mkm (seenW T d) (2 ^ T 0 0))) := by
  have h4 := hT.1
  have h16 := px_sh16 h4
  have hE := mkm_lt (fun i => decide (tE T i ≤ d)) (T 0 0)
  have hE31 := mkm_31 (fun i => decide (tE T i ≤ d)) (k := T 0 0) (by omega)
  unfold f_X5_worldsSeenOn
  rw [ct_ended hT hC.1 hN hd]
  simp only [Option.bind_some]
  rw [hC.2.1, hC.1.2.1, ct_like hT hC.1 hN _ hE31]
  simp only [Option.bind_some]
  refine lq2_up (2 ^ T 0 0) N (fun i => nI (mkm (seenW T d) i)) _ (by omega) (by omega) _ (by rw [hC.1.1, px_sh (by omega)]) _ _ (fun _ _ _ => rfl) rfl (fun rec i hi => ?_)
  try dsimp only
  rw [ct_others hT hC.1 hN hd (by omega) hE31, px_sh (by omega), px_or]
  simp only [Option.bind_some]
  have key : seenW T d i = ((okW T i && (((i ^^^ trm T) &&& mkm (fun i => decide (tE T i ≤ d)) (T 0 0)) == 0)) && allB (fun j => (mkm (fun i => decide (tE T i ≤ d)) (T 0 0)).testBit j || decide (d < endOf T i j)) (T 0 0)) := by
    unfold seenW
    rw [Bool.and_assoc]
    congr 1
    rw [Bool.eq_iff_iff, Bool.and_eq_true, allB_iff, allB_iff, beq_iff_eq, xa0 hE]
    constructor
    · intro h
      refine ⟨fun j hj hb => ?_, fun j hj => ?_⟩
      · rw [mkm_bit] at hb
        have hb2 : tE T j ≤ d := by simpa [hj] using hb
        have := h j hj
        unfold seenB at this
        rw [if_pos hb2] at this
        rw [trm_bit hj]
        exact beq_iff_eq.mp this
      · rw [mkm_bit]
        have := h j hj
        unfold seenB at this
        by_cases hb2 : tE T j ≤ d
        · simp [hj, hb2]
        · rw [if_neg hb2] at this; simp [this]
    · rintro ⟨h1, h2⟩ j hj
      unfold seenB
      by_cases hb2 : tE T j ≤ d
      · rw [if_pos hb2, beq_iff_eq, ← trm_bit hj]
        exact h1 j hj (by rw [mkm_bit]; simp [hj, hb2])
      · rw [if_neg hb2]
        have := h2 j hj
        rw [mkm_bit] at this
        simpa [hj, hb2] using this
  have hb : ((nI (mkm (fun w => okW T w && (((w ^^^ trm T) &&& mkm (fun i => decide (tE T i ≤ d)) (T 0 0)) == 0)) (2 ^ T 0 0)) >>> (nI i &&& 31)) &&& (1 : Int32)) = 0 ↔ (okW T i && (((i ^^^ trm T) &&& mkm (fun i => decide (tE T i ≤ d)) (T 0 0)) == 0)) = false := by
    rw [px_bit0 (mkm_31 _ (by omega)) (by omega), mkm_bit]; simp [hi]
  cases h1 : (okW T i && (((i ^^^ trm T) &&& mkm (fun i => decide (tE T i ≤ d)) (T 0 0)) == 0))
  · rw [if_pos (hb.mpr h1), show mkm (seenW T d) (i + 1) = mkm (seenW T d) i by simp [mkm, key, h1]]
  · rw [if_neg (fun q => by rw [hb.mp q] at h1; cases h1)]
    cases h2 : allB (fun j => (mkm (fun i => decide (tE T i ≤ d)) (T 0 0)).testBit j || decide (d < endOf T i j)) (T 0 0)
    · simp only [Bool.false_eq_true, if_false, if_true]
      rw [show mkm (seenW T d) (i + 1) = mkm (seenW T d) i by simp only [mkm, key, h1, h2]; simp]
    · simp only [if_true]
      rw [if_neg (by decide), show mkm (seenW T d) i ||| 2 ^ i = mkm (seenW T d) (i + 1) by rw [← mkm_or, key, h1, h2]; simp]
/-- COINS of keeping a thing that ends on day e, worth c, from day d to day k -/
def kp (c e d k : Nat) : Nat := (min e k - d) + (if k < e then c else 0)
theorem kp_le {c e d k : Nat} (hc : c ≤ 9) (he : e ≤ 9) : kp c e d k ≤ 18 := by
  unfold kp
  have : min e k ≤ e := Nat.min_le_left _ _
  split <;> omega
theorem ct_coins (hT : wfT T) (hC : CT0 v T) {i e d k : Nat} (hi : i < T 0 0) (he : e ≤ 9) (hd : d ≤ k) (hk : k ≤ 9) : f_X5_coinsKept N v (nI i) (nI e) (nI d) (nI k) = some (nI (kp (T 4 i) e d k)) := by
  have h4 := hT.1
  obtain ⟨-, -, -, e4⟩ := hC.2.2.2.2.1 i hi
  unfold f_X5_coinsKept g_X5_coinsKept_12 kp
  rw [px_rd (by omega) (by decide), e4]
  simp only [Option.bind_some]
  by_cases h1 : k ≤ e
  · rw [if_pos (nI_le h1 (by omega))]
    by_cases h2 : e ≤ k
    · have : e = k := by omega
      subst this
      rw [if_pos (Int32.le_refl _), pk_sub hd]
      by_cases h3 : e - d = 0
      · rw [h3, if_pos (by decide)]; simp [h3]; rfl
      · rw [if_neg (nI_nle (by omega) (by omega))]; simp
    · rw [if_neg (nI_ge (by omega) (by omega)), pk_sub hd, nI_add, if_pos (by omega), Nat.min_eq_right h1]
  · rw [if_neg (nI_ge (by omega) (by omega)), if_pos (nI_le (by omega) (by omega)), if_neg (show ¬ k < e by omega), Nat.min_eq_left (by omega)]
    by_cases h3 : d ≤ e
    · rw [pk_sub h3]
      by_cases h5 : e - d = 0
      · rw [h5, if_pos (by decide)]; rfl
      · rw [if_neg (nI_nle (by omega) (by omega))]; simp
    · rw [if_pos (Int32.le_of_lt (pk_sneg (by omega) (by omega)))]
      rw [show e - d = 0 by omega]; rfl
def prt (T : NT) (P : Nat → Bool) : Nat := sm (fun w => if P w then wt T w else 0) (2 ^ T 0 0)
def gn (T : NT) (P : Nat → Bool) (i d k : Nat) : Nat := sm (fun w => if P w then wt T w * kp (T 4 i) (endOf T w i) d k else 0) (2 ^ T 0 0)
theorem gn_split (P : Nat → Bool) (i d k : Nat) : gn T P i d k = sm (fun w => if P w && !w.testBit i then wt T w else 0) (2 ^ T 0 0) * kp (T 4 i) (T 1 i) d k + (prt T P - sm (fun w => if P w && !w.testBit i then wt T w else 0) (2 ^ T 0 0)) * kp (T 4 i) (T 2 i) d k ∧ sm (fun w => if P w && !w.testBit i then wt T w else 0) (2 ^ T 0 0) ≤ prt T P := by
  unfold gn prt endOf
  generalize 2 ^ T 0 0 = K
  induction K with
  | zero => simp [sm]
  | succ K ih =>
    obtain ⟨h1, h2⟩ := ih
    simp only [sm]
    generalize sm (fun w => if P w && !w.testBit i then wt T w else 0) K = a at *
    generalize sm (fun w => if P w then wt T w else 0) K = b at *
    rw [h1]
    cases hp : P K <;> cases hb : K.testBit i
    · simp; exact h2
    · simp; exact h2
    · simp only [Bool.not_false, Bool.and_true, if_true, Bool.false_eq_true, if_false]
      refine ⟨?_, by omega⟩
      rw [show b + wt T K - (a + wt T K) = b - a by omega, Nat.add_mul]; omega
    · simp only [Bool.not_true, Bool.and_false, if_true, Bool.false_eq_true, if_false, Nat.add_zero]
      refine ⟨?_, by omega⟩
      rw [show b + wt T K - a = (b - a) + wt T K by omega, Nat.add_mul]; omega
theorem wtL_le (hT : wfT T) (w : Nat) : ∀ i, i ≤ T 0 0 → wtL T w i ≤ 10 ^ i := by
  intro i
  induction i with
  | zero => intro _; simp [wtL]
  | succ i ih =>
    intro hi
    have h3 := (hT.2.2.2.1 i (by omega)).2.2.2.1
    simp only [wtL, Nat.pow_succ]
    exact Nat.mul_le_mul (ih (by omega)) (by split <;> omega)
theorem wt_le (hT : wfT T) (w : Nat) : wt T w ≤ 10000 := Nat.le_trans (wtL_le hT w _ (Nat.le_refl _)) (Nat.le_trans (Nat.pow_le_pow_right (by decide) hT.1) (by decide))
theorem prt_le (hT : wfT T) (P : Nat → Bool) : prt T P ≤ 160000 := by
  have h := sm_le (g := fun w => if P w then wt T w else 0) (B := 10000) (k := 2 ^ T 0 0) (fun i _ => by have := wt_le hT i; (try dsimp only); split <;> omega)
  have := px_sh16 hT.1
  unfold prt
  have : 2 ^ T 0 0 * 10000 ≤ 16 * 10000 := Nat.mul_le_mul_right _ this
  omega
theorem gn_le (hT : wfT T) (P : Nat → Bool) {i : Nat} (hi : i < T 0 0) (d k : Nat) : gn T P i d k ≤ 2880000 := by
  have h := sm_le (g := fun w => if P w then wt T w * kp (T 4 i) (endOf T w i) d k else 0) (B := 180000) (k := 2 ^ T 0 0) (fun w _ => by
    have h1 := wt_le hT w
    have h2 : kp (T 4 i) (endOf T w i) d k ≤ 18 := kp_le (hT.2.2.2.1 i hi).2.2.2.2.2.1 (endOf_9 hT hi)
    have h3 : wt T w * kp (T 4 i) (endOf T w i) d k ≤ 10000 * 18 := Nat.mul_le_mul h1 h2
    (try dsimp only); split <;> omega)
  have := px_sh16 hT.1
  unfold gn
  have : 2 ^ T 0 0 * 180000 ≤ 16 * 180000 := Nat.mul_le_mul_right _ this
  omega
def bst (g : Nat → Nat) (d : Nat) : Nat → Nat
  | 0 => d
  | m + 1 => if g (bst g d m) < g (d + m + 1) then d + m + 1 else bst g d m
theorem bst_le (g : Nat → Nat) (d m : Nat) : d ≤ bst g d m ∧ bst g d m ≤ d + m := by
  induction m with
  | zero => simp [bst]
  | succ m ih => simp only [bst]; split <;> omega
theorem bst_congr {g f : Nat → Nat} {d m : Nat} (h : ∀ k, d ≤ k → k ≤ d + m → g k = f k) : bst g d m = bst f d m := by
  induction m with
  | zero => rfl
  | succ m ih =>
    have e := ih (fun k h1 h2 => h k h1 (by omega))
    have b := bst_le f d m
    simp only [bst, e]
    rw [h _ b.1 (by omega), h (d + m + 1) (by omega) (by omega)]
def wsd (T : NT) (P : Nat → Bool) (i d : Nat) : Nat := bst (gn T P i d) d (9 - d)
theorem wsd_le {P : Nat → Bool} {i d : Nat} (hd : d ≤ 9) : d ≤ wsd T P i d ∧ wsd T P i d ≤ 9 := by
  have := bst_le (gn T P i d) d (9 - d)
  unfold wsd; omega
theorem ct_partsKept (hT : wfT T) (hC : CT0 v T) (P : Nat → Bool) {i d k : Nat} (hi : i < T 0 0) (hd : d ≤ k) (hk : k ≤ 9) : f_X5_partsKept N v (nI i) (nI (sm (fun w => if P w && !w.testBit i then wt T w else 0) (2 ^ T 0 0))) (nI (prt T P - sm (fun w => if P w && !w.testBit i then wt T w else 0) (2 ^ T 0 0))) (nI d) (nI k) = some (nI (gn T P i d k)) := by
  have h4 := hT.1
  obtain ⟨e1, e2, -, -⟩ := hC.2.2.2.2.1 i hi
  have hh := hT.2.2.2.1 i hi
  unfold f_X5_partsKept
  rw [px_rd (by omega) (by decide), px_rd (by omega) (by decide), e1, e2]
  simp only [Option.bind_some]
  rw [ct_coins hT hC hi (by omega) hd hk, ct_coins hT hC hi (by omega) hd hk]
  simp only [Option.bind_some]
  rw [pk_mul, pk_mul, nI_add, (gn_split P i d k).1]
theorem ct_bestDay (hT : wfT T) (hC : CT0 v T) (hN : 700 ≤ N) (P : Nat → Bool) {i d : Nat} (hi : i < T 0 0) (hd : d ≤ 9) : f_X5_bestDay N v (nI i) (nI (sm (fun w => if P w && !w.testBit i then wt T w else 0) (2 ^ T 0 0))) (nI (prt T P - sm (fun w => if P w && !w.testBit i then wt T w else 0) (2 ^ T 0 0))) (nI d) = some (nI (wsd T P i d)) := by
  unfold f_X5_bestDay
  have key := lq3_for (b := g_X5_bestDay_11 N v (nI i) (nI (sm (fun w => if P w && !w.testBit i then wt T w else 0) (2 ^ T 0 0))) (nI (prt T P - sm (fun w => if P w && !w.testBit i then wt T w else 0) (2 ^ T 0 0))) (nI d)) d 10 N (fun k => if k = d then nI d else nI (bst (gn T P i d) d (k - 1 - d))) (fun k => if k = d then -1 else nI (gn T P i d (bst (gn T P i d) d (k - 1 - d)))) (some (nI (wsd T P i d))) ?_ ?_ (by omega) (by omega)
  · simpa using key
  · intro rec
    unfold g_X5_bestDay_11
    rw [if_pos (by decide)]
    try dsimp only
    rw [if_neg (by omega)]
    unfold wsd
    rw [show 10 - 1 - d = 9 - d by omega]
  · intro rec k h1 h2
    unfold g_X5_bestDay_11
    try dsimp only
    rw [show (9 : Int32) = nI 9 from rfl, if_neg (nI_nlt (by omega) (by omega)), ct_partsKept hT hC P hi h1 (by omega), nI_1]
    simp only [Option.bind_some]
    have g1 := gn_le hT P hi d k
    by_cases hk : k = d
    · subst hk
      rw [if_pos rfl, if_pos rfl, if_neg (show ¬ k + 1 = k by omega), if_neg (show ¬ k + 1 = k by omega), show k + 1 - 1 - k = 0 by omega]
      rw [if_neg (fun q => absurd (Int32.le_trans (nI_pos' (show gn T P i k k < 2 ^ 31 by omega)) q) (by decide))]
      rfl
    · rw [if_neg hk, if_neg hk, if_neg (show ¬ k + 1 = d by omega), if_neg (show ¬ k + 1 = d by omega)]
      obtain ⟨m, rfl⟩ : ∃ m, k = d + m + 1 := ⟨k - d - 1, by omega⟩
      rw [show d + m + 1 - 1 - d = m by omega, show d + m + 1 + 1 - 1 - d = m + 1 by omega]
      have g2 := gn_le hT P hi d (bst (gn T P i d) d m)
      simp only [bst]
      by_cases hg : gn T P i d (bst (gn T P i d) d m) < gn T P i d (d + m + 1)
      · rw [if_neg (nI_ge hg (by omega)), if_pos hg]
      · rw [if_pos (nI_le (by omega) (by omega)), if_neg hg]
theorem ct_wise (hT : wfT T) (hC : CT v T) (hN : 700 ≤ N) (P : Nat → Bool) {i d : Nat} (hi : i < T 0 0) (hd : d ≤ 9) : f_X5_wiseDay N v (nI (mkm P (2 ^ T 0 0))) (nI i) (nI d) = some (nI (wsd T P i d)) := by
  have h2 := (gn_split (T := T) P i d 0).2
  unfold f_X5_wiseDay
  rw [ct_partsE hT hC hN P hi, ct_parts hT hC hN P]
  simp only [Option.bind_some]
  rw [show sm (fun w => if P w then wt T w else 0) (2 ^ T 0 0) = prt T P from rfl, pk_sub h2, ct_bestDay hT hC.1 hN P hi hd]
  rfl
theorem ct_keptW (hT : wfT T) (hC : CT v T) (hN : 700 ≤ N) (P : Nat → Bool) {i d : Nat} (hi : i < T 0 0) (hd : d ≤ 9) : f_X5_partsKeptWisely N v (nI (mkm P (2 ^ T 0 0))) (nI i) (nI d) = some (nI (gn T P i d (wsd T P i d))) := by
  have h2 := (gn_split (T := T) P i d 0).2
  have hw := wsd_le (T := T) (P := P) (i := i) hd
  unfold f_X5_partsKeptWisely
  rw [ct_partsE hT hC hN P hi, ct_parts hT hC hN P]
  simp only [Option.bind_some]
  rw [show sm (fun w => if P w then wt T w else 0) (2 ^ T 0 0) = prt T P from rfl, pk_sub h2, ct_bestDay hT hC.1 hN P hi hd]
  simp only [Option.bind_some]
  rw [ct_partsKept hT hC.1 P hi hw.1 hw.2]
  rfl
end TOWN2
