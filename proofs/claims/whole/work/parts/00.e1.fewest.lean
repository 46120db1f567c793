/-! step: fewest -/
theorem lq2_flag {w : Type} {b : (Int32 → Int32 → Option w) → Int32 → Int32 → Option w} (e N : Nat) (P : Nat → Bool) (fin : Int32 → Option w) (hN : e < N) (he : e < 2 ^ 31) (B : Int32) (hB : B = nI e) (stp : (Int32 → Int32 → Option w) → Int32 → Int32 → Option w) (hb : ∀ rec f x, b rec f x = if B ≤ x then fin f else if f = 0 then fin f else stp rec f x) (hs : ∀ rec i, i < e → stp rec 1 (nI i) = rec (if P i then 1 else 0) (nI i + 1)) : lq2 b N 1 0 = fin (if allB P e then 1 else 0) ∧ lq2 b N 0 0 = fin 0 := by
  have z : ∀ n i, lq2 b (n + 1) 0 (nI i) = fin 0 := by
    intro n i
    simp only [lq2]
    rw [hb]
    split
    · rfl
    · rw [if_pos rfl]
  constructor
  · by_cases h : allB P e = true
    · rw [if_pos h]
      exact lq2_up e N (fun _ => 1) _ hN he B hB fin (fun rec f x => if f = 0 then fin f else stp rec f x) hb rfl (fun rec i hi => by
        try dsimp only
        rw [if_neg (by decide), hs rec i hi, if_pos (allB_iff.mp h i hi)])
    · obtain ⟨j, hj, hp, ht⟩ := allB_no h
      rw [if_neg h]
      have run : ∀ m i n, i + m = j → m + 1 < n → lq2 b n 1 (nI i) = fin 0 := by
        intro m
        induction m with
        | zero =>
          intro i n h1 h2
          obtain ⟨n, rfl⟩ : ∃ n', n = n' + 2 := ⟨n - 2, by omega⟩
          have : i = j := by omega
          subst this
          rw [show lq2 b (n + 2) 1 (nI i) = b (lq2 b (n + 1)) 1 (nI i) from rfl, hb, hB, if_neg (nI_ge hj he), if_neg (by decide), hs _ i hj, hp, nI_1]
          exact z n (i + 1)
        | succ m ih =>
          intro i n h1 h2
          obtain ⟨n, rfl⟩ : ∃ n', n = n' + 1 := ⟨n - 1, by omega⟩
          rw [show lq2 b (n + 1) 1 (nI i) = b (lq2 b n) 1 (nI i) from rfl, hb, hB, if_neg (nI_ge (by omega) he), if_neg (by decide), hs _ i (by omega), if_pos (ht i (by omega)), nI_1]
          exact ih (i + 1) n (by omega) (by omega)
      exact run j 0 N (by omega) (by omega)
  · obtain ⟨n, rfl⟩ : ∃ n, N = n + 1 := ⟨N - 1, by omega⟩
    exact z n 0
def apP (T : NT) (d s : Nat) : Prop := ∀ w x, w < 2 ^ T 0 0 → x < w → seenW T d w = true → seenW T d x = true → ((w ^^^ x) &&& s) ≠ 0
theorem apP_s {T : NT} {d s : Nat} (h : apP T d s) : ∀ w x, w < 2 ^ T 0 0 → x < 2 ^ T 0 0 → w ≠ x → seenW T d w = true → seenW T d x = true → ((w ^^^ x) &&& s) ≠ 0 := by
  intro w x hw hx hne h1 h2
  rcases (show x < w ∨ w < x by omega) with g | g
  · exact h w x hw g h1 h2
  · rw [Nat.xor_comm]; exact h x w hx g h2 h1
theorem sm_b0 {P : Nat → Bool} {K : Nat} : sm (fun w => if P w then 1 else 0) K = 0 ↔ ∀ x, x < K → P x = false := by
  induction K with
  | zero => simp [sm]
  | succ K ih =>
    simp only [sm]
    constructor
    · intro h x hx
      rcases (show x < K ∨ x = K by omega) with g | rfl
      · exact ih.mp (by omega) x g
      · cases hp : P x
        · rfl
        · rw [hp] at h; simp at h
    · intro h
      rw [ih.mpr (fun x hx => h x (by omega)), h K (by omega)]; rfl
theorem sm_b1 {P : Nat → Bool} {K : Nat} : sm (fun w => if P w then 1 else 0) K ≤ 1 ↔ ∀ w x, w < K → x < w → ¬ (P w = true ∧ P x = true) := by
  induction K with
  | zero => simp [sm]
  | succ K ih =>
    simp only [sm]
    constructor
    · intro h w x hw hx
      rcases (show w < K ∨ w = K by omega) with g | rfl
      · exact ih.mp (by omega) w x g hx
      · rintro ⟨h1, h2⟩
        rw [h1] at h
        have : sm (fun w => if P w then 1 else 0) w = 0 := by simp at h; exact h
        rw [sm_b0.mp this x hx] at h2
        cases h2
    · intro h
      have h1 := ih.mpr (fun w x hw hx => h w x (by omega) hx)
      cases hp : P K
      · simpa using h1
      · have : sm (fun w => if P w then 1 else 0) K = 0 := sm_b0.mpr (fun x hx => by
          cases hq : P x
          · rfl
          · exact absurd ⟨hp, hq⟩ (h K x (by omega) hx))
        rw [this]; simp
section FEWEST
variable {T : NT} {u v : TU} {A : Nat → Int32} {N : Nat} {sd : Int64}
theorem ct_apart (hT : wfT T) (hC : CT v T) (hN : 700 ≤ N) {d s : Nat} (hs : s < 2 ^ T 0 0) (P : Bool) (hP : P = true ↔ apP T d s) : f_X5_tellsApart N v (nI (mkm (seenW T d) (2 ^ T 0 0))) (nI s) = some (if P then 1 else 0) := by
  have h4 := hT.1
  have h16 := px_sh16 h4
  have key : allB (fun m => decide (cnt T (fun w => seenW T d w && (((w ^^^ m) &&& s) == 0)) ≤ 1)) (2 ^ T 0 0) = true ↔ apP T d s := by
    rw [allB_iff]
    constructor
    · intro h w x hw hx h1 h2 h3
      have hm := of_decide_eq_true (h w hw)
      refine sm_b1.mp hm w x hw hx ⟨?_, ?_⟩
      · rw [h1]; simp
      · rw [h2, Nat.xor_comm x w, h3]; rfl
    · intro h m hm
      refine decide_eq_true (sm_b1.mpr (fun w x hw hx => ?_))
      rintro ⟨g1, g2⟩
      rw [Bool.and_eq_true, beq_iff_eq] at g1 g2
      refine h w x hw hx g1.1 g2.1 ((xa0 hs).mpr (fun i hi hb => ?_))
      rw [(xa0 hs).mp g1.2 i hi hb, (xa0 hs).mp g2.2 i hi hb]
  rw [show (some (if P then (1 : Int32) else 0)) = (if allB (fun m => decide (cnt T (fun w => seenW T d w && (((w ^^^ m) &&& s) == 0)) ≤ 1)) (2 ^ T 0 0) then some 1 else some 0) by
    by_cases h : P = true
    · rw [if_pos h, if_pos (key.mpr (hP.mp h))]
    · rw [if_neg h, if_neg (fun q => h (hP.mpr (key.mp q)))]]
  unfold f_X5_tellsApart
  refine lq1_all (2 ^ T 0 0) N _ _ _ (by omega) (by omega) _ (by rw [hC.1.1, px_sh (by omega)]) _ _ (fun _ _ => rfl) rfl (fun rec m hm => ?_)
  try dsimp only
  rw [ct_like hT hC.1 hN _ (by omega), Option.bind_some, ct_count hT, Option.bind_some]
  have hc : cnt T (fun w => seenW T d w && (((w ^^^ m) &&& s) == 0)) ≤ 16 := by
    have := sm_le (g := fun w => if (seenW T d w && (((w ^^^ m) &&& s) == 0)) then 1 else 0) (B := 1) (k := 2 ^ T 0 0) (fun i _ => by (try dsimp only); split <;> omega)
    exact Nat.le_trans this (by omega)
  by_cases h : cnt T (fun w => seenW T d w && (((w ^^^ m) &&& s) == 0)) ≤ 1
  · rw [px_1, if_pos (nI_le h (by omega)), if_pos (decide_eq_true h)]
  · rw [px_1, if_neg (nI_ge (by omega) (by omega)), if_neg (by rw [decide_eq_true_iff]; exact h)]
theorem rf_apart (hT : wfT T) (hR : RT u T) (hW : nowR u A) (hN : 700 ≤ N) {d s : Nat} (hd : d ≤ 9) (ed : A 0 = nI d) (hs : s < 2 ^ T 0 0) (P : Bool) (hP : P = true ↔ apP T d s) (rec5 : Int32 → Int32 → Option Int32) (x1 : Int32) : lq2 (g_X7_fewest_41 N u sd rec5 x1 (nI s)) N 1 0 = (if P then rec5 (nI s) (nI (s + 1)) else rec5 x1 (nI (s + 1))) ∧ lq2 (g_X7_fewest_41 N u sd rec5 x1 (nI s)) N 0 0 = rec5 x1 (nI (s + 1)) := by
  have h4 := hT.1
  have h16 := px_sh16 h4
  have key : allB (fun w => allB (fun x => !(seenW T d (cw T w) && seenW T d (cw T x) && (((w ^^^ x) &&& s) == 0))) w) (2 ^ T 0 0) = true ↔ apP T d s := by
    rw [allB_iff]
    constructor
    · intro h w x hw hx h1 h2 h3
      have hcw := cw_lt (T := T) hw
      have hcx := cw_lt (T := T) (show x < 2 ^ T 0 0 by omega)
      have hne : cw T w ≠ cw T x := fun q => by have := congrArg (cw T) q; rw [cw_cw, cw_cw] at this; omega
      rcases (show cw T x < cw T w ∨ cw T w < cw T x by omega) with g | g
      · have := allB_iff.mp (h (cw T w) hcw) (cw T x) g
        rw [cw_cw, cw_cw, h1, h2, cw_xor, h3] at this
        cases this
      · have := allB_iff.mp (h (cw T x) hcx) (cw T w) g
        rw [cw_cw, cw_cw, h1, h2, cw_xor, Nat.xor_comm, h3] at this
        cases this
    · intro h w hw
      refine allB_iff.mpr (fun x hx => ?_)
      cases hb : (seenW T d (cw T w) && seenW T d (cw T x) && (((w ^^^ x) &&& s) == 0))
      · rfl
      · rw [Bool.and_eq_true, Bool.and_eq_true, beq_iff_eq] at hb
        refine absurd ?_ (apP_s h (cw T w) (cw T x) (cw_lt hw) (cw_lt (by omega)) (fun q => by have := congrArg (cw T) q; rw [cw_cw, cw_cw] at this; omega) hb.1.1 hb.1.2)
        rw [cw_xor]; exact hb.2
  obtain ⟨f1, f0⟩ := lq2_flag (b := g_X7_fewest_41 N u sd rec5 x1 (nI s)) (2 ^ T 0 0) N (fun w => allB (fun x => !(seenW T d (cw T w) && seenW T d (cw T x) && (((w ^^^ x) &&& s) == 0))) w) (fun x3 => g_X7_fewest_128 N u sd rec5 x1 (nI s) x3) (by omega) (by omega) _ (show _ = nI (2 ^ T 0 0) by rw [← px_sh (show T 0 0 < 31 by omega), ← hR.1]) (fun rec41 x3 x4 => lq2 (g_X7_fewest_59 N u sd rec5 rec41 x1 (nI s) x4) N x3 0) (fun _ _ _ => rfl) (fun rec41 w hw => by
    obtain ⟨i1, -⟩ := lq2_flag (b := g_X7_fewest_59 N u sd rec5 rec41 x1 (nI s) (nI w)) w N (fun x => !(seenW T d (cw T w) && seenW T d (cw T x) && (((w ^^^ x) &&& s) == 0))) (fun x3 => rec41 x3 (nI w + 1)) (by omega) (by omega) (nI w) rfl (fun rec59 x3 x5 => (mk_rd (u 11) 10 (0 : Int32)).bind fun v_1 => (f_X7_isSeenBy N u sd (nI w) v_1).bind fun r_2 => if r_2 = 0 then (g_X7_fewest_110 N u sd rec5 rec41 rec59 x1 (nI s) (nI w) x5) else (mk_rd (u 11) 10 (0 : Int32)).bind fun v_3 => (f_X7_isSeenBy N u sd x5 v_3).bind fun r_4 => if r_4 = 0 then (g_X7_fewest_110 N u sd rec5 rec41 rec59 x1 (nI s) (nI w) x5) else if ((nI w ^^^ x5) &&& nI s) = 0 then (rec59 (0 : Int32) (x5 + (1 : Int32))) else g_X7_fewest_110 N u sd rec5 rec41 rec59 x1 (nI s) (nI w) x5) (fun _ _ _ => rfl) (fun rec59 x hx => by
      unfold g_X7_fewest_110
      rw [px_rd0 (by decide) (by decide), hW 0 (by decide), ed, Option.bind_some, rf_seen hT hR hN hw hd, Option.bind_some, Option.bind_some, rf_seen hT hR hN (show x < 2 ^ T 0 0 by omega) hd, Option.bind_some]
      have hz : ((nI w ^^^ nI x) &&& nI s) = 0 ↔ ((w ^^^ x) &&& s) = 0 := by
        rw [px_xor, px_and, px_0]
        exact nI_eq (Nat.lt_of_le_of_lt Nat.and_le_right (by omega)) (by decide)
      cases c1 : seenW T d (cw T w)
      · rw [if_pos (by rfl)]; rfl
      · rw [if_neg (by decide)]
        cases c2 : seenW T d (cw T x)
        · rw [if_pos (by rfl)]; rfl
        · rw [if_neg (by decide)]
          by_cases c3 : ((w ^^^ x) &&& s) = 0
          · rw [if_pos (hz.mpr c3), c3]; rfl
          · rw [if_neg (fun q => c3 (hz.mp q)), show (((w ^^^ x) &&& s) == 0) = false from beq_eq_false_iff_ne.mpr c3]; rfl)
    exact i1)
  refine ⟨?_, ?_⟩
  · rw [f1]
    unfold g_X7_fewest_128
    rw [nI_1]
    by_cases h : P = true
    · rw [if_pos h, if_pos (key.mpr (hP.mp h)), if_neg (by decide)]
    · rw [if_neg h, if_neg (fun q => h (hP.mpr (key.mp q))), if_pos rfl]
  · rw [f0]
    unfold g_X7_fewest_128
    rw [nI_1, if_pos rfl]
end FEWEST
theorem on_full : ∀ n, n < 5 → ∀ i, i < 2 ^ n - 1 → on i < on (2 ^ n - 1) := by decide +kernel
def bFf (P : Nat → Bool) (full : Nat) : Nat → Nat
  | 0 => full
  | i + 1 => if on i < on (bFf P full i) ∧ P i = true then i else bFf P full i
def rFf (P : Nat → Bool) : Nat → Option Nat
  | 0 => none
  | i + 1 => match rFf P i with
    | none => if P i = true then some i else none
    | some b => if on i < on b ∧ P i = true then some i else some b
theorem bF_lt {P : Nat → Bool} {n : Nat} : ∀ i, i ≤ 2 ^ n → bFf P (2 ^ n - 1) i < 2 ^ n := by
  have h1 : 1 ≤ 2 ^ n := Nat.two_pow_pos _
  intro i
  induction i with
  | zero => intro _; simp only [bFf]; omega
  | succ i ih =>
    intro hi
    simp only [bFf]
    split
    · omega
    · exact ih (by omega)
theorem bF_rF {P : Nat → Bool} {n : Nat} (hn : n < 5) (hf : P (2 ^ n - 1) = true) : ∀ i, i ≤ 2 ^ n → (rFf P i = none ∧ bFf P (2 ^ n - 1) i = 2 ^ n - 1 ∧ i < 2 ^ n) ∨ rFf P i = some (bFf P (2 ^ n - 1) i) := by
  have h1 : 1 ≤ 2 ^ n := Nat.two_pow_pos _
  intro i
  induction i with
  | zero => intro _; exact Or.inl ⟨rfl, rfl, by omega⟩
  | succ i ih =>
    intro hi
    rcases ih (by omega) with ⟨r1, r2, r3⟩ | r1
    · simp only [rFf, bFf, r1, r2]
      by_cases ha : P i = true
      · right
        rw [if_pos ha]
        by_cases hfi : i = 2 ^ n - 1
        · rw [if_neg (by rw [← hfi]; omega), hfi]
        · rw [if_pos ⟨on_full n hn i (by omega), ha⟩]
      · left
        rw [if_neg ha, if_neg (fun q => ha q.2)]
        refine ⟨rfl, rfl, ?_⟩
        rcases (show i + 1 < 2 ^ n ∨ i + 1 = 2 ^ n by omega) with g | g
        · exact g
        · exact absurd (show P i = true by rw [show i = 2 ^ n - 1 by omega]; exact hf) ha
    · right
      simp only [rFf, bFf, r1]
      split <;> rfl
theorem st_fewest (c0 : CU) (sd : Int64) (u0 : TU) (se : Int64) (hR : Rel c0 sd u0 se) : ∃ (r : Int32), f_X6_fewest NN c0 sd = some r ∧ f_X7_fewest NN u0 se = some r ∧ Rel c0 sd u0 se := by
  have hNN : NN = 1000 := rfl
  obtain ⟨e0, T, A, hA0⟩ := id hR
  obtain ⟨hT, hC, hM, hA, hL, hW, hx⟩ := id hA0
  have h4 := hT.1
  have h16 := px_sh16 h4
  have h1 : 1 ≤ 2 ^ T 0 0 := Nat.two_pow_pos _
  obtain ⟨d, hd, ed⟩ := hA.1
  obtain ⟨P, hP⟩ : ∃ P : Nat → Bool, ∀ s, P s = true ↔ apP T d s := ⟨fun s => @decide (apP T d s) (Classical.propDecidable _), fun s => @decide_eq_true_iff _ (Classical.propDecidable _)⟩
  have apf : apP T d (2 ^ T 0 0 - 1) := by
    intro w x hw hx _ _ h
    have : w = x := by
      apply Nat.eq_of_testBit_eq
      intro i
      by_cases hi : i < T 0 0
      · exact (xa0 (k := T 0 0) (by omega)).mp h i hi (by rw [full_bit]; simp [hi])
      · rw [Nat.testBit_lt_two_pow (Nat.lt_of_lt_of_le hw (Nat.pow_le_pow_right (by decide) (by omega))), Nat.testBit_lt_two_pow (Nat.lt_of_lt_of_le (Nat.lt_trans hx hw) (Nat.pow_le_pow_right (by decide) (by omega)))]
    omega
  have rel := bF_rF (P := P) (n := T 0 0) (by omega) ((hP _).mpr apf)
  have bl := bF_lt (P := P) (n := T 0 0)
  have fin : rFf P (2 ^ T 0 0) = some (bFf P (2 ^ T 0 0 - 1) (2 ^ T 0 0)) := by
    rcases rel _ (Nat.le_refl _) with ⟨-, -, h⟩ | h
    · omega
    · exact h
  refine ⟨nI (bFf P (2 ^ T 0 0 - 1) (2 ^ T 0 0)), ?_, ?_, hR⟩
  · unfold f_X6_fewest
    rw [hL.1, ed, ct_seen hT hC (by decide) hd, Option.bind_some, hC.1.1, px_sh (by omega), px_1, pk_sub h1]
    refine lq2_up (2 ^ T 0 0) NN (fun i => nI (bFf P (2 ^ T 0 0 - 1) i)) _ (by omega) (by omega) _ (by rw [hC.1.1, px_sh (by omega)]) _ _ (fun _ _ _ => rfl) rfl (fun rec i hi => ?_)
    try dsimp only
    have hbl := bl i (by omega)
    have o1 := on_le i
    have o2 := on_le (bFf P (2 ^ T 0 0 - 1) i)
    rw [ct_on (by omega), Option.bind_some, ct_on (by omega), Option.bind_some, ct_apart hT hC (by decide) hi (P i) (hP i), Option.bind_some]
    simp only [bFf]
    by_cases c1 : on (bFf P (2 ^ T 0 0 - 1) i) ≤ on i
    · rw [if_pos (nI_le c1 (by omega)), if_neg (fun q => by omega)]
    · rw [if_neg (nI_ge (by omega) (by omega))]
      by_cases c2 : P i = true
      · rw [if_pos c2, if_neg (by decide), if_pos ⟨by omega, c2⟩]
      · rw [if_neg c2, if_pos rfl, if_neg (fun q => c2 q.2)]
  · unfold f_X7_fewest
    rw [show nI (bFf P (2 ^ T 0 0 - 1) (2 ^ T 0 0)) = enc (rFf P (2 ^ T 0 0)) by rw [fin]; rfl]
    refine lq2_up (2 ^ T 0 0) NN (fun i => enc (rFf P i)) _ (by omega) (by omega) _ (by rw [hM.1, px_sh (by omega)]) _ _ (fun _ _ _ => rfl) rfl (fun rec i hi => ?_)
    try dsimp only
    obtain ⟨a1, a0⟩ := rf_apart (sd := se) (N := NN) hT hM hW (by decide) hd ed hi (P i) (hP i) rec (enc (rFf P i))
    have hbl := bl i (by omega)
    have o1 := on_le i
    have o2 := on_le (bFf P (2 ^ T 0 0 - 1) i)
    unfold g_X7_fewest_32
    rw [nI_1, a1, a0]
    simp only [rFf]
    rcases rel i (by omega) with ⟨r1, -, -⟩ | r1
    · rw [r1, if_pos (by rfl)]
      by_cases c2 : P i = true
      · rw [if_pos c2, if_pos c2]; rfl
      · rw [if_neg c2, if_neg c2]
    · rw [r1, show enc (some (bFf P (2 ^ T 0 0 - 1) i)) = nI (bFf P (2 ^ T 0 0 - 1) i) from rfl, if_neg (nI_m9 (by omega)), rf_ones (by omega), Option.bind_some, rf_ones (by omega), Option.bind_some]
      dsimp only
      by_cases c1 : on (bFf P (2 ^ T 0 0 - 1) i) ≤ on i
      · rw [if_pos (nI_le c1 (by omega)), if_neg (fun q => by omega)]; rfl
      · rw [if_neg (nI_ge (by omega) (by omega))]
        by_cases c2 : P i = true
        · rw [if_pos c2, if_pos ⟨by omega, c2⟩]; rfl
        · rw [if_neg c2, if_neg (fun q => c2 q.2)]; rfl
