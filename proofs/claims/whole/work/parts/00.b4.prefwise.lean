/-! the reference: seen, possible, gives, wise -/
def heldW (T : NT) (d h w : Nat) : Bool := seenW T d w && (((w ^^^ trm T) &&& h) == 0)
theorem put_put (u : TU) (k j : Nat) (x y : Int32) : mk_put (mk_put u k j x) k j y = mk_put u k j y := by
  funext a b
  unfold mk_put
  by_cases h : a = k
  · subst h
    simp only [if_true]
    unfold upd
    by_cases h2 : b = j <;> simp [h2]
  · simp [h]
section REF2
variable {T : NT} {u : TU} {N : Nat} {sd : Int64}
theorem rf_endBy (hT : wfT T) (hR : RT u T) {x i : Nat} (hi : i < T 0 0) : f_X7_endBy N u sd (nI i) (if x.testBit i then 1 else 0) = some (nI (endOf T (cw T x) i)) := by
  have h4 := hT.1
  obtain ⟨e1, e2, -, -, -⟩ := hR.2.2.2.1 i hi
  unfold f_X7_endBy endOf
  rw [cw_bit hi, px_1, px_0, px_5, px_5, px_rd (by omega) (by decide), px_rd (by omega) (by decide), show 5 * i + 0 = 5 * i from rfl, e1, e2]
  cases x.testBit i <;> rfl
theorem rf_seen (hT : wfT T) (hR : RT u T) (hN : 700 ≤ N) {x d : Nat} (hx : x < 2 ^ T 0 0) (hd : d ≤ 9) : f_X7_isSeenBy N u sd (nI x) (nI d) = some (if seenW T d (cw T x) then 1 else 0) := by
  have h4 := hT.1
  have h16 := px_sh16 h4
  unfold f_X7_isSeenBy seenW
  rw [rf_isWorld hT hR hN hx]
  simp only [Option.bind_some]
  have key := lq2_up (b := g_X7_isSeenBy_9 N u sd (nI x) (nI d)) (T 0 0) N (fun i => if okW T (cw T x) && allB (seenB T d (cw T x)) i then (1 : Int32) else 0) (some (if okW T (cw T x) && allB (seenB T d (cw T x)) (T 0 0) then 1 else 0)) (by omega) (by omega) _ hR.1 _ _ (fun _ _ _ => rfl) (by rw [px_z]; rfl) (fun rec i hi => ?_)
  · simp only [allB, Bool.and_true] at key; exact key
  · try dsimp only [g_X7_isSeenBy_66]
    have hE := endOf_9 hT (w := cw T x) hi
    have h9 := tE_9 hT hi
    have hh := hT.2.2.2.1 i hi
    rw [rf_has (by omega) (by omega)]
    simp only [Option.bind_some]
    rw [rf_endBy hT hR hi, rf_trueEnd hT hR hi]
    simp only [Option.bind_some]
    rw [show (okW T (cw T x) && allB (seenB T d (cw T x)) (i + 1)) = ((okW T (cw T x) && allB (seenB T d (cw T x)) i) && seenB T d (cw T x) i) by simp [allB, Bool.and_assoc]]
    cases hq : (okW T (cw T x) && allB (seenB T d (cw T x)) i)
    · simp
    · simp only [if_true, Bool.true_and]
      rw [if_neg (by decide)]
      unfold seenB
      by_cases h1 : tE T i ≤ d
      · rw [if_pos (nI_le h1 (by omega)), if_pos h1]
        have e : nI (endOf T (cw T x) i) = nI (tE T i) ↔ (cw T x).testBit i = (T 5 i == 1) := by
          rw [nI_eq (by omega) (by omega)]
          unfold endOf tE
          cases hb : (cw T x).testBit i <;> by_cases h5 : T 5 i = 1 <;> simp [h5] <;> omega
        by_cases h2 : (cw T x).testBit i = (T 5 i == 1)
        · rw [if_pos (e.mpr h2), h2]; simp
        · rw [if_neg (fun q => h2 (e.mp q))]; simp [h2]
      · rw [if_neg (nI_ge (by omega) (by omega)), if_neg h1]
        by_cases h2 : d < endOf T (cw T x) i
        · rw [if_neg (nI_ge h2 (by omega))]; simp [h2]
        · rw [if_pos (nI_le (by omega) (by omega))]; simp [h2]
theorem cw_trm (hT : wfT T) : mkm (fun i => T 5 i == 0) (T 0 0) = cw T (trm T) := by
  apply Nat.eq_of_testBit_eq
  intro i
  rw [mkm_bit]
  by_cases hi : i < T 0 0
  · have h5 := (hT.2.2.2.1 i hi).2.2.2.2.2.2
    rw [cw_bit hi, trm_bit hi]
    rcases (show T 5 i = 0 ∨ T 5 i = 1 by omega) with h | h <;> simp [hi, h]
  · unfold cw trm
    rw [Nat.testBit_xor, full_bit, mkm_bit]
    simp [hi]
theorem rf_truth (hT : wfT T) (hR : RT u T) (hN : 700 ≤ N) : f_X7_truth N u sd = some (nI (cw T (trm T))) := by
  have h4 := hT.1
  rw [← cw_trm hT]
  unfold f_X7_truth
  refine lq2_up (T 0 0) N (fun i => nI (mkm (fun i => T 5 i == 0) i)) _ (by omega) (by omega) _ hR.1 _ _ (fun _ _ _ => rfl) rfl (fun rec i hi => ?_)
  try dsimp only
  obtain ⟨-, -, -, -, e5⟩ := hR.2.2.2.1 i hi
  have h5 := (hT.2.2.2.1 i hi).2.2.2.2.2.2
  rw [show (4 : Int32) = nI 4 from rfl, px_5, px_rd (by omega) (by decide), e5, px_sh (by omega), px_or]
  simp only [Option.bind_some]
  rcases (show T 5 i = 0 ∨ T 5 i = 1 by omega) with h | h
  · rw [h, if_pos (show nI 0 = 0 from rfl), show mkm (fun i => T 5 i == 0) i ||| 2 ^ i = mkm (fun i => T 5 i == 0) (i + 1) by rw [← mkm_or]; simp [h]]
  · rw [h, if_neg (show ¬ nI 1 = 0 by decide), px_0, px_or, Nat.or_zero, show mkm (fun i => T 5 i == 0) (i + 1) = mkm (fun i => T 5 i == 0) i by simp [mkm, h]]
theorem cw_xor (x y : Nat) : cw T x ^^^ cw T y = x ^^^ y := by
  unfold cw
  apply Nat.eq_of_testBit_eq
  intro i
  simp only [Nat.testBit_xor]
  cases x.testBit i <;> cases y.testBit i <;> cases (2 ^ T 0 0 - 1).testBit i <;> rfl
theorem rf_possible (hT : wfT T) (hR : RT u T) (hN : 700 ≤ N) {x d h : Nat} (hx : x < 2 ^ T 0 0) (hd : d ≤ 9) (hh : h < 2 ^ 31) : f_X7_isPossible N u sd (nI x) (nI d) (nI h) = some (if heldW T d h (cw T x) then 1 else 0) := by
  unfold f_X7_isPossible heldW
  rw [rf_seen hT hR hN hx hd, rf_truth hT hR hN]
  simp only [Option.bind_some]
  have e : ((nI x ^^^ nI (cw T (trm T))) &&& nI h) = 0 ↔ ((cw T x ^^^ trm T) &&& h) = 0 := by
    rw [px_xor, px_and, px_0, nI_eq (Nat.lt_of_le_of_lt Nat.and_le_right hh) (by decide), show x ^^^ cw T (trm T) = cw T x ^^^ trm T by rw [← cw_xor (T := T) x (cw T (trm T)), cw_cw]]
  cases seenW T d (cw T x)
  · rfl
  · simp only [if_true, Bool.true_and]
    rw [if_neg (by decide)]
    by_cases h2 : ((cw T x ^^^ trm T) &&& h) = 0
    · rw [if_pos (e.mpr h2)]; simp [h2]
    · rw [if_neg (fun q => h2 (e.mp q))]; simp [h2]
theorem rf_partsBy (hT : wfT T) (hR : RT u T) (hN : 700 ≤ N) {d h : Nat} (hd : d ≤ 9) (hh : h < 2 ^ 31) : f_X7_partsBy N u sd (nI d) (nI h) = some (nI (prt T (heldW T d h))) := by
  have h4 := hT.1
  have h16 := px_sh16 h4
  unfold f_X7_partsBy prt
  rw [← sm_cw hT]
  refine lq2_up (2 ^ T 0 0) N (fun i => nI (sm (fun x => if heldW T d h (cw T x) then wt T (cw T x) else 0) i)) _ (by omega) (by omega) _ (by rw [hR.1, px_sh (by omega)]) _ _ (fun _ _ _ => rfl) rfl (fun rec i hi => ?_)
  try dsimp only
  rw [rf_possible hT hR hN hi hd hh, rf_partsOf hT hR hN hi]
  simp only [Option.bind_some, sm]
  cases heldW T d h (cw T i)
  · simp
  · simp only [if_true]; rw [if_neg (by decide), nI_add]
theorem RT_put11 (hR : RT u T) (y : Int32) : RT (mk_put u 0 11 y) T := hR
theorem rf_layPossible (hT : wfT T) (hR : RT u T) (hN : 700 ≤ N) {d h : Nat} (hd : d ≤ 9) (hh : h < 2 ^ 31) : f_X7_layPossible N u sd (nI d) (nI h) = some (mk_put u 0 11 (nI (mkm (fun x => heldW T d h (cw T x)) (2 ^ T 0 0)))) := by
  have h4 := hT.1
  have h16 := px_sh16 h4
  unfold f_X7_layPossible mk_nm
  refine lq2_for 0 (2 ^ T 0 0) N (fun i => mk_put u 0 11 (nI (mkm (fun x => heldW T d h (cw T x)) i))) _ (fun rec => ?_) (fun rec i _ hi => ?_) (Nat.zero_le _) (by omega)
  · unfold g_X7_layPossible_7
    rw [show (mk_put u 0 11 (nI (mkm (fun x => heldW T d h (cw T x)) (2 ^ T 0 0)))) 0 0 = nI (T 0 0) from hR.1, px_sh (by omega), if_pos (Int32.le_refl _)]
  · unfold g_X7_layPossible_7
    rw [show (mk_put u 0 11 (nI (mkm (fun x => heldW T d h (cw T x)) i))) 0 0 = nI (T 0 0) from hR.1, px_sh (by omega), if_neg (nI_ge hi (by omega)), rf_possible hT (RT_put11 hR _) hN hi hd hh, px_sh (by omega), nI_1]
    simp only [Option.bind_some, mk_nm]
    rw [show (mk_put u 0 11 (nI (mkm (fun x => heldW T d h (cw T x)) i))) 0 11 = nI (mkm (fun x => heldW T d h (cw T x)) i) from rfl, put_put, put_put, px_or, px_0, px_or, Nat.or_zero]
    cases hp : heldW T d h (cw T i)
    · simp only [Bool.false_eq_true, if_false, if_true]
      rw [show mkm (fun x => heldW T d h (cw T x)) (i + 1) = mkm (fun x => heldW T d h (cw T x)) i by simp [mkm, hp]]
    · simp only [if_true]
      rw [if_neg (by decide), show mkm (fun x => heldW T d h (cw T x)) i ||| 2 ^ i = mkm (fun x => heldW T d h (cw T x)) (i + 1) by rw [← mkm_or]; simp [hp]]
theorem rf_gives (hT : wfT T) (hR : RT u T) {i e d k : Nat} (hi : i < T 0 0) (he : e ≤ 9) (hd : d ≤ 9) (hk : k ≤ 9) : f_X7_gives N u sd (nI i) (nI e) (nI d) (nI k) = some (nI (kp (T 4 i) e d k)) := by
  have h4 := hT.1
  obtain ⟨-, -, -, e4, -⟩ := hR.2.2.2.1 i hi
  have g27 : ∀ t : Nat, g_X7_gives_27 N u sd (nI i) (nI e) (nI k) (nI t) = some (nI (t + (if k < e then T 4 i else 0))) := by
    intro t
    unfold g_X7_gives_27
    rw [show (3 : Int32) = nI 3 from rfl, px_5, px_rd (by omega) (by decide), e4]
    simp only [Option.bind_some]
    by_cases h : k < e
    · rw [if_neg (nI_ge h (by omega)), if_pos h, nI_add]
    · rw [if_pos (nI_le (by omega) (by omega)), if_neg h, px_0, nI_add]
  have g12 : ∀ t : Nat, t ≤ 9 → g_X7_gives_12 N u sd (nI i) (nI e) (nI d) (nI k) (nI t) = some (nI ((t - d) + (if k < e then T 4 i else 0))) := by
    intro t ht
    unfold g_X7_gives_12
    by_cases h : d ≤ t
    · rw [pk_sub h]
      by_cases h0 : t - d = 0
      · rw [h0, if_pos (by decide), px_0, g27]
      · rw [if_neg (nI_nle (by omega) (by omega)), g27]
    · rw [if_pos (Int32.le_of_lt (pk_sneg (by omega) (by omega))), px_0, g27, show t - d = 0 by omega]
  unfold f_X7_gives kp
  by_cases h : k ≤ e
  · rw [if_pos (nI_le h (by omega)), g12 k hk, Nat.min_eq_right h]
  · rw [if_neg (nI_ge (by omega) (by omega)), g12 e he, Nat.min_eq_left (by omega)]
theorem rf_givesBy (hT : wfT T) (hR : RT u T) (hN : 700 ≤ N) (P : Nat → Bool) (hP : u 0 11 = nI (mkm (fun x => P (cw T x)) (2 ^ T 0 0))) {i d k : Nat} (hi : i < T 0 0) (hd : d ≤ 9) (hk : k ≤ 9) : f_X7_givesBy N u sd (nI i) (nI d) (nI k) = some (nI (gn T P i d k)) := by
  have h4 := hT.1
  have h16 := px_sh16 h4
  unfold f_X7_givesBy gn
  rw [← sm_cw hT]
  refine lq2_up (2 ^ T 0 0) N (fun j => nI (sm (fun x => if P (cw T x) then wt T (cw T x) * kp (T 4 i) (endOf T (cw T x) i) d k else 0) j)) _ (by omega) (by omega) _ (by rw [hR.1, px_sh (by omega)]) _ _ (fun _ _ _ => rfl) rfl (fun rec j hj => ?_)
  try dsimp only
  rw [hP, rf_has (mkm_31 _ (by omega)) (by omega), rf_partsOf hT hR hN hj, rf_has (by omega) (by omega), mkm_bit]
  simp only [Option.bind_some, sm, decide_eq_true hj, Bool.true_and]
  rw [rf_endBy hT hR hi]
  simp only [Option.bind_some]
  rw [rf_gives hT hR hi (endOf_9 hT hi) hd hk]
  simp only [Option.bind_some]
  cases P (cw T j)
  · simp
  · simp only [if_true]; rw [if_neg (by decide), pk_mul, nI_add]
theorem rf_wiseBy (hT : wfT T) (hR : RT u T) (hN : 700 ≤ N) (P : Nat → Bool) (hP : u 0 11 = nI (mkm (fun x => P (cw T x)) (2 ^ T 0 0))) {i d : Nat} (hi : i < T 0 0) (hd : d ≤ 9) : f_X7_wiseBy N u sd (nI i) (nI d) = some (nI (wsd T P i d)) := by
  unfold f_X7_wiseBy wsd
  rw [nI_1]
  have key := lq2_for (b := g_X7_wiseBy_7 N u sd (nI i) (nI d)) (d + 1) 10 N (fun k => nI (bst (gn T P i d) d (k - 1 - d))) (some (nI (bst (gn T P i d) d (9 - d)))) ?_ ?_ (by omega) (by omega)
  · simpa [bst] using key
  · intro rec
    unfold g_X7_wiseBy_7
    rw [show nI 10 = (10 : Int32) from rfl, if_pos (Int32.le_refl _)]
  · intro rec k h1 h2
    have b := bst_le (gn T P i d) d (k - 1 - d)
    unfold g_X7_wiseBy_7
    rw [show (10 : Int32) = nI 10 from rfl, if_neg (nI_ge h2 (by decide)), rf_givesBy hT hR hN P hP hi hd (by omega), rf_givesBy hT hR hN P hP hi hd (by omega)]
    simp only [Option.bind_some, nI_1]
    obtain ⟨m, rfl⟩ : ∃ m, k = d + m + 1 := ⟨k - d - 1, by omega⟩
    rw [show d + m + 1 - 1 - d = m by omega, show d + m + 1 + 1 - 1 - d = m + 1 by omega]
    have g1 := gn_le hT P hi d (d + m + 1)
    have g2 := gn_le hT P hi d (bst (gn T P i d) d m)
    simp only [bst]
    by_cases hg : gn T P i d (bst (gn T P i d) d m) < gn T P i d (d + m + 1)
    · rw [if_neg (nI_ge hg (by omega)), if_pos hg]
    · rw [if_pos (nI_le (by omega) (by omega)), if_neg hg]
end REF2
