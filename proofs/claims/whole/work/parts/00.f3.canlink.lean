/-! which things may be linked, while the text is read -/
def RDT (u : TU) (T : NT) : Prop := u 0 3 = nI (T 0 0) ∧ u 0 4 = nI (T 0 1) ∧ u 0 5 = nI (T 0 2) ∧ (∀ i, i < T 0 0 → u 6 (5 * i) = nI (T 1 i) ∧ u 6 (5 * i + 1) = nI (T 2 i) ∧ u 6 (5 * i + 2) = nI (T 3 i) ∧ u 6 (5 * i + 3) = nI (T 4 i) ∧ u 6 (5 * i + 4) = nI (T 5 i)) ∧ (∀ a, a < T 0 1 → u 7 a = nI (T 6 a) ∧ u 8 a = nI (T 7 a)) ∧ (∀ j, j < T 0 2 → u 9 j = nI (T 8 j) ∧ u 10 j = nI (T 9 j))
def noL (T : NT) (i j k : Nat) : Bool := !(T 8 k == i && T 9 k == j)
def cL (T : NT) (i j : Nat) : Bool := decide (i < T 0 0) && decide (j < T 0 0) && !(i == j) && (T 5 i == 1 || !(T 5 j == 1)) && allB (noL T i j) (T 0 2)
def cF (T : NT) (i : Nat) : Bool := !allB (fun j => !cL T i j) (T 0 0)
theorem cF_f {T : NT} {i : Nat} : cF T i = false ↔ ∀ j, j < T 0 0 → cL T i j = false := by
  unfold cF
  rw [Bool.not_eq_false', allB_iff]
  constructor
  · intro h j hj; simpa using h j hj
  · intro h j hj; simp [h j hj]
theorem cL_ge {T : NT} {i j : Nat} (h : T 0 0 ≤ i) : cL T i j = false := by
  unfold cL; rw [decide_eq_false (by omega)]; rfl
theorem cF_ge {T : NT} {i : Nat} (h : T 0 0 ≤ i) : cF T i = false := cF_f.mpr (fun j _ => cL_ge h)
section CANLINK
variable {T : NT} {u v : TU} {N : Nat} {sd : Int64}
theorem ct_canLink (hT : wfT T) (hC : CT0 v T) (hN : 700 ≤ N) {i j : Nat} (hi : i ≤ 9) (hj : j ≤ 9) : f_X5_canLink N v (nI i) (nI j) = some (if cL T i j then 1 else 0) := by
  have h4 := hT.1
  have h3 := hT.2.2.1
  have h16 := px_sh16 h4
  have ht := mkm_lt (fun i => T 5 i == 1) (T 0 0)
  unfold f_X5_canLink cL
  by_cases c1 : i < T 0 0
  · rw [ct_thing_t hT hC c1, Option.bind_some, if_neg (by decide), decide_eq_true c1]
    by_cases c2 : j < T 0 0
    · rw [ct_thing_t hT hC c2, Option.bind_some, if_neg (by decide), decide_eq_true c2]
      by_cases c3 : i = j
      · subst c3
        rw [if_pos rfl, beq_self_eq_true]; rfl
      · rw [if_neg (fun q => c3 ((nI_eq (by omega) (by omega)).mp q)), beq_eq_false_iff_ne.mpr c3]
        have key := lq1_all (b := g_X5_canLink_25 N v (nI i) (nI j)) (T 0 2) N (noL T i j) (some (if (T 5 i == 1 || !(T 5 j == 1)) then 1 else 0)) (some 0) (by omega) (by omega) _ hC.2.2.2.1 _ _ (fun _ _ => rfl) (by
          rw [hC.2.1, ct_isBroken (trm_31 hT) (by omega) (by omega), Option.bind_some, trm_bit c1, trm_bit c2]
          cases (T 5 i == 1 || !(T 5 j == 1))
          · rw [if_neg (by decide)]; rfl
          · rw [if_pos (by rfl)]; rfl) (fun rec k hk => by
          try dsimp only
          obtain ⟨a1, a2⟩ := hC.2.2.2.2.2.2 k hk
          obtain ⟨l1, l2⟩ := hT.2.2.2.2.2 k hk
          rw [px_rd (by omega) (by decide), a1, Option.bind_some, px_rd (by omega) (by decide), a2, Option.bind_some]
          unfold noL
          by_cases d1 : T 8 k = i
          · rw [if_pos (by rw [d1]), beq_iff_eq.mpr d1]
            by_cases d2 : T 9 k = j
            · rw [if_pos (by rw [d2]), beq_iff_eq.mpr d2]; rfl
            · rw [if_neg (fun q => d2 ((nI_eq (by omega) (by omega)).mp q)), beq_eq_false_iff_ne.mpr d2]; rfl
          · rw [if_neg (fun q => d1 ((nI_eq (by omega) (by omega)).mp q)), beq_eq_false_iff_ne.mpr d1]; rfl)
        refine key.trans ?_
        cases allB (noL T i j) (T 0 2)
        · simp
        · simp
    · rw [ct_thing_f hC (Or.inr (nI_le (by omega) (by omega))), Option.bind_some, if_pos rfl, decide_eq_false c2]; rfl
  · rw [ct_thing_f hC (Or.inr (nI_le (by omega) (by omega))), Option.bind_some, if_pos rfl, decide_eq_false c1]; rfl
theorem ct_canFrom (hT : wfT T) (hC : CT0 v T) (hN : 700 ≤ N) {i : Nat} (hi : i ≤ 9) : f_X5_canLinkFrom N v (nI i) = some (if cF T i then 1 else 0) := by
  have h4 := hT.1
  unfold f_X5_canLinkFrom cF
  have key := lq1_all (b := g_X5_canLinkFrom_2 N v (nI i)) (T 0 0) N (fun j => !cL T i j) (some 0) (some 1) (by omega) (by omega) _ hC.1 _ _ (fun _ _ => rfl) rfl (fun rec j hj => by
    try dsimp only
    rw [ct_canLink hT hC hN hi (by omega), Option.bind_some]
    cases cL T i j
    · rw [if_pos (by rfl)]; rfl
    · rw [if_neg (by decide)]; rfl)
  refine key.trans ?_
  cases allB (fun j => !cL T i j) (T 0 0) <;> rfl
theorem ct_roomL (hT : wfT T) (hC : CT0 v T) (hN : 700 ≤ N) : f_X5_isRoomForLink N v = some (if decide (T 0 2 < 3) && !allB (fun i => !cF T i) (T 0 0) then 1 else 0) := by
  have h4 := hT.1
  have h3 := hT.2.2.1
  unfold f_X5_isRoomForLink
  rw [hC.2.2.2.1]
  by_cases c : T 0 2 < 3
  · rw [show (3 : Int32) = nI 3 from rfl, if_pos (nI_lt c (by decide)), decide_eq_true c]
    have key := lq1_all (b := g_X5_isRoomForLink_12 N v) (T 0 0) N (fun i => !cF T i) (some 0) (some 1) (by omega) (by omega) _ hC.1 _ _ (fun _ _ => rfl) rfl (fun rec i hi => by
      try dsimp only
      rw [ct_canFrom hT hC hN (by omega), Option.bind_some]
      cases cF T i
      · rw [if_pos (by rfl)]; rfl
      · rw [if_neg (by decide)]; rfl)
    refine key.trans ?_
    cases allB (fun i => !cF T i) (T 0 0) <;> rfl
  · rw [show (3 : Int32) = nI 3 from rfl, if_neg (nI_nlt (by omega) (by omega)), decide_eq_false c]; rfl
theorem rf_mayLink (hT : wfT T) (hR : RDT u T) (hN : 700 ≤ N) {i : Nat} (hi : i < T 0 0) : f_X7_mayLink N u sd (nI i) = some (nI (mkm (cL T i) (T 0 0))) := by
  have h4 := hT.1
  have h3 := hT.2.2.1
  obtain ⟨-, -, -, -, i5⟩ := hR.2.2.2.1 i hi
  have t5 := (hT.2.2.2.1 i hi).2.2.2.2.2.2
  unfold f_X7_mayLink
  refine lq2_up (T 0 0) N (fun j => nI (mkm (cL T i) j)) _ (by omega) (by omega) _ hR.1 _ _ (fun _ _ _ => rfl) rfl (fun rec j hj => ?_)
  try dsimp only
  obtain ⟨-, -, -, -, j5⟩ := hR.2.2.2.1 j hj
  have s5 := (hT.2.2.2.1 j hj).2.2.2.2.2.2
  have inner : ∀ s : Bool, lq2 (g_X7_mayLink_54 N u sd rec (nI i) (nI (mkm (cL T i) j)) (nI j)) N (if s then 1 else 0) 0 = if s && allB (noL T i j) (T 0 2) then rec (nI (mkm (cL T i) j ||| 2 ^ j)) (nI j + 1) else rec (nI (mkm (cL T i) j)) (nI j + 1) := by
    intro s
    have key := lq2_up (b := g_X7_mayLink_54 N u sd rec (nI i) (nI (mkm (cL T i) j)) (nI j)) (T 0 2) N (fun k => if s && allB (noL T i j) k then 1 else 0) (if s && allB (noL T i j) (T 0 2) then rec (nI (mkm (cL T i) j ||| 2 ^ j)) (nI j + 1) else rec (nI (mkm (cL T i) j)) (nI j + 1)) (by omega) (by omega) _ hR.2.2.1 _ _ (fun _ _ _ => rfl) (by
      try dsimp only
      rw [px_sh (by omega), px_or, px_0, px_or, Nat.or_zero]
      cases (s && allB (noL T i j) (T 0 2))
      · rw [if_pos (by rfl)]; rfl
      · rw [if_neg (by decide)]; rfl) (fun rec2 k hk => by
      try dsimp only
      obtain ⟨a1, a2⟩ := hR.2.2.2.2.2 k hk
      obtain ⟨l1, l2⟩ := hT.2.2.2.2.2 k hk
      unfold g_X7_mayLink_90
      rw [px_rd (by omega) (by decide), a1, Option.bind_some, px_rd (by omega) (by decide), a2, Option.bind_some]
      rw [show (s && allB (noL T i j) (k + 1)) = ((s && allB (noL T i j) k) && noL T i j k) by simp only [allB, Bool.and_assoc]]
      cases hs : (s && allB (noL T i j) k)
      · rw [if_pos (by rfl)]; rfl
      · rw [if_neg (by decide)]
        unfold noL
        by_cases d1 : T 8 k = i
        · rw [if_pos (by rw [d1]), beq_iff_eq.mpr d1]
          by_cases d2 : T 9 k = j
          · rw [if_pos (by rw [d2]), beq_iff_eq.mpr d2]; rfl
          · rw [if_neg (fun q => d2 ((nI_eq (by omega) (by omega)).mp q)), beq_eq_false_iff_ne.mpr d2]; rfl
        · rw [if_neg (fun q => d1 ((nI_eq (by omega) (by omega)).mp q)), beq_eq_false_iff_ne.mpr d1]; rfl)
    have e0 : (if s && allB (noL T i j) 0 then (1 : Int32) else 0) = if s then 1 else 0 := by rw [show (s && allB (noL T i j) 0) = s from Bool.and_true s]
    rw [← e0]
    exact key
  have done : ∀ s : Bool, cL T i j = (s && allB (noL T i j) (T 0 2)) → (if s && allB (noL T i j) (T 0 2) then rec (nI (mkm (cL T i) j ||| 2 ^ j)) (nI j + 1) else rec (nI (mkm (cL T i) j)) (nI j + 1)) = rec (nI (mkm (cL T i) (j + 1))) (nI j + 1) := by
    intro s hs
    rw [← hs]
    cases hc : cL T i j
    · rw [show mkm (cL T i) (j + 1) = mkm (cL T i) j by simp [mkm, hc]]; rfl
    · rw [show mkm (cL T i) j ||| 2 ^ j = mkm (cL T i) (j + 1) by rw [← mkm_or, hc]; rfl]; rfl
  have base : cL T i j = ((!(i == j) && (T 5 i == 1 || !(T 5 j == 1))) && allB (noL T i j) (T 0 2)) := by
    unfold cL
    rw [decide_eq_true hi, decide_eq_true hj]
    simp
  have i1 := inner true
  have i0 := inner false
  simp only [Bool.false_eq_true, if_false] at i0
  simp only [if_true] at i1
  unfold g_X7_mayLink_44
  rw [show (4 : Int32) = nI 4 from rfl, px_5, px_5, px_rd (by omega) (by decide), px_rd (by omega) (by decide), i5, j5, Option.bind_some, Option.bind_some, i1, i0]
  by_cases c3 : j = i
  · subst c3
    rw [if_pos rfl]
    exact done false (by rw [base, beq_self_eq_true]; rfl)
  · rw [if_neg (fun q => c3 ((nI_eq (by omega) (by omega)).mp q))]
    have cb : (i == j) = false := beq_eq_false_iff_ne.mpr (fun q => c3 q.symm)
    by_cases c5 : T 5 i = 1
    · rw [if_pos (by rw [c5]; rfl)]
      exact done true (by rw [base, cb, beq_iff_eq.mpr c5]; rfl)
    · rw [if_neg (show ¬ nI (T 5 i) = 1 from fun q => c5 ((nI_eq (b := 1) (by omega) (by decide)).mp q))]
      by_cases c6 : T 5 j = 1
      · rw [if_neg (by rw [c6]; decide)]
        exact done false (by rw [base, cb, beq_eq_false_iff_ne.mpr c5, beq_iff_eq.mpr c6]; rfl)
      · rw [if_pos (by rw [show T 5 j = 0 by omega]; rfl)]
        exact done true (by rw [base, cb, beq_eq_false_iff_ne.mpr c5, beq_eq_false_iff_ne.mpr c6]; rfl)
theorem rf_begins (hT : wfT T) (hR : RDT u T) (hN : 700 ≤ N) : f_X7_begins N u sd = some (nI (mkm (cF T) (T 0 0))) := by
  have h4 := hT.1
  unfold f_X7_begins
  refine lq2_up (T 0 0) N (fun j => nI (mkm (cF T) j)) _ (by omega) (by omega) _ hR.1 _ _ (fun _ _ _ => rfl) rfl (fun rec i hi => ?_)
  try dsimp only
  have h31 := mkm_31 (cL T i) (k := T 0 0) (by omega)
  rw [rf_mayLink hT hR hN hi, Option.bind_some, px_sh (by omega), px_or, show nI (mkm (cF T) i) ||| (0 : Int32) = nI (mkm (cF T) i) by rw [px_0, px_or, Nat.or_zero]]
  have hz : nI (mkm (cL T i) (T 0 0)) = 0 ↔ cF T i = false := by
    rw [nI_z h31, cF_f]
    constructor
    · exact fun h => mkm_z h
    · intro h
      apply Nat.eq_of_testBit_eq
      intro j
      rw [mkm_bit, Nat.zero_testBit]
      by_cases hj : j < T 0 0
      · rw [h j hj]; simp
      · simp [hj]
  cases hc : cF T i
  · rw [if_pos (hz.mpr hc), show mkm (cF T) (i + 1) = mkm (cF T) i by simp [mkm, hc]]
  · rw [if_neg (fun q => by rw [hz.mp q] at hc; cases hc), show mkm (cF T) i ||| 2 ^ i = mkm (cF T) (i + 1) by rw [← mkm_or, hc]; rfl]
theorem begins_z : mkm (cF T) (T 0 0) = 0 ↔ allB (fun i => !cF T i) (T 0 0) = true := by
  rw [allB_iff]
  constructor
  · intro h i hi; rw [mkm_z h i hi]; rfl
  · intro h
    apply Nat.eq_of_testBit_eq
    intro j
    rw [mkm_bit, Nat.zero_testBit]
    by_cases hj : j < T 0 0
    · have := h j hj
      rw [show cF T j = false by simpa using this]; simp
    · simp [hj]
end CANLINK
