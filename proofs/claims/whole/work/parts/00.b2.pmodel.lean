/-! the reference's town by the same numbers -/
def RT (u : TU) (T : NT) : Prop := u 0 0 = nI (T 0 0) ∧ u 0 1 = nI (T 0 1) ∧ u 0 2 = nI (T 0 2) ∧ (∀ i, i < T 0 0 → u 1 (5 * i) = nI (T 1 i) ∧ u 1 (5 * i + 1) = nI (T 2 i) ∧ u 1 (5 * i + 2) = nI (T 3 i) ∧ u 1 (5 * i + 3) = nI (T 4 i) ∧ u 1 (5 * i + 4) = nI (T 5 i)) ∧ (∀ a, a < T 0 1 → u 2 a = nI (T 6 a) ∧ u 3 a = nI (T 7 a)) ∧ (∀ j, j < T 0 2 → u 4 j = nI (T 8 j) ∧ u 5 j = nI (T 9 j))
theorem lgc_lt (x y : Int64) : lg_cmp x y < 0 ↔ x < y := by
  unfold lg_cmp
  by_cases h1 : y < x
  · rw [if_pos h1]
    constructor
    · intro h; exact absurd h (by decide)
    · intro h; exact absurd (Int64.lt_trans h h1) Int64.lt_irrefl
  · rw [if_neg h1]
    by_cases h2 : x = y
    · rw [if_pos h2, h2]
      constructor
      · intro h; exact absurd h (by decide)
      · intro h; exact absurd h Int64.lt_irrefl
    · rw [if_neg h2]
      constructor
      · intro _
        have h3 := Int64.not_lt.mp h1
        exact Int64.lt_of_le_of_ne h3 h2
      · intro _; decide
theorem lgc_gt (x y : Int64) : 0 < lg_cmp x y ↔ y < x := by
  unfold lg_cmp
  by_cases h1 : y < x
  · rw [if_pos h1]
    exact ⟨fun _ => h1, fun _ => by decide⟩
  · rw [if_neg h1]
    constructor
    · intro h
      by_cases h2 : x = y
      · rw [if_pos h2] at h; exact absurd h (by decide)
      · rw [if_neg h2] at h; exact absurd h (by decide)
    · intro h; exact absurd h h1
theorem i64_lt (x y : Int32) : x.toInt64 < y.toInt64 ↔ x < y := by
  rw [Int64.lt_iff_toInt_lt, Int32.lt_iff_toInt_lt, Int32.toInt_toInt64, Int32.toInt_toInt64]
theorem rf_in {N : Nat} (p a b : Int32) : f_X7_in N p.toInt64 a.toInt64 b.toInt64 = some (if p < a then 0 else if b < p then 0 else 1) := by
  unfold f_X7_in
  by_cases h1 : p < a
  · rw [if_pos ((lgc_lt _ _).mpr ((i64_lt _ _).mpr h1)), if_pos h1]
  · rw [if_neg (fun q => h1 ((i64_lt _ _).mp ((lgc_lt _ _).mp q))), if_neg h1]
    by_cases h2 : b < p
    · rw [if_pos ((lgc_gt _ _).mpr ((i64_lt _ _).mpr h2)), if_pos h2]
    · rw [if_neg (fun q => h2 ((i64_lt _ _).mp ((lgc_gt _ _).mp q))), if_neg h2]
theorem nI_m1 {n : Nat} (hn : n < 2 ^ 30) (p : Int32) : nI n - 1 < p ↔ nI n ≤ p := by
  have e : (nI n - nI 1).toInt = (n : Int) - 1 := pk_sub_toInt hn (by decide)
  rw [px_1, Int32.lt_iff_toInt_lt, Int32.le_iff_toInt_le, e, nI_toInt (by omega)]
  omega
theorem i64_0 : (0 : Int64) = (0 : Int32).toInt64 := by decide
section REF
variable {T : NT} {u : TU} {N : Nat} {sd : Int64}
theorem rf_thing_t (hT : wfT T) (hR : RT u T) {i : Nat} (hi : i < T 0 0) : f_X7_isThing N u sd (nI i) = some 1 := by
  have h4 := hT.1
  unfold f_X7_isThing
  rw [i64_0, hR.1, rf_in, if_neg (nI_pos (by omega)), if_neg (by rw [nI_m1 (by omega)]; exact nI_ge hi (by omega))]
  rfl
theorem rf_thing_f (hT : wfT T) (hR : RT u T) {p : Int32} (hp : p < 0 ∨ nI (T 0 0) ≤ p) : f_X7_isThing N u sd p = some 0 := by
  have h4 := hT.1
  unfold f_X7_isThing
  rw [i64_0, hR.1, rf_in]
  by_cases h : p < 0
  · rw [if_pos h]; rfl
  · rw [if_neg h, if_pos ((nI_m1 (by omega) p).mpr (hp.resolve_left h))]; rfl
theorem rf_asker_t (hT : wfT T) (hR : RT u T) {i : Nat} (hi : i < T 0 1) : f_X7_isAsker N u sd (nI i) = some 1 := by
  have h4 := hT.2.1
  unfold f_X7_isAsker
  rw [i64_0, hR.2.1, rf_in, if_neg (nI_pos (by omega)), if_neg (by rw [nI_m1 (by omega)]; exact nI_ge hi (by omega))]
  rfl
theorem rf_asker_f (hT : wfT T) (hR : RT u T) {p : Int32} (hp : p < 0 ∨ nI (T 0 1) ≤ p) : f_X7_isAsker N u sd p = some 0 := by
  have h4 := hT.2.1
  unfold f_X7_isAsker
  rw [i64_0, hR.2.1, rf_in]
  by_cases h : p < 0
  · rw [if_pos h]; rfl
  · rw [if_neg h, if_pos ((nI_m1 (by omega) p).mpr (hp.resolve_left h))]; rfl
theorem px_5 (i j : Nat) : (5 : Int32) * nI i + nI j = nI (5 * i + j) := by
  rw [show (5 : Int32) = nI 5 from rfl, pk_mul, nI_add]
theorem rf_trueEnd (hT : wfT T) (hR : RT u T) {i : Nat} (hi : i < T 0 0) : f_X7_trueEnd N u sd (nI i) = some (nI (tE T i)) := by
  have h4 := hT.1
  obtain ⟨e1, e2, -, -, e5⟩ := hR.2.2.2.1 i hi
  have h5 := (hT.2.2.2.1 i hi).2.2.2.2.2.2
  unfold f_X7_trueEnd tE
  rw [show (4 : Int32) = nI 4 from rfl, px_5, px_rd (by omega) (by decide), e5]
  simp only [Option.bind_some]
  rw [px_5, px_rd (by omega) (by decide)]
  rcases (show T 5 i = 0 ∨ T 5 i = 1 by omega) with h | h
  · rw [h, Nat.add_zero, e1]; rfl
  · rw [h, e2]; rfl
theorem rf_has {x i : Nat} (hx : x < 2 ^ 31) (hi : i < 31) : f_X7_has N (nI x) (nI i) = some (if x.testBit i then 1 else 0) := by
  unfold f_X7_has
  rw [px_bit hx hi]
  cases x.testBit i <;> rfl
/-- the reference's world x (early bits) as the class's world (late bits) -/
def cw (T : NT) (x : Nat) : Nat := x ^^^ (2 ^ T 0 0 - 1)
theorem full_bit (n i : Nat) : (2 ^ n - 1).testBit i = decide (i < n) := Nat.testBit_two_pow_sub_one n i
theorem cw_bit {x i : Nat} (hi : i < T 0 0) : (cw T x).testBit i = !x.testBit i := by
  unfold cw; rw [Nat.testBit_xor, full_bit]; simp [hi]
theorem cw_lt {x : Nat} (hx : x < 2 ^ T 0 0) : cw T x < 2 ^ T 0 0 := Nat.xor_lt_two_pow hx (Nat.sub_lt (Nat.two_pow_pos _) (by decide))
theorem cw_cw {x : Nat} : cw T (cw T x) = x := by unfold cw; rw [Nat.xor_assoc, Nat.xor_self, Nat.xor_zero]
theorem sm_cw (hT : wfT T) (g : Nat → Nat) : sm (fun x => g (cw T x)) (2 ^ T 0 0) = sm g (2 ^ T 0 0) := sm_xor (T 0 0) hT.1 (2 ^ T 0 0 - 1) (Nat.sub_lt (Nat.two_pow_pos _) (by decide)) g
theorem rf_isWorld (hT : wfT T) (hR : RT u T) (hN : 700 ≤ N) {x : Nat} (hx : x < 2 ^ T 0 0) : f_X7_isWorld N u sd (nI x) = some (if okW T (cw T x) then 1 else 0) := by
  have h4 := hT.1
  have h16 := px_sh16 h4
  have h3 := hT.2.2.1
  unfold f_X7_isWorld okW
  refine lq2_up (T 0 2) N (fun j => if okL T (cw T x) j then 1 else 0) _ (by omega) (by omega) _ hR.2.2.1 _ _ (fun _ _ _ => rfl) (by rw [px_z]; rfl) (fun rec j hj => ?_)
  try dsimp only [g_X7_isWorld_42]
  obtain ⟨l1, l2⟩ := hT.2.2.2.2.2 j hj
  obtain ⟨e1, e2⟩ := hR.2.2.2.2.2 j hj
  rw [px_rd (by omega) (by decide), px_rd (by omega) (by decide), e1, e2]
  simp only [Option.bind_some]
  rw [rf_has (by omega) (by omega), rf_has (by omega) (by omega)]
  simp only [Option.bind_some, okL, cw_bit l1, cw_bit l2]
  cases okL T (cw T x) j <;> cases x.testBit (T 8 j) <;> cases x.testBit (T 9 j) <;> simp
theorem rf_partsOf (hT : wfT T) (hR : RT u T) (hN : 700 ≤ N) {x : Nat} (hx : x < 2 ^ T 0 0) : f_X7_partsOf N u sd (nI x) = some (nI (wt T (cw T x))) := by
  have h4 := hT.1
  have h16 := px_sh16 h4
  unfold f_X7_partsOf wt
  refine lq2_up (T 0 0) N (fun i => nI (wtL T (cw T x) i)) _ (by omega) (by omega) _ hR.1 _ _ (fun _ _ _ => rfl) rfl (fun rec i hi => ?_)
  try dsimp only
  obtain ⟨-, -, e3, -, -⟩ := hR.2.2.2.1 i hi
  have h3 := (hT.2.2.2.1 i hi).2.2.2.1
  rw [rf_has (by omega) (by omega), show (2 : Int32) = nI 2 from rfl, px_5, px_rd (by omega) (by decide), e3]
  simp only [Option.bind_some, wtL, cw_bit hi]
  rw [show (10 : Int32) = nI 10 from rfl, pk_sub (by omega), pk_mul, pk_mul]
  cases x.testBit i <;> simp
end REF
