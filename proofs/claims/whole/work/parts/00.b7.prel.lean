/-! the class's state and the reference's say the same -/
abbrev NN : Nat := 1000
def TextR (v u : TU) : Prop := ∃ n, n ≤ 48 ∧ v 0 0 = nI n ∧ u 0 6 = nI n ∧ (∀ j, j < 48 → v 1 j = u 12 j) ∧ ∀ j, j < n → ∃ b, b ≤ 255 ∧ u 12 j = nI b
/-- from A to B one act (kind k, of w, with g coins) is taken back -/
def undoes (k w g : Int32) (A B : Nat → Int32) : Prop := B 1 = A 1 - g ∧ ((k = 1 ∧ B 0 = A 0 - 1 ∧ ∀ j, 2 ≤ j → j < 10 → B j = A j) ∨ (k = 2 ∧ ∃ i, i < 4 ∧ w = nI i ∧ B 0 = A 0 ∧ B (2 + i) = -9 ∧ ∀ j, 2 ≤ j → j < 10 → j ≠ 2 + i → B j = A j) ∨ (k = 0 ∧ ∃ a, a < 4 ∧ w = nI a ∧ B 0 = A 0 ∧ B (6 + a) = -9 ∧ ∀ j, 2 ≤ j → j < 10 → j ≠ 6 + a → B j = A j))
def ActsR (T : NT) (v u : TU) (A : Nat → Int32) : Prop := ∃ s x, s ≤ 16 ∧ x < 16 ∧ v 0 0 = nI s ∧ u 0 9 = nI s ∧ u 0 10 = nI x ∧ ∃ S : Nat → Nat → Int32, (∀ j, j < 10 → S 0 j = A j) ∧ ∀ j, j < s → wfA T (S (j + 1)) ∧ (∀ k, k < 10 → u 13 (10 * ((x + 15 - j) % 16) + k) = S (j + 1) k) ∧ undoes (v 1 (s - 1 - j)) (v 2 (s - 1 - j)) (v 3 (s - 1 - j)) (S j) (S (j + 1))
def SeenR (v u : TU) : Prop := ∃ q, q ≤ 6 ∧ v 0 0 = nI q ∧ u 0 12 = nI q ∧ ∀ j, j < q → (∃ t, t < 4 ∧ v 1 j = nI t ∧ u 15 j = nI t) ∧ ∃ d, d ≤ 9 ∧ v 2 j = nI d ∧ u 16 j = nI d
def SlotR (T : NT) (v u : TU) (s : Nat) : Prop := (v 0 2 = 0 ∧ u 18 s = 0) ∨ (v 0 2 = 1 ∧ u 18 s = 1 ∧ ∃ B : Nat → Int32, wfA T B ∧ lifeR v B ∧ ∀ j, j < 10 → u 19 (10 * s + j) = B j)
def RelA (T : NT) (A : Nat → Int32) (c : CU) (u : TU) : Prop := wfT T ∧ CT (c 2) T ∧ RT u T ∧ wfA T A ∧ lifeR (c 4) A ∧ nowR u A ∧ TextR (c 0) u ∧ ActsR T (c 5) u A ∧ SlotR T (c 6) u 0 ∧ SlotR T (c 7) u 1 ∧ SeenR (c 8) u
def Rel (c : CU) (sd : Int64) (u : TU) (sm : Int64) : Prop := sd = sm ∧ ∃ (T : NT) (A : Nat → Int32), RelA T A c u
theorem px_rd0 {f : Nat → Int32} {n : Nat} (h : 0 < n) (hn : n < 2 ^ 31) : mk_rd f n 0 = some (f 0) := px_rd h hn
theorem px_rd1 {f : Nat → Int32} {n : Nat} (h : 1 < n) (hn : n < 2 ^ 31) : mk_rd f n 1 = some (f 1) := px_rd h hn
section STEPS
variable {T : NT} {v u : TU} {A : Nat → Int32} {N : Nat} {sd : Int64}
theorem ct_thing_t (hT : wfT T) (hC : CT0 v T) {i : Nat} (hi : i < T 0 0) : f_X5_hasThing N v (nI i) = some 1 := by
  have h4 := hT.1
  unfold f_X5_hasThing
  rw [if_neg (nI_pos (by omega)), hC.1, if_neg (nI_ge hi (by omega))]
theorem ct_thing_f (hC : CT0 v T) {p : Int32} (hp : p < 0 ∨ nI (T 0 0) ≤ p) : f_X5_hasThing N v p = some 0 := by
  unfold f_X5_hasThing
  by_cases h : p < 0
  · rw [if_pos h]
  · rw [if_neg h, hC.1, if_pos (hp.resolve_left h)]
theorem ct_asker_t (hT : wfT T) (hC : CT0 v T) {i : Nat} (hi : i < T 0 1) : f_X5_hasAsker N v (nI i) = some 1 := by
  have h4 := hT.2.1
  unfold f_X5_hasAsker
  rw [if_neg (nI_pos (by omega)), hC.2.2.1, if_neg (nI_ge hi (by omega))]
theorem ct_asker_f (hC : CT0 v T) {p : Int32} (hp : p < 0 ∨ nI (T 0 1) ≤ p) : f_X5_hasAsker N v p = some 0 := by
  unfold f_X5_hasAsker
  by_cases h : p < 0
  · rw [if_pos h]
  · rw [if_neg h, hC.2.2.1, if_pos (hp.resolve_left h)]
theorem ix2 (p : Int32) {n : Nat} (hn : n ≤ 4) : (p < 0 ∨ nI n ≤ p) ∨ ∃ j, j < n ∧ p = nI j := by
  rcases pk_ix p (n := n) (by omega) with h | h | h
  · exact Or.inl (Or.inl h)
  · exact Or.inl (Or.inr h)
  · exact Or.inr h
end STEPS
theorem st_thing (c0 : CU) (sd : Int64) (u0 : TU) (sm : Int64) (p0 p1 : Int32) (hR : Rel c0 sd u0 sm) : ∃ (r : Int32), f_X6_thing NN c0 sd p0 p1 = some r ∧ f_X7_thing NN u0 sm p0 p1 = some r ∧ Rel c0 sd u0 sm := by
  obtain ⟨e0, T, A, hT, hC, hM, hA, hL, hW, hx⟩ := id hR
  have h4 := hT.1
  rcases ix2 p0 h4 with hb | ⟨i, hi, rfl⟩
  · refine ⟨-1, ?_, ?_, hR⟩
    · unfold f_X6_thing; rw [ct_thing_f hC.1 hb]; rfl
    · unfold f_X7_thing; rw [rf_thing_f hT hM hb]; rfl
  · obtain ⟨d, hd, ed⟩ := hA.1
    obtain ⟨a1, a2, a3, a4⟩ := hC.1.2.2.2.2.1 i hi
    obtain ⟨b1, b2, b3, b4, b5⟩ := hM.2.2.2.1 i hi
    have h9 := tE_9 hT hi
    have hE : f_X6_hasEnded NN c0 sd (nI i) = some (if d < tE T i then 0 else 1) := by
      unfold f_X6_hasEnded
      rw [ct_trueEnd hT hC.1 hi, hL.1, ed]
      simp only [Option.bind_some]
      by_cases h : d < tE T i
      · rw [if_pos (nI_lt h (by omega)), if_pos h]
      · rw [if_neg (nI_nlt (by omega) (by omega)), if_neg h]
    have key : ∀ r, f_X6_thing NN c0 sd (nI i) p1 = some r → g_X7_thing_29 NN u0 sm (nI i) p1 (if d < tE T i then 0 else 1) = some r → ∃ (r : Int32), f_X6_thing NN c0 sd (nI i) p1 = some r ∧ f_X7_thing NN u0 sm (nI i) p1 = some r ∧ Rel c0 sd u0 sm := by
      intro r h1 h2
      refine ⟨r, h1, ?_, hR⟩
      unfold f_X7_thing
      rw [rf_thing_t hT hM hi]
      simp only [Option.bind_some]
      rw [if_neg (by decide), rf_trueEnd hT hM hi, px_0, px_rd (by decide) (by decide), hW 0 (by decide), ed]
      simp only [Option.bind_some]
      by_cases h : d < tE T i
      · rw [if_pos h] at h2; rw [if_pos (nI_lt h (by omega))]; exact h2
      · rw [if_neg h] at h2; rw [if_neg (nI_nlt (by omega) (by omega))]; exact h2
    have pre : ∀ k : Option Int32, (f_X5_hasThing NN (c0 2) (nI i)).bind (fun r_1 => if r_1 = 0 then some (-1) else k) = k := by
      intro k; rw [ct_thing_t hT hC.1 hi]; rfl
    by_cases q0 : p1 = 0
    · subst q0
      refine key (nI (T 1 i)) ?_ ?_
      · unfold f_X6_thing; rw [pre, if_pos rfl, px_rd (by omega) (by decide), a1]; rfl
      · unfold g_X7_thing_29 g_X7_thing_72; rw [if_pos rfl, px_0, px_5, px_rd (by omega) (by decide), Nat.add_zero, b1]; rfl
    by_cases q1 : p1 = 1
    · subst q1
      refine key (nI (T 2 i)) ?_ ?_
      · unfold f_X6_thing; rw [pre, if_neg q0, if_pos rfl, px_rd (by omega) (by decide), a2]; rfl
      · unfold g_X7_thing_29 g_X7_thing_72; rw [if_neg q0, if_pos rfl, px_1, px_5, px_rd (by omega) (by decide), b2]; rfl
    by_cases q2 : p1 = 2
    · subst q2
      refine key (nI (T 3 i)) ?_ ?_
      · unfold f_X6_thing; rw [pre, if_neg q0, if_neg q1, if_pos rfl, px_rd (by omega) (by decide), a3]; rfl
      · unfold g_X7_thing_29 g_X7_thing_72; rw [if_neg q0, if_neg q1, if_pos rfl, show (2 : Int32) = nI 2 from rfl, px_5, px_rd (by omega) (by decide), b3]; rfl
    by_cases q3 : p1 = 3
    · subst q3
      refine key (nI (T 4 i)) ?_ ?_
      · unfold f_X6_thing; rw [pre, if_neg q0, if_neg q1, if_neg q2, if_pos rfl, px_rd (by omega) (by decide), a4]; rfl
      · unfold g_X7_thing_29 g_X7_thing_72; rw [if_neg q0, if_neg q1, if_neg q2, if_pos rfl, show (3 : Int32) = nI 3 from rfl, px_5, px_rd (by omega) (by decide), b4]; rfl
    by_cases q4 : p1 = 4
    · subst q4
      refine key (A (2 + i)) ?_ ?_
      · unfold f_X6_thing; rw [pre, if_neg q0, if_neg q1, if_neg q2, if_neg q3, if_pos rfl, px_rd (by omega) (by decide), hL.2.2.2 i (by omega)]; rfl
      · unfold g_X7_thing_29; rw [if_neg q0, if_neg q1, if_neg q2, if_neg q3, if_pos rfl, show (2 : Int32) = nI 2 from rfl, nI_add, px_rd (by omega) (by decide), hW (2 + i) (by omega)]; rfl
    by_cases q5 : p1 = 5
    · subst q5
      refine key (if d < tE T i then 0 else 1) ?_ ?_
      · unfold f_X6_thing; rw [pre, if_neg q0, if_neg q1, if_neg q2, if_neg q3, if_neg q4, if_pos rfl, hE]
        by_cases h : d < tE T i <;> simp [h]
      · unfold g_X7_thing_29; rw [if_neg q0, if_neg q1, if_neg q2, if_neg q3, if_neg q4, if_pos rfl]
        by_cases h : d < tE T i <;> simp [h]
    by_cases q6 : p1 = 6
    · subst q6
      have hl4 : orL (ab A) 4 < 2 ^ 31 := by
        have : orL (ab A) 4 < 2 ^ 4 := by
          simp only [orL]
          exact or_lt4 (or_lt4 (or_lt4 (or_lt4 (by decide) (ab_lt hT hA (by decide))) (ab_lt hT hA (by decide))) (ab_lt hT hA (by decide))) (ab_lt hT hA (by decide))
        omega
      refine key (if d < tE T i then (if (orL (ab A) 4).testBit i then nI (tE T i) else -9) else nI (tE T i)) ?_ ?_
      · unfold f_X6_thing f_X6_knownEnd g_X6_knownEnd_19 g_X6_knownEnd_32
        rw [pre, if_neg q0, if_neg q1, if_neg q2, if_neg q3, if_neg q4, if_neg q5, if_pos rfl, cl_asked hT hL hA (by decide), hE, ct_trueEnd hT hC.1 hi]
        simp only [Option.bind_some]
        rw [px_bit hl4 (by omega)]
        cases (orL (ab A) 4).testBit i <;> by_cases h : d < tE T i <;> simp [h]
      · unfold g_X7_thing_29 g_X7_thing_117
        rw [if_neg q0, if_neg q1, if_neg q2, if_neg q3, if_neg q4, if_neg q5, if_pos rfl, rl_asked hT hM hW hA (by decide), rf_trueEnd hT hM hi]
        simp only [Option.bind_some]
        rw [rf_has hl4 (by omega)]
        cases (orL (ab A) 4).testBit i <;> by_cases h : d < tE T i <;> simp [h]
    refine key (-2) ?_ ?_
    · unfold f_X6_thing; rw [pre, if_neg q0, if_neg q1, if_neg q2, if_neg q3, if_neg q4, if_neg q5, if_neg q6]
    · unfold g_X7_thing_29; rw [if_neg q0, if_neg q1, if_neg q2, if_neg q3, if_neg q4, if_neg q5, if_neg q6]
theorem st_asker (c0 : CU) (sd : Int64) (u0 : TU) (sm : Int64) (p0 p1 : Int32) (hR : Rel c0 sd u0 sm) : ∃ (r : Int32), f_X6_asker NN c0 sd p0 p1 = some r ∧ f_X7_asker NN u0 sm p0 p1 = some r ∧ Rel c0 sd u0 sm := by
  obtain ⟨e0, T, A, hT, hC, hM, hA, hL, hW, hx⟩ := id hR
  have h4 := hT.2.1
  rcases ix2 p0 h4 with hb | ⟨a, ha, rfl⟩
  · refine ⟨-1, ?_, ?_, hR⟩
    · unfold f_X6_asker; rw [ct_asker_f hC.1 hb]; rfl
    · unfold f_X7_asker; rw [rf_asker_f hT hM hb]; rfl
  · obtain ⟨a1, a2⟩ := hC.1.2.2.2.2.2.1 a ha
    obtain ⟨b1, b2⟩ := hM.2.2.2.2.1 a ha
    refine ⟨if p1 = 0 then nI (T 6 a) else if p1 = 1 then nI (T 7 a) else if p1 = 2 then A (6 + a) else if p1 = 3 then nI (hrd A a) else -2, ?_, ?_, hR⟩
    · unfold f_X6_asker
      rw [ct_asker_t hT hC.1 ha]
      simp only [Option.bind_some]
      rw [if_neg (by decide), px_rd (by omega) (by decide), px_rd (by omega) (by decide), px_rd (by omega) (by decide), a1, a2, hL.2.2.1 a (by omega), cl_heard hT hL hA (by omega)]
      simp only [Option.bind_some]
      repeat' split
      all_goals rfl
    · unfold f_X7_asker
      rw [rf_asker_t hT hM ha]
      simp only [Option.bind_some]
      rw [if_neg (by decide), px_rd (by omega) (by decide), px_rd (by omega) (by decide), show (6 : Int32) = nI 6 from rfl, nI_add, px_rd (by omega) (by decide), b1, b2, hW (6 + a) (by omega), rl_heard hT hM hW hA (by decide) ha]
      simp only [Option.bind_some]
      repeat' split
      all_goals rfl
