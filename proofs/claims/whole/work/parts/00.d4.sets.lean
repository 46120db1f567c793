/-! sets that some askers can ask of -/
def may (T : NT) (who a t s : Nat) : Bool := decide (a < T 0 1) && who.testBit a && decide (T 6 a ≤ t) && decide (t ≤ T 7 a) && !s.testBit t
def one (T : NT) (who : Nat) (a t s : Nat) : Option Nat := if 4 ≤ t then some s else if may T who a t s then some (s ||| 2 ^ t) else none
def stp (T : NT) (who : Nat) (dl : Nat → Nat) : Nat → Option Nat
  | 0 => some 0
  | a + 1 => (stp T who dl a).bind fun s => one T who a (dl a) s
def Rc (T : NT) (who a s : Nat) : Prop := ∃ dl, stp T who dl a = some s
theorem stp_s {T : NT} {who a s : Nat} {dl : Nat → Nat} : stp T who dl (a + 1) = some s ↔ ∃ s0, stp T who dl a = some s0 ∧ one T who a (dl a) s0 = some s := by
  simp only [stp]
  cases stp T who dl a <;> simp
theorem stp_congr {T : NT} {who a : Nat} {dl ep : Nat → Nat} (h : ∀ j, j < a → dl j = ep j ∨ (4 ≤ dl j ∧ 4 ≤ ep j)) : stp T who dl a = stp T who ep a := by
  induction a with
  | zero => rfl
  | succ a ih =>
    simp only [stp]
    rw [ih (fun j hj => h j (by omega))]
    congr 1
    funext s
    rcases h a (by omega) with e | ⟨h1, h2⟩
    · rw [e]
    · unfold one; rw [if_pos h1, if_pos h2]
theorem may_iff {T : NT} {who a t s : Nat} : may T who a t s = true ↔ a < T 0 1 ∧ who.testBit a = true ∧ T 6 a ≤ t ∧ t ≤ T 7 a ∧ s.testBit t = false := by
  unfold may
  simp [Bool.and_eq_true, and_assoc]
theorem or_has {s t : Nat} (h : s.testBit t = true) : s ||| 2 ^ t = s := by
  apply Nat.eq_of_testBit_eq
  intro i
  rw [Nat.testBit_or, Nat.testBit_two_pow]
  by_cases e : t = i
  · subst e; simp [h]
  · simp [e]
theorem Rc_succ {T : NT} (hT : wfT T) {who a s : Nat} : Rc T who (a + 1) s ↔ Rc T who a s ∨ (a < T 0 1 ∧ who.testBit a = true ∧ ∃ t s0, T 6 a ≤ t ∧ t ≤ T 7 a ∧ Rc T who a s0 ∧ s = s0 ||| 2 ^ t) := by
  constructor
  · rintro ⟨dl, h⟩
    obtain ⟨s0, h1, h2⟩ := stp_s.mp h
    unfold one at h2
    by_cases h4 : 4 ≤ dl a
    · rw [if_pos h4] at h2
      have : s0 = s := by simpa using h2
      subst this
      exact Or.inl ⟨dl, h1⟩
    · rw [if_neg h4] at h2
      by_cases hm : may T who a (dl a) s0 = true
      · rw [if_pos hm] at h2
        obtain ⟨m1, m2, m3, m4, m5⟩ := may_iff.mp hm
        exact Or.inr ⟨m1, m2, dl a, s0, m3, m4, ⟨dl, h1⟩, by simpa using h2.symm⟩
      · rw [if_neg hm] at h2; cases h2
  · have keep : ∀ r, Rc T who a r → Rc T who (a + 1) r := by
      rintro r ⟨dl, h⟩
      refine ⟨fun j => if j = a then 4 else dl j, stp_s.mpr ⟨r, ?_, ?_⟩⟩
      · rw [← h]; exact stp_congr (fun j hj => Or.inl (if_neg (by omega)))
      · unfold one; rw [if_pos (show 4 ≤ (if a = a then 4 else dl a) by rw [if_pos rfl]; omega)]
    rintro (h | ⟨ha, hw, t, s0, t1, t2, ⟨dl, h⟩, rfl⟩)
    · exact keep _ h
    · have t4 : t < 4 := by have := hT.2.2.2.2.1 a ha; have := hT.1; omega
      by_cases hb : s0.testBit t = true
      · rw [or_has hb]; exact keep _ ⟨dl, h⟩
      · refine ⟨fun j => if j = a then t else dl j, stp_s.mpr ⟨s0, ?_, ?_⟩⟩
        · rw [← h]; exact stp_congr (fun j hj => Or.inl (if_neg (by omega)))
        · unfold one
          rw [show (if a = a then t else dl a) = t from if_pos rfl, if_neg (by omega), if_pos (may_iff.mpr ⟨ha, hw, t1, t2, by simpa using hb⟩)]
theorem Rc_lt {T : NT} (hT : wfT T) {who : Nat} : ∀ {a s : Nat}, Rc T who a s → s < 2 ^ T 0 0 := by
  intro a
  induction a with
  | zero =>
    rintro s ⟨dl, h⟩
    have : 0 = s := by simpa [stp] using h
    subst this
    exact Nat.two_pow_pos _
  | succ a ih =>
    intro s h
    rcases (Rc_succ hT).mp h with h1 | ⟨ha, -, t, s0, -, t2, h1, e⟩
    · exact ih h1
    · rw [e]; exact Nat.or_lt_two_pow (ih h1) (Nat.pow_lt_pow_right (by decide) (by have := hT.2.2.2.2.1 a ha; omega))
theorem Rc_k {T : NT} (hT : wfT T) {who s : Nat} : ∀ m, Rc T who (T 0 1 + m) s ↔ Rc T who (T 0 1) s := by
  intro m
  induction m with
  | zero => exact Iff.rfl
  | succ m ih =>
    rw [← Nat.add_assoc, Rc_succ hT, ih]
    constructor
    · rintro (h | ⟨h, -⟩)
      · exact h
      · omega
    · exact Or.inl
theorem Rc_4 {T : NT} (hT : wfT T) {who s : Nat} : Rc T who 4 s ↔ Rc T who (T 0 1) s := by
  have := Rc_k hT (who := who) (s := s) (4 - T 0 1)
  rwa [show T 0 1 + (4 - T 0 1) = 4 by have := hT.2.1; omega] at this
theorem Rc_z {T : NT} {who : Nat} (a : Nat) : Rc T who a 0 := by
  refine ⟨fun _ => 4, ?_⟩
  induction a with
  | zero => rfl
  | succ a ih => exact stp_s.mpr ⟨0, ih, by unfold one; rw [if_pos (Nat.le_refl _)]⟩
section SETS
variable {T : NT} {u v l z : TU} {A : Nat → Int32} {N : Nat} {sd : Int64}
theorem bit_or1 {M x : Nat} (s : Nat) : (M ||| 2 ^ x).testBit s = true ↔ M.testBit s = true ∨ s = x := by
  rw [Nat.testBit_or, Nat.testBit_two_pow, Bool.or_eq_true, decide_eq_true_iff]
  exact or_congr Iff.rfl ⟨fun h => h.symm, fun h => h.symm⟩
theorem cs_more (hT : wfT T) (hC : CT0 v T) (hN : 700 ≤ N) {a M : Nat} (ha : a < T 0 1) (hM : M < 2 ^ 31) : ∃ M', f_X1_setsWithOneMore N z v (nI M) (nI a) = some (nI M') ∧ ∀ s, M'.testBit s = true ↔ M.testBit s = true ∨ ∃ t s0, T 6 a ≤ t ∧ t ≤ T 7 a ∧ s0 < 2 ^ T 0 0 ∧ M.testBit s0 = true ∧ s = s0 ||| 2 ^ t := by
  have h4 := hT.1
  have hk := hT.2.1
  have h16 := px_sh16 h4
  obtain ⟨w1, w2⟩ := hT.2.2.2.2.1 a ha
  obtain ⟨e5, e6⟩ := hC.2.2.2.2.2.1 a ha
  have inner : ∀ (rec6 : Int32 → Int32 → Option Int32) (j M0 : Nat), j < 2 ^ T 0 0 → ∃ M', lq2 (g_X1_setsWithOneMore_41 N z v rec6 (nI M) (nI a) (nI j) 1) N (nI M0) (nI (T 6 a)) = rec6 (nI M') (nI j + 1) ∧ ∀ s, M'.testBit s = true ↔ M0.testBit s = true ∨ ∃ t, T 6 a ≤ t ∧ t ≤ T 7 a ∧ s = j ||| 2 ^ t := by
    intro rec6 j M0 hj
    obtain ⟨x, ⟨M', rfl, hM'⟩, h2⟩ := lq2_inv (b := g_X1_setsWithOneMore_41 N z v rec6 (nI M) (nI a) (nI j) 1) (T 6 a) (T 7 a + 1) N (fun i x => ∃ M', x = nI M' ∧ ∀ s, M'.testBit s = true ↔ M0.testBit s = true ∨ ∃ t, T 6 a ≤ t ∧ t < i ∧ s = j ||| 2 ^ t) (fun x => rec6 x (nI j + 1)) (fun rec x _ => by
      unfold g_X1_setsWithOneMore_41
      rw [if_neg (by decide), px_rd (by omega) (by decide), e6, Option.bind_some, if_pos (nI_lt (by omega) (by omega))]) (fun rec x i g1 g2 ⟨M', hx, hM'⟩ => by
      refine ⟨nI (M' ||| 2 ^ (j ||| 2 ^ i)), ⟨_, rfl, fun s => ?_⟩, ?_⟩
      · rw [bit_or1, hM']
        constructor
        · rintro ((h | ⟨t, t1, t2, t3⟩) | h)
          · exact Or.inl h
          · exact Or.inr ⟨t, t1, by omega, t3⟩
          · exact Or.inr ⟨i, g1, by omega, h⟩
        · rintro (h | ⟨t, t1, t2, t3⟩)
          · exact Or.inl (Or.inl h)
          · rcases (show t < i ∨ t = i by omega) with h | rfl
            · exact Or.inl (Or.inr ⟨t, t1, h, t3⟩)
            · exact Or.inr t3
      · have hji : j ||| 2 ^ i < 2 ^ 4 := Nat.or_lt_two_pow (by omega) (Nat.pow_lt_pow_right (by decide) (by omega))
        unfold g_X1_setsWithOneMore_41 mk_nm
        rw [if_neg (by decide), px_rd (by omega) (by decide), e6, Option.bind_some, if_neg (nI_nlt (by omega) (by omega)), hx, px_sh (by omega), px_or, px_sh (by omega), px_or, nI_1]) (nI M0) ⟨M0, rfl, fun s => by
      constructor
      · exact Or.inl
      · rintro (h | ⟨t, t1, t2, -⟩)
        · exact h
        · omega⟩ (by omega) (by omega)
    exact ⟨M', h2, fun s => by
      rw [hM']
      constructor
      · rintro (h | ⟨t, t1, t2, t3⟩)
        · exact Or.inl h
        · exact Or.inr ⟨t, t1, by omega, t3⟩
      · rintro (h | ⟨t, t1, t2, t3⟩)
        · exact Or.inl h
        · exact Or.inr ⟨t, t1, by omega, t3⟩⟩
  have none : ∀ (rec6 : Int32 → Int32 → Option Int32) (x4 x5 x7 : Int32), lq2 (g_X1_setsWithOneMore_41 N z v rec6 (nI M) (nI a) x5 0) N x4 x7 = rec6 x4 (x5 + 1) := by
    intro rec6 x4 x5 x7
    obtain ⟨n, rfl⟩ : ∃ n, N = n + 1 := ⟨N - 1, by omega⟩
    simp only [lq2]
    unfold g_X1_setsWithOneMore_41
    rw [if_pos rfl]
  unfold f_X1_setsWithOneMore
  obtain ⟨x, ⟨M', rfl, hM'⟩, h2⟩ := lq2_inv (b := g_X1_setsWithOneMore_6 N z v (nI M) (nI a)) 0 (2 ^ T 0 0) N (fun j x => ∃ M', x = nI M' ∧ ∀ s, M'.testBit s = true ↔ M.testBit s = true ∨ ∃ t s0, T 6 a ≤ t ∧ t ≤ T 7 a ∧ s0 < j ∧ M.testBit s0 = true ∧ s = s0 ||| 2 ^ t) (fun x => some x) (fun rec x _ => by
    unfold g_X1_setsWithOneMore_6
    rw [hC.1, px_sh (by omega), if_pos (Int32.le_refl _)]) (fun rec x j _ hj ⟨M0, hx, hM0⟩ => by
    unfold g_X1_setsWithOneMore_6 g_X1_setsWithOneMore_31
    rw [hC.1, px_sh (by omega), if_neg (nI_ge hj (by omega)), px_rd (by omega) (by decide), e5, Option.bind_some, Option.bind_some, hx]
    by_cases hb : M.testBit j = true
    · obtain ⟨M', g1, g2⟩ := inner rec j M0 hj
      refine ⟨nI M', ⟨M', rfl, fun s => ?_⟩, ?_⟩
      · rw [g2, hM0]
        constructor
        · rintro ((h | ⟨t, s0, t1, t2, t3, t4, t5⟩) | ⟨t, t1, t2, t3⟩)
          · exact Or.inl h
          · exact Or.inr ⟨t, s0, t1, t2, by omega, t4, t5⟩
          · exact Or.inr ⟨t, j, t1, t2, by omega, hb, t3⟩
        · rintro (h | ⟨t, s0, t1, t2, t3, t4, t5⟩)
          · exact Or.inl (Or.inl h)
          · rcases (show s0 < j ∨ s0 = j by omega) with h | rfl
            · exact Or.inl (Or.inr ⟨t, s0, t1, t2, h, t4, t5⟩)
            · exact Or.inr ⟨t, t1, t2, t5⟩
      · rw [if_neg (by rw [px_bit0 hM (by omega), hb]; decide), g1, nI_1]
    · refine ⟨nI M0, ⟨M0, rfl, fun s => ?_⟩, ?_⟩
      · rw [hM0]
        constructor
        · rintro (h | ⟨t, s0, t1, t2, t3, t4, t5⟩)
          · exact Or.inl h
          · exact Or.inr ⟨t, s0, t1, t2, by omega, t4, t5⟩
        · rintro (h | ⟨t, s0, t1, t2, t3, t4, t5⟩)
          · exact Or.inl h
          · rcases (show s0 < j ∨ s0 = j by omega) with h | rfl
            · exact Or.inr ⟨t, s0, t1, t2, h, t4, t5⟩
            · exact absurd t4 hb
      · rw [if_pos (by rw [px_bit0 hM (by omega)]; simpa using hb), none, nI_1]) (nI M) ⟨M, rfl, fun s => by
    constructor
    · exact Or.inl
    · rintro (h | ⟨t, s0, -, -, t3, -⟩)
      · exact h
      · omega⟩ (Nat.zero_le _) (by omega)
  exact ⟨M', h2, hM'⟩
/-- M holds just the sets that the first a askers of who can ask of -/
def SM (T : NT) (who a M : Nat) : Prop := ∀ s, M.testBit s = true ↔ Rc T who a s
theorem SM_lt (hT : wfT T) {who a M : Nat} (h : SM T who a M) : M < 2 ^ 16 := by
  have h16 := px_sh16 hT.1
  apply Nat.lt_pow_two_of_testBit
  intro i hi
  cases hb : M.testBit i
  · rfl
  · have := Rc_lt hT ((h i).mp hb)
    omega
theorem cs_sets (hT : wfT T) (hC : CT0 v T) (hN : 700 ≤ N) {who : Nat} (hw : who < 2 ^ 31) : ∃ M, f_X1_setsFor N z v (nI who) = some (nI M) ∧ SM T who 4 M := by
  have hk := hT.2.1
  unfold f_X1_setsFor
  obtain ⟨x, ⟨M, rfl, hM⟩, h2⟩ := lq2_inv (b := g_X1_setsFor_5 N z v (nI who)) 0 (T 0 1) N (fun a x => ∃ M, x = nI M ∧ SM T who a M) (fun x => some x) (fun rec x _ => by
    unfold g_X1_setsFor_5
    rw [hC.2.2.1, if_pos (Int32.le_refl _)]) (fun rec x a _ ha ⟨M, hx, hM⟩ => by
    unfold g_X1_setsFor_5
    have hlt := SM_lt hT hM
    obtain ⟨M', m1, m2⟩ := cs_more (z := z) hT hC hN ha (show M < 2 ^ 31 by omega)
    rw [hC.2.2.1, if_neg (nI_ge ha (by omega)), hx, m1, Option.bind_some, nI_1]
    by_cases hb : who.testBit a = true
    · refine ⟨nI M', ⟨M', rfl, fun s => ?_⟩, ?_⟩
      · rw [m2, Rc_succ hT, hM s]
        constructor
        · rintro (h | ⟨t, s0, t1, t2, -, t3, t4⟩)
          · exact Or.inl h
          · exact Or.inr ⟨ha, hb, t, s0, t1, t2, (hM s0).mp t3, t4⟩
        · rintro (h | ⟨-, -, t, s0, t1, t2, t3, t4⟩)
          · exact Or.inl h
          · exact Or.inr ⟨t, s0, t1, t2, Rc_lt hT t3, (hM s0).mpr t3, t4⟩
      · rw [if_neg (by rw [px_bit0 hw (by omega), hb]; decide)]
    · refine ⟨nI M, ⟨M, rfl, fun s => ?_⟩, ?_⟩
      · rw [hM s, Rc_succ hT]
        constructor
        · exact Or.inl
        · rintro (h | ⟨-, h, -⟩)
          · exact h
          · exact absurd h hb
      · rw [if_pos (by rw [px_bit0 hw (by omega)]; simpa using hb)]) (nI 1) ⟨1, rfl, fun s => by
    constructor
    · intro h
      have : s = 0 := by
        rcases Nat.eq_zero_or_pos s with h0 | h0
        · exact h0
        · rw [show 1 = 2 ^ 0 from rfl, Nat.testBit_two_pow] at h
          have : 0 = s := by simpa using h
          exact this.symm
      subst this
      exact Rc_z 0
    · rintro ⟨dl, h⟩
      have : 0 = s := by simpa [stp] using h
      subst this
      rfl⟩ (Nat.zero_le _) (by omega)
  exact ⟨M, h2, fun s => by rw [hM s, Rc_4 hT]⟩
end SETS
