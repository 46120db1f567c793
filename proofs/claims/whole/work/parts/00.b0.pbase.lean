/-! pure rows: numbers, bits, masks, sums, counted loops -/
theorem px_s : ∀ n, n < 32 → ((nI n &&& 31).toBitVec.smod 32).toNat = n := by decide +kernel
theorem px_sh {i : Nat} (h : i < 31) : (1 : Int32) <<< (nI i &&& 31) = nI (2 ^ i) := (by decide +kernel : ∀ i, i < 31 → (1 : Int32) <<< (nI i &&& 31) = nI (2 ^ i)) i h
theorem px_and (a b : Nat) : nI a &&& nI b = nI (a &&& b) := by
  apply Int32.toBitVec_inj.1
  show BitVec.ofNat 32 a &&& BitVec.ofNat 32 b = BitVec.ofNat 32 (a &&& b)
  apply BitVec.eq_of_getLsbD_eq
  intro i hi
  simp [hi]
theorem px_or (a b : Nat) : nI a ||| nI b = nI (a ||| b) := by
  apply Int32.toBitVec_inj.1
  show BitVec.ofNat 32 a ||| BitVec.ofNat 32 b = BitVec.ofNat 32 (a ||| b)
  apply BitVec.eq_of_getLsbD_eq
  intro i hi
  simp [hi]
theorem px_xor (a b : Nat) : nI a ^^^ nI b = nI (a ^^^ b) := by
  apply Int32.toBitVec_inj.1
  show BitVec.ofNat 32 a ^^^ BitVec.ofNat 32 b = BitVec.ofNat 32 (a ^^^ b)
  apply BitVec.eq_of_getLsbD_eq
  intro i hi
  simp [hi]
theorem px_1 : (1 : Int32) = nI 1 := rfl
theorem px_0 : (0 : Int32) = nI 0 := rfl
theorem px_shr {m i : Nat} (hm : m < 2 ^ 31) (hi : i < 31) : nI m >>> (nI i &&& 31) = nI (m / 2 ^ i) := pk_shrN hm _ i (px_s i (by omega))
theorem px_bit {m i : Nat} (hm : m < 2 ^ 31) (hi : i < 31) : ((nI m >>> (nI i &&& 31)) &&& (1 : Int32)) = if m.testBit i then 1 else 0 := by
  rw [px_shr hm hi, px_1, px_and, Nat.and_one_is_mod]
  rw [Nat.testBit_eq_decide_div_mod_eq]
  rcases Nat.mod_two_eq_zero_or_one (m / 2 ^ i) with h | h <;> rw [h] <;> rfl
theorem px_bit0 {m i : Nat} (hm : m < 2 ^ 31) (hi : i < 31) : ((nI m >>> (nI i &&& 31)) &&& (1 : Int32)) = 0 ↔ m.testBit i = false := by
  rw [px_bit hm hi]
  cases m.testBit i <;> decide
theorem px_orp {a k : Nat} (h : a < 2 ^ k) : a ||| 2 ^ k = a + 2 ^ k := by
  have := Nat.two_pow_add_eq_or_of_lt h 1
  rw [Nat.mul_one] at this
  rw [Nat.or_comm, ← this, Nat.add_comm]
def mkm (p : Nat → Bool) : Nat → Nat
  | 0 => 0
  | k + 1 => mkm p k + (if p k then 2 ^ k else 0)
theorem mkm_lt (p : Nat → Bool) (k : Nat) : mkm p k < 2 ^ k := by
  induction k with
  | zero => simp [mkm]
  | succ k ih => simp only [mkm, Nat.pow_succ]; split <;> omega
theorem mkm_or (p : Nat → Bool) (k : Nat) : mkm p k ||| (if p k then 2 ^ k else 0) = mkm p (k + 1) := by
  simp only [mkm]
  split
  · exact px_orp (mkm_lt p k)
  · simp
theorem mkm_bit (p : Nat → Bool) (k i : Nat) : (mkm p k).testBit i = (decide (i < k) && p i) := by
  induction k with
  | zero => simp [mkm]
  | succ k ih =>
    rw [← mkm_or, Nat.testBit_or, ih]
    by_cases hk : p k = true
    · rw [if_pos hk, Nat.testBit_two_pow]
      by_cases e : k = i
      · subst e; simp [hk]
      · have e2 : decide (i < k) = decide (i < k + 1) := decide_eq_decide.mpr (by omega)
        simp [e, e2]
    · rw [if_neg hk]
      by_cases e : k = i
      · subst e; simp at hk; simp [hk]
      · have e2 : decide (i < k) = decide (i < k + 1) := decide_eq_decide.mpr (by omega)
        simp [e2]
theorem mkm_congr {p q : Nat → Bool} {k : Nat} (h : ∀ i, i < k → p i = q i) : mkm p k = mkm q k := by
  induction k with
  | zero => rfl
  | succ k ih => simp only [mkm]; rw [ih (fun i hi => h i (by omega)), h k (by omega)]
theorem mkm_of {x k : Nat} (h : x < 2 ^ k) : mkm (fun i => x.testBit i) k = x := by
  apply Nat.eq_of_testBit_eq
  intro i
  rw [mkm_bit]
  by_cases hi : i < k
  · simp [hi]
  · simp only [hi, decide_false, Bool.false_and]
    rw [Nat.testBit_lt_two_pow (Nat.lt_of_lt_of_le h (Nat.pow_le_pow_right (by decide) (by omega)))]
def sm (g : Nat → Nat) : Nat → Nat
  | 0 => 0
  | k + 1 => sm g k + g k
theorem sm_congr {g f : Nat → Nat} {k : Nat} (h : ∀ i, i < k → g i = f i) : sm g k = sm f k := by
  induction k with
  | zero => rfl
  | succ k ih => simp only [sm]; rw [ih (fun i hi => h i (by omega)), h k (by omega)]
theorem sm_le {g : Nat → Nat} {B k : Nat} (h : ∀ i, i < k → g i ≤ B) : sm g k ≤ k * B := by
  induction k with
  | zero => simp [sm]
  | succ k ih => simp only [sm, Nat.succ_mul]; have := ih (fun i hi => h i (by omega)); have := h k (by omega); omega
theorem sm_0 {g : Nat → Nat} {k : Nat} (h : ∀ i, i < k → g i = 0) : sm g k = 0 := by
  induction k with
  | zero => rfl
  | succ k ih => simp only [sm]; rw [ih (fun i hi => h i (by omega)), h k (by omega)]
theorem sm_add (g f : Nat → Nat) (k : Nat) : sm (fun i => g i + f i) k = sm g k + sm f k := by
  induction k with
  | zero => rfl
  | succ k ih => simp only [sm]; rw [ih]; omega
theorem sm_mul (c : Nat) (g : Nat → Nat) (k : Nat) : sm (fun i => g i * c) k = sm g k * c := by
  induction k with
  | zero => simp [sm]
  | succ k ih => simp only [sm, Nat.add_mul]; rw [ih]
/-- the sum in another order: by xor with s -/
theorem sm_xor (n : Nat) (hn : n ≤ 4) (s : Nat) (hs : s < 2 ^ n) (g : Nat → Nat) : sm (fun x => g (x ^^^ s)) (2 ^ n) = sm g (2 ^ n) := by
  have key : ∀ n, n < 5 → ∀ s, s < 2 ^ n → ∀ g : Nat → Nat, sm (fun x => g (x ^^^ s)) (2 ^ n) = sm g (2 ^ n) := by
    intro n hn
    rcases (show n = 0 ∨ n = 1 ∨ n = 2 ∨ n = 3 ∨ n = 4 by omega) with rfl | rfl | rfl | rfl | rfl
    · intro s hs g
      rcases (show s = 0 by omega) with rfl
      simp [sm]
    · intro s hs g
      rcases (show s = 0 ∨ s = 1 by omega) with rfl | rfl <;> simp [sm] <;> omega
    · intro s hs g
      rcases (show s = 0 ∨ s = 1 ∨ s = 2 ∨ s = 3 by omega) with rfl | rfl | rfl | rfl <;> simp [sm] <;> omega
    · intro s hs g
      rcases (show s = 0 ∨ s = 1 ∨ s = 2 ∨ s = 3 ∨ s = 4 ∨ s = 5 ∨ s = 6 ∨ s = 7 by omega) with rfl | rfl | rfl | rfl | rfl | rfl | rfl | rfl <;> simp [sm] <;> omega
    · intro s hs g
      rcases (show s = 0 ∨ s = 1 ∨ s = 2 ∨ s = 3 ∨ s = 4 ∨ s = 5 ∨ s = 6 ∨ s = 7 ∨ s = 8 ∨ s = 9 ∨ s = 10 ∨ s = 11 ∨ s = 12 ∨ s = 13 ∨ s = 14 ∨ s = 15 by omega) with rfl | rfl | rfl | rfl | rfl | rfl | rfl | rfl | rfl | rfl | rfl | rfl | rfl | rfl | rfl | rfl <;> simp [sm] <;> omega
  exact key n (by omega) s hs g
/-! counted loops: F i is the state ahead of turn i; at turn e the body ends with r -/
theorem lq1_for {w : Type} {b : (Int32 → Option w) → Int32 → Option w} (i0 e N : Nat) (r : Option w) (hx : ∀ rec, b rec (nI e) = r) (hs : ∀ rec i, i0 ≤ i → i < e → b rec (nI i) = rec (nI (i + 1))) (hi : i0 ≤ e) (hN : e - i0 < N) : lq1 b N (nI i0) = r := by
  obtain ⟨k, rfl⟩ : ∃ k, e = i0 + k := ⟨e - i0, by omega⟩
  induction N generalizing i0 k with
  | zero => omega
  | succ N ih =>
    simp only [lq1]
    cases k with
    | zero => exact hx _
    | succ k =>
      rw [hs _ i0 (Nat.le_refl _) (by omega)]
      exact ih (i0 + 1) k (by rw [show i0 + 1 + k = i0 + (k + 1) by omega]; exact hx) (fun rec i h1 h2 => hs rec i (by omega) (by omega)) (by omega) (by omega)
theorem lq2_for {A w : Type} {b : (A → Int32 → Option w) → A → Int32 → Option w} (i0 e N : Nat) (F : Nat → A) (r : Option w) (hx : ∀ rec, b rec (F e) (nI e) = r) (hs : ∀ rec i, i0 ≤ i → i < e → b rec (F i) (nI i) = rec (F (i + 1)) (nI (i + 1))) (hi : i0 ≤ e) (hN : e - i0 < N) : lq2 b N (F i0) (nI i0) = r := by
  obtain ⟨k, rfl⟩ : ∃ k, e = i0 + k := ⟨e - i0, by omega⟩
  induction N generalizing i0 k with
  | zero => omega
  | succ N ih =>
    simp only [lq2]
    cases k with
    | zero => exact hx _
    | succ k =>
      rw [hs _ i0 (Nat.le_refl _) (by omega)]
      exact ih (i0 + 1) k (by rw [show i0 + 1 + k = i0 + (k + 1) by omega]; exact hx) (fun rec i h1 h2 => hs rec i (by omega) (by omega)) (by omega) (by omega)
theorem lq3_for {A B w : Type} {b : (A → B → Int32 → Option w) → A → B → Int32 → Option w} (i0 e N : Nat) (F : Nat → A) (G : Nat → B) (r : Option w) (hx : ∀ rec, b rec (F e) (G e) (nI e) = r) (hs : ∀ rec i, i0 ≤ i → i < e → b rec (F i) (G i) (nI i) = rec (F (i + 1)) (G (i + 1)) (nI (i + 1))) (hi : i0 ≤ e) (hN : e - i0 < N) : lq3 b N (F i0) (G i0) (nI i0) = r := by
  obtain ⟨k, rfl⟩ : ∃ k, e = i0 + k := ⟨e - i0, by omega⟩
  induction N generalizing i0 k with
  | zero => omega
  | succ N ih =>
    simp only [lq3]
    cases k with
    | zero => exact hx _
    | succ k =>
      rw [hs _ i0 (Nat.le_refl _) (by omega)]
      exact ih (i0 + 1) k (by rw [show i0 + 1 + k = i0 + (k + 1) by omega]; exact hx) (fun rec i h1 h2 => hs rec i (by omega) (by omega)) (by omega) (by omega)
theorem px_rd {f : Nat → Int32} {n i : Nat} (h : i < n) (hn : n < 2 ^ 31) : mk_rd f n (nI i) = some (f i) := by
  unfold mk_rd
  rw [nI_clamp (by omega), if_neg]
  intro q
  rcases q with q | q
  · exact nI_pos (by omega) q
  · omega
theorem px_ix {n i : Nat} (h : i < n) (hn : n < 2 ^ 31) : mk_ix n (nI i) = some () := by
  unfold mk_ix
  rw [nI_clamp (by omega), if_neg]
  intro q
  rcases q with q | q
  · exact nI_pos (by omega) q
  · omega
theorem px_z (b : Bool) : mk_z (if b then 1 else 0) = some () := by cases b <;> rfl
