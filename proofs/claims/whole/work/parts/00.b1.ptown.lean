/-! the town: its numbers, and the class's Town by them -/
abbrev NT : Type := Nat → Nat → Nat
/-- T 0 0 things, T 0 1 askers, T 0 2 links; T 1 early, 2 late, 3 tenths, 4 coins, 5 truth (1: late), 6 first, 7 last, 8 from, 9 to -/
def wfT (T : NT) : Prop := T 0 0 ≤ 4 ∧ T 0 1 ≤ 4 ∧ T 0 2 ≤ 3 ∧ (∀ i, i < T 0 0 → 1 ≤ T 1 i ∧ T 1 i < T 2 i ∧ T 2 i ≤ 9 ∧ T 3 i ≤ 9 ∧ 1 ≤ T 4 i ∧ T 4 i ≤ 9 ∧ T 5 i ≤ 1) ∧ (∀ a, a < T 0 1 → T 6 a ≤ T 7 a ∧ T 7 a < T 0 0) ∧ (∀ j, j < T 0 2 → T 8 j < T 0 0 ∧ T 9 j < T 0 0)
def trm (T : NT) : Nat := mkm (fun i => T 5 i == 1) (T 0 0)
def endOf (T : NT) (w i : Nat) : Nat := if w.testBit i then T 2 i else T 1 i
def tE (T : NT) (i : Nat) : Nat := if T 5 i = 1 then T 2 i else T 1 i
def okL (T : NT) (w : Nat) : Nat → Bool
  | 0 => true
  | j + 1 => okL T w j && (w.testBit (T 8 j) || !w.testBit (T 9 j))
def okW (T : NT) (w : Nat) : Bool := okL T w (T 0 2)
def wtL (T : NT) (w : Nat) : Nat → Nat
  | 0 => 1
  | i + 1 => wtL T w i * (if w.testBit i then 10 - T 3 i else T 3 i)
def wt (T : NT) (w : Nat) : Nat := wtL T w (T 0 0)
def CT0 (v : TU) (T : NT) : Prop := v 0 0 = nI (T 0 0) ∧ v 0 1 = nI (trm T) ∧ v 0 2 = nI (T 0 1) ∧ v 0 3 = nI (T 0 2) ∧ (∀ i, i < T 0 0 → v 1 i = nI (T 1 i) ∧ v 2 i = nI (T 2 i) ∧ v 3 i = nI (T 3 i) ∧ v 4 i = nI (T 4 i)) ∧ (∀ a, a < T 0 1 → v 5 a = nI (T 6 a) ∧ v 6 a = nI (T 7 a)) ∧ (∀ j, j < T 0 2 → v 7 j = nI (T 8 j) ∧ v 8 j = nI (T 9 j))
def CT (v : TU) (T : NT) : Prop := CT0 v T ∧ v 0 4 = nI (mkm (okW T) (2 ^ T 0 0)) ∧ ∀ w, w < 2 ^ T 0 0 → v 9 w = nI (wt T w)
theorem lq2_up {A w : Type} {b : (A → Int32 → Option w) → A → Int32 → Option w} (e N : Nat) (F : Nat → A) (r : Option w) (hN : e < N) (he : e < 2 ^ 31) (B : Int32) (hB : B = nI e) (fin : A → Option w) (stp : (A → Int32 → Option w) → A → Int32 → Option w) (hb : ∀ rec s x, b rec s x = if B ≤ x then fin s else stp rec s x) (hx : fin (F e) = r) (hs : ∀ rec i, i < e → stp rec (F i) (nI i) = rec (F (i + 1)) (nI i + 1)) : lq2 b N (F 0) (nI 0) = r := by
  refine lq2_for 0 e N F r (fun rec => ?_) (fun rec i _ hi => ?_) (Nat.zero_le _) (by omega)
  · rw [hb, hB, if_pos (Int32.le_refl _), hx]
  · rw [hb, hB, if_neg (nI_ge hi he), hs rec i hi, nI_1]
theorem lq1_up {w : Type} {b : (Int32 → Option w) → Int32 → Option w} (e N : Nat) (r : Option w) (hN : e < N) (he : e < 2 ^ 31) (B : Int32) (hB : B = nI e) (fin : Option w) (stp : (Int32 → Option w) → Int32 → Option w) (hb : ∀ rec x, b rec x = if B ≤ x then fin else stp rec x) (hx : fin = r) (hs : ∀ rec i, i < e → stp rec (nI i) = rec (nI i + 1)) : lq1 b N (nI 0) = r := by
  refine lq1_for 0 e N r (fun rec => ?_) (fun rec i _ hi => ?_) (Nat.zero_le _) (by omega)
  · rw [hb, hB, if_pos (Int32.le_refl _), hx]
  · rw [hb, hB, if_neg (nI_ge hi he), hs rec i hi, nI_1]
theorem mkm_31 (p : Nat → Bool) {k : Nat} (h : k ≤ 30) : mkm p k < 2 ^ 31 := Nat.lt_of_lt_of_le (mkm_lt p k) (Nat.pow_le_pow_right (by decide) (by omega))
theorem px_sh16 {n : Nat} (h : n ≤ 4) : 2 ^ n ≤ 16 := Nat.pow_le_pow_right (by decide) h
section TOWN
variable {T : NT} {v : TU} {N : Nat}
theorem ct_isLate {w i : Nat} (hw : w < 2 ^ 31) (hi : i < 31) : f_X5_isLate N v (nI w) (nI i) = some (if w.testBit i then 1 else 0) := by
  unfold f_X5_isLate
  by_cases h : w.testBit i = true
  · rw [if_neg (by rw [px_bit0 hw hi, h]; decide), if_pos h]
  · rw [if_pos (by rw [px_bit0 hw hi]; simpa using h), if_neg h]
theorem ct_endIn (hT : wfT T) (hC : CT0 v T) {w i : Nat} (hw : w < 2 ^ 31) (hi : i < T 0 0) : f_X5_endIn N v (nI w) (nI i) = some (nI (endOf T w i)) := by
  have h4 := hT.1
  obtain ⟨e1, e2, -, -⟩ := hC.2.2.2.2.1 i hi
  unfold f_X5_endIn endOf
  rw [ct_isLate hw (by omega), px_rd (by omega) (by decide), px_rd (by omega) (by decide)]
  by_cases h : w.testBit i = true
  · rw [if_pos h, if_pos h, e2]; rfl
  · rw [if_neg h, if_neg h, e1]; rfl
theorem trm_bit {i : Nat} (hi : i < T 0 0) : (trm T).testBit i = (T 5 i == 1) := by
  unfold trm; rw [mkm_bit]; simp [hi]
theorem trm_31 (hT : wfT T) : trm T < 2 ^ 31 := mkm_31 _ (by have := hT.1; omega)
theorem tE_end {i : Nat} (hi : i < T 0 0) : endOf T (trm T) i = tE T i := by
  unfold endOf tE; rw [trm_bit hi]; simp
theorem ct_trueEnd (hT : wfT T) (hC : CT0 v T) {i : Nat} (hi : i < T 0 0) : f_X5_trueEnd N v (nI i) = some (nI (tE T i)) := by
  unfold f_X5_trueEnd
  rw [hC.2.1, ct_endIn hT hC (trm_31 hT) hi, tE_end hi]
  rfl
theorem tE_9 (hT : wfT T) {i : Nat} (hi : i < T 0 0) : tE T i ≤ 9 := by
  have := hT.2.2.2.1 i hi
  unfold tE; split <;> omega
theorem endOf_9 (hT : wfT T) {w i : Nat} (hi : i < T 0 0) : endOf T w i ≤ 9 := by
  have := hT.2.2.2.1 i hi
  unfold endOf; split <;> omega
theorem ct_ended (hT : wfT T) (hC : CT0 v T) (hN : 700 ≤ N) {d : Nat} (hd : d ≤ 9) : f_X5_thingsEndedOn N v (nI d) = some (nI (mkm (fun i => decide (tE T i ≤ d)) (T 0 0))) := by
  have h4 := hT.1
  unfold f_X5_thingsEndedOn
  refine lq2_up (T 0 0) N (fun i => nI (mkm (fun i => decide (tE T i ≤ d)) i)) _ (by omega) (by omega) _ hC.1 _ _ (fun _ _ _ => rfl) rfl (fun rec i hi => ?_)
  try dsimp only
  have h9 := tE_9 hT hi
  rw [ct_trueEnd hT hC hi]
  simp only [Option.bind_some]
  rw [px_sh (by omega), px_or]
  by_cases h : tE T i ≤ d
  · rw [if_neg (nI_nlt h (by omega)), show mkm (fun i => decide (tE T i ≤ d)) i ||| 2 ^ i = mkm (fun i => decide (tE T i ≤ d)) (i + 1) by rw [← mkm_or]; simp [h]]
  · rw [if_pos (nI_lt (by omega) (by omega)), show mkm (fun i => decide (tE T i ≤ d)) (i + 1) = mkm (fun i => decide (tE T i ≤ d)) i by simp [mkm, h]]
theorem ct_like (hT : wfT T) (hC : CT0 v T) (hN : 700 ≤ N) (p : Nat → Bool) {s m : Nat} (hs : s < 2 ^ 31) : f_X5_worldsLike N v (nI (mkm p (2 ^ T 0 0))) (nI s) (nI m) = some (nI (mkm (fun w => p w && (((w ^^^ m) &&& s) == 0)) (2 ^ T 0 0))) := by
  have h4 := hT.1
  have h16 := px_sh16 h4
  unfold f_X5_worldsLike
  refine lq2_up (2 ^ T 0 0) N (fun i => nI (mkm (fun w => p w && (((w ^^^ m) &&& s) == 0)) i)) _ (by omega) (by omega) _ (by rw [hC.1, px_sh (by omega)]) _ _ (fun _ _ _ => rfl) rfl (fun rec i hi => ?_)
  try dsimp only
  have hb : ((nI (mkm p (2 ^ T 0 0)) >>> (nI i &&& 31)) &&& (1 : Int32)) = 0 ↔ p i = false := by
    rw [px_bit0 (mkm_31 p (by omega)) (by omega), mkm_bit]; simp [hi]
  have hz : ((nI i ^^^ nI m) &&& nI s) = 0 ↔ ((i ^^^ m) &&& s) = 0 := by
    rw [px_xor, px_and, px_0]
    exact nI_eq (Nat.lt_of_le_of_lt Nat.and_le_right hs) (by decide)
  rw [px_sh (by omega), px_or]
  by_cases h1 : p i = true
  · rw [if_neg (by rw [hb, h1]; decide)]
    by_cases h2 : ((i ^^^ m) &&& s) = 0
    · rw [if_pos (hz.mpr h2), show mkm (fun w => p w && (((w ^^^ m) &&& s) == 0)) i ||| 2 ^ i = mkm (fun w => p w && (((w ^^^ m) &&& s) == 0)) (i + 1) by rw [← mkm_or]; simp [h1, h2]]
    · rw [if_neg (fun q => h2 (hz.mp q)), show mkm (fun w => p w && (((w ^^^ m) &&& s) == 0)) (i + 1) = mkm (fun w => p w && (((w ^^^ m) &&& s) == 0)) i by simp [mkm, h2]]
  · rw [if_pos (by rw [hb]; simpa using h1), show mkm (fun w => p w && (((w ^^^ m) &&& s) == 0)) (i + 1) = mkm (fun w => p w && (((w ^^^ m) &&& s) == 0)) i by simp [mkm, h1]]
theorem ct_parts (hT : wfT T) (hC : CT v T) (hN : 700 ≤ N) (p : Nat → Bool) : f_X5_partsOf N v (nI (mkm p (2 ^ T 0 0))) = some (nI (sm (fun w => if p w then wt T w else 0) (2 ^ T 0 0))) := by
  have h4 := hT.1
  have h16 := px_sh16 h4
  unfold f_X5_partsOf
  refine lq2_up (2 ^ T 0 0) N (fun i => nI (sm (fun w => if p w then wt T w else 0) i)) _ (by omega) (by omega) _ (by rw [hC.1.1, px_sh (by omega)]) _ _ (fun _ _ _ => rfl) rfl (fun rec i hi => ?_)
  try dsimp only
  have hb : ((nI (mkm p (2 ^ T 0 0)) >>> (nI i &&& 31)) &&& (1 : Int32)) = 0 ↔ p i = false := by
    rw [px_bit0 (mkm_31 p (by omega)) (by omega), mkm_bit]; simp [hi]
  rw [px_rd (by omega) (by decide), hC.2.2 i hi]
  simp only [Option.bind_some, nI_add]
  by_cases h1 : p i = true
  · rw [if_neg (by rw [hb, h1]; decide)]; simp [sm, h1]
  · rw [if_pos (by rw [hb]; simpa using h1)]; simp [sm, h1]
theorem ct_partsE (hT : wfT T) (hC : CT v T) (hN : 700 ≤ N) (p : Nat → Bool) {t : Nat} (ht : t < T 0 0) : f_X5_partsOfEarly N v (nI (mkm p (2 ^ T 0 0))) (nI t) = some (nI (sm (fun w => if p w && !w.testBit t then wt T w else 0) (2 ^ T 0 0))) := by
  have h4 := hT.1
  have h16 := px_sh16 h4
  unfold f_X5_partsOfEarly
  refine lq2_up (2 ^ T 0 0) N (fun i => nI (sm (fun w => if p w && !w.testBit t then wt T w else 0) i)) _ (by omega) (by omega) _ (by rw [hC.1.1, px_sh (by omega)]) _ _ (fun _ _ _ => rfl) rfl (fun rec i hi => ?_)
  try dsimp only
  have hb : ((nI (mkm p (2 ^ T 0 0)) >>> (nI i &&& 31)) &&& (1 : Int32)) = 0 ↔ p i = false := by
    rw [px_bit0 (mkm_31 p (by omega)) (by omega), mkm_bit]; simp [hi]
  rw [px_rd (by omega) (by decide), hC.2.2 i hi, ct_isLate (by omega) (by omega)]
  simp only [Option.bind_some, nI_add]
  by_cases h1 : p i = true
  · rw [if_neg (by rw [hb, h1]; decide)]
    by_cases h2 : i.testBit t = true
    · rw [if_pos h2, if_neg (by decide)]; simp [sm, h1, h2]
    · rw [if_neg h2, if_pos rfl]; simp [sm, h1, h2]
  · rw [if_pos (by rw [hb]; simpa using h1)]; simp [sm, h1]
end TOWN
