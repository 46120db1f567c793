/-! common divisors, counts of bits -/
theorem gcd_st {x y : Nat} : Nat.gcd x y = Nat.gcd y (x % y) := by
  rw [Nat.gcd_comm x y, Nat.gcd_rec y x, Nat.gcd_comm]
theorem half_mod {y r : Nat} (h0 : 0 < r) (hr : r < y) : 2 * (y % r) < y := by
  rcases Nat.lt_or_ge (2 * r) (y + 1) with h | h
  · have := Nat.mod_lt y h0
    omega
  · have e : y % r = y - r := by
      rw [Nat.mod_eq_sub_mod (by omega), Nat.mod_eq_of_lt (by omega)]
    omega
theorem eu_ref {N : Nat} : ∀ (k n x y : Nat), y < 2 ^ k → x < 2 ^ 31 → y < 2 ^ 31 → 2 * k + 1 ≤ n → lq2 (g_X7_common_4 N) n (nI x) (nI y) = some (nI (Nat.gcd x y)) := by
  intro k
  induction k with
  | zero =>
    intro n x y h hx _ hn
    obtain ⟨n, rfl⟩ : ∃ n', n = n' + 1 := ⟨n - 1, by omega⟩
    have : y = 0 := by simpa using h
    subst this
    simp only [lq2]
    unfold g_X7_common_4
    rw [if_pos (show nI 0 = 0 from rfl), Nat.gcd_zero_right]
  | succ k ih =>
    intro n x y h hx hy hn
    obtain ⟨n, rfl⟩ : ∃ n', n = n' + 2 := ⟨n - 2, by omega⟩
    by_cases h0 : y = 0
    · subst h0
      simp only [lq2]
      unfold g_X7_common_4
      rw [if_pos (show nI 0 = 0 from rfl), Nat.gcd_zero_right]
    · have hr := Nat.mod_lt x (by omega : 0 < y)
      have e1 : g_X7_common_4 N (lq2 (g_X7_common_4 N) (n + 1)) (nI x) (nI y) = lq2 (g_X7_common_4 N) (n + 1) (nI y) (nI (x % y)) := by
        unfold g_X7_common_4
        rw [if_neg (nI_ne0 (by omega) hy)]
        unfold mk_nz
        rw [if_neg (nI_ne0 (by omega) hy)]
        simp only [Option.bind_some]
        rw [pk_rem hx (by omega) hy]
      rw [show lq2 (g_X7_common_4 N) (n + 2) (nI x) (nI y) = g_X7_common_4 N (lq2 (g_X7_common_4 N) (n + 1)) (nI x) (nI y) from rfl, e1, gcd_st]
      by_cases h1 : x % y = 0
      · rw [h1]
        simp only [lq2]
        unfold g_X7_common_4
        rw [if_pos (show nI 0 = 0 from rfl), Nat.gcd_zero_right]
      · have hs := half_mod (by omega : 0 < x % y) hr
        have e2 : g_X7_common_4 N (lq2 (g_X7_common_4 N) n) (nI y) (nI (x % y)) = lq2 (g_X7_common_4 N) n (nI (x % y)) (nI (y % (x % y))) := by
          unfold g_X7_common_4
          rw [if_neg (nI_ne0 (by omega) (by omega))]
          unfold mk_nz
          rw [if_neg (nI_ne0 (by omega) (by omega))]
          simp only [Option.bind_some]
          rw [pk_rem hy (by omega) (by omega)]
        rw [show lq2 (g_X7_common_4 N) (n + 1) (nI y) (nI (x % y)) = g_X7_common_4 N (lq2 (g_X7_common_4 N) n) (nI y) (nI (x % y)) from rfl, e2, ih n _ _ (by rw [Nat.pow_succ] at h; omega) (by omega) (by omega) (by omega), ← gcd_st]
theorem eu_cls {N : Nat} : ∀ (k n q x y : Nat), y < 2 ^ k → x < 2 ^ 31 → y < 2 ^ 31 → q + 2 * k ≤ 64 → 2 * k + 1 ≤ n → lq3 (g_X6_greatestDivisor_7 N) n (nI x) (nI y) (nI q) = some (nI (Nat.gcd x y)) := by
  have end0 : ∀ (n q x : Nat), lq3 (g_X6_greatestDivisor_7 N) (n + 1) (nI x) (nI 0) (nI q) = some (nI (Nat.gcd x 0)) := by
    intro n q x
    simp only [lq3]
    unfold g_X6_greatestDivisor_7
    rw [Nat.gcd_zero_right]
    split
    · rfl
    · rw [if_pos (show nI 0 = 0 from rfl)]
  have step : ∀ (n q x y : Nat), 0 < y → x < 2 ^ 31 → y < 2 ^ 31 → q < 64 → lq3 (g_X6_greatestDivisor_7 N) (n + 1) (nI x) (nI y) (nI q) = lq3 (g_X6_greatestDivisor_7 N) n (nI y) (nI (x % y)) (nI (q + 1)) := by
    intro n q x y h0 hx hy hq
    simp only [lq3]
    unfold g_X6_greatestDivisor_7
    rw [show (64 : Int32) = nI 64 from rfl, if_neg (nI_ge hq (by decide)), if_neg (nI_ne0 h0 hy)]
    unfold mk_nz
    rw [if_neg (nI_ne0 h0 hy)]
    simp only [Option.bind_some]
    rw [pk_rem hx h0 hy, nI_1]
  intro k
  induction k with
  | zero =>
    intro n q x y h hx _ _ hn
    obtain ⟨n, rfl⟩ : ∃ n', n = n' + 1 := ⟨n - 1, by omega⟩
    have : y = 0 := by simpa using h
    subst this
    exact end0 n q x
  | succ k ih =>
    intro n q x y h hx hy hq hn
    obtain ⟨n, rfl⟩ : ∃ n', n = n' + 2 := ⟨n - 2, by omega⟩
    by_cases h0 : y = 0
    · subst h0; exact end0 _ _ _
    · have hr := Nat.mod_lt x (by omega : 0 < y)
      rw [step (n + 1) q x y (by omega) hx hy (by omega), gcd_st]
      by_cases h1 : x % y = 0
      · rw [h1]; exact end0 _ _ _
      · have hs := half_mod (by omega : 0 < x % y) hr
        rw [step n (q + 1) y (x % y) (by omega) hy (by omega) (by omega), ih n _ _ _ (by rw [Nat.pow_succ] at h; omega) (by omega) (by omega) (by omega) (by omega), ← gcd_st]
def frc (a b : Nat) (p : Int32) : Int32 := if p = 0 then nI (b / Nat.gcd a b) else nI (a / Nat.gcd a b)
theorem gcd_pos {a b : Nat} (hb : 0 < b) : 0 < Nat.gcd a b := Nat.gcd_pos_of_pos_right a hb
theorem gcd_lt {a b : Nat} (hb : 0 < b) (hb2 : b < 2 ^ 31) : Nat.gcd a b < 2 ^ 31 := Nat.lt_of_le_of_lt (Nat.gcd_le_right a hb) hb2
theorem ct_fraction {N : Nat} (hN : 700 ≤ N) {a b : Nat} (p : Int32) (ha : a < 2 ^ 31) (hb : 0 < b) (hb2 : b < 2 ^ 31) : f_X6_fraction N (nI a) (nI b) p = some (frc a b p) := by
  have g0 := gcd_pos (a := a) hb
  have g1 := gcd_lt (a := a) hb hb2
  unfold f_X6_fraction f_X6_greatestDivisor frc
  rw [px_0, eu_cls 31 N 0 a b hb2 ha hb2 (by omega) (by omega)]
  simp only [Option.bind_some]
  unfold mk_nz
  rw [if_pos (nI_lt g0 g1), if_neg (nI_ne0 g0 g1)]
  simp only [Option.bind_some]
  rw [pk_div hb2 g0 g1, pk_div ha g0 g1]
  split <;> rfl
theorem rf_common {N : Nat} (hN : 700 ≤ N) {a b : Nat} (ha : a < 2 ^ 31) (hb2 : b < 2 ^ 31) : f_X7_common N (nI a) (nI b) = some (nI (Nat.gcd a b)) := eu_ref 31 N a b hb2 ha hb2 (by omega)
/-- the reference's telling of a fraction -/
theorem rf_frac {N : Nat} (hN : 700 ≤ N) {a b : Nat} (p : Int32) (ha : a < 2 ^ 31) (hb : 0 < b) (hb2 : b < 2 ^ 31) {w : Type} (k : Int32 → Option w) : ((f_X7_common N (nI a) (nI b)).bind fun r => if p = 0 then ((mk_nz r).bind fun _ => k (nI b / r)) else (mk_nz r).bind fun _ => k (nI a / r)) = k (frc a b p) := by
  have g0 := gcd_pos (a := a) hb
  have g1 := gcd_lt (a := a) hb hb2
  rw [rf_common hN ha hb2]
  simp only [Option.bind_some]
  unfold mk_nz frc
  rw [if_neg (nI_ne0 g0 g1)]
  simp only [Option.bind_some]
  rw [pk_div hb2 g0 g1, pk_div ha g0 g1]
  split <;> rfl
def bcN (x : Nat) : Nat :=
  let y1 := x - ((x / 2) &&& 1431655765)
  let y2 := (y1 &&& 858993459) + ((y1 / 4) &&& 858993459)
  let y3 := (y2 + y2 / 16) &&& 252645135
  let y4 := y3 + y3 / 256
  (y4 + y4 / 65536) &&& 63
def q1 (x : Nat) : Nat := x - ((x / 2) &&& 1431655765)
def q2 (y : Nat) : Nat := (y &&& 858993459) + ((y / 4) &&& 858993459)
def q3 (z : Nat) : Nat := (z + z / 16) &&& 252645135
theorem and8 {A B C D : Nat} (hB : B < 256) (hD : D < 256) : (256 * A + B) &&& (256 * C + D) = 256 * (A &&& C) + (B &&& D) := by
  have hBD : B &&& D < 2 ^ 8 := Nat.lt_of_le_of_lt Nat.and_le_left hB
  apply Nat.eq_of_testBit_eq
  intro i
  rw [Nat.testBit_and, show 256 = 2 ^ 8 from rfl, Nat.testBit_two_pow_mul_add _ hB, Nat.testBit_two_pow_mul_add _ hD, Nat.testBit_two_pow_mul_add _ hBD]
  by_cases h : i < 8
  · simp [h]
  · simp [h]
theorem q1_s {a b : Nat} (ha : a < 256) (hb : b < 256) : q1 (256 * a + b) = 256 * q1 a + q1 b := by
  have h1 := (by decide +kernel : ∀ a, a < 256 → (a / 2) &&& 5592405 = (a / 2) &&& 1431655765) a ha
  have h2 := (by decide +kernel : ∀ e, e < 2 → ∀ b, b < 256 → (128 * e + b / 2) &&& 85 = (b / 2) &&& 1431655765) (a % 2) (by omega) b hb
  have h3 : (a / 2) &&& 1431655765 ≤ a / 2 := Nat.and_le_left
  have h4 : (b / 2) &&& 1431655765 ≤ b / 2 := Nat.and_le_left
  have key : (256 * a + b) / 2 &&& 1431655765 = 256 * ((a / 2) &&& 1431655765) + ((b / 2) &&& 1431655765) := by
    rw [show (256 * a + b) / 2 = 256 * (a / 2) + (128 * (a % 2) + b / 2) by omega]
    exact (and8 (C := 5592405) (D := 85) (by omega) (by decide)).trans (by rw [h1, h2])
  unfold q1
  rw [key]
  omega
theorem q2_s {a b : Nat} (ha : a < 256) (hb : b < 256) : q2 (256 * a + b) = 256 * q2 a + q2 b := by
  have h1 := (by decide +kernel : ∀ a, a < 256 → (a / 4) &&& 3355443 = (a / 4) &&& 858993459 ∧ a &&& 3355443 = a &&& 858993459 ∧ a &&& 51 = a &&& 858993459) a ha
  have h5 := (by decide +kernel : ∀ a, a < 256 → a &&& 51 = a &&& 858993459) b hb
  have h2 := (by decide +kernel : ∀ e, e < 4 → ∀ b, b < 256 → (64 * e + b / 4) &&& 51 = (b / 4) &&& 858993459) (a % 4) (by omega) b hb
  have k1 : (256 * a + b) / 4 &&& 858993459 = 256 * ((a / 4) &&& 858993459) + ((b / 4) &&& 858993459) := by
    rw [show (256 * a + b) / 4 = 256 * (a / 4) + (64 * (a % 4) + b / 4) by omega]
    exact (and8 (C := 3355443) (D := 51) (by omega) (by decide)).trans (by rw [h1.1, h2])
  have k2 : (256 * a + b) &&& 858993459 = 256 * (a &&& 858993459) + (b &&& 858993459) := (and8 (C := 3355443) (D := 51) hb (by decide)).trans (by rw [h1.2.1, h5])
  unfold q2
  rw [k1, k2]
  omega
theorem q3_s {a b : Nat} (ha : a ≤ 68) (ha2 : a % 16 ≤ 4) (hb : b ≤ 68) : q3 (256 * a + b) = 256 * q3 a + q3 b := by
  have h1 := (by decide +kernel : ∀ a, a < 69 → (a + a / 16) &&& 986895 = (a + a / 16) &&& 252645135) a (by omega)
  have h2 := (by decide +kernel : ∀ e, e < 5 → ∀ b, b < 69 → (b + b / 16 + 16 * e) &&& 15 = (b + b / 16) &&& 252645135) (a % 16) (by omega) b (by omega)
  unfold q3
  rw [show 256 * a + b + (256 * a + b) / 16 = 256 * (a + a / 16) + (b + b / 16 + 16 * (a % 16)) by omega]
  exact (and8 (C := 986895) (D := 15) (by omega) (by decide)).trans (by rw [h1, h2])
theorem q_8 : ∀ a, a < 256 → q1 a < 256 ∧ q2 (q1 a) ≤ 68 ∧ q2 (q1 a) % 16 ≤ 4 ∧ q3 (q2 (q1 a)) ≤ 8 ∧ q3 (q2 (q1 a)) = sm (fun i => if a.testBit i then 1 else 0) 8 := by decide +kernel
theorem sm_cat (g : Nat → Nat) (m : Nat) : ∀ k, sm g (m + k) = sm g m + sm (fun i => g (m + i)) k := by
  intro k
  induction k with
  | zero => rfl
  | succ k ih => rw [← Nat.add_assoc]; simp only [sm]; rw [ih]; omega
theorem bc_16 : ∀ a, a < 256 → ∀ b, b < 256 → bcN (256 * a + b) = sm (fun i => if (256 * a + b).testBit i then 1 else 0) 16 := by
  intro a ha b hb
  obtain ⟨a1, a2, a5, a3, a4⟩ := q_8 a ha
  obtain ⟨b1, b2, -, b3, b4⟩ := q_8 b hb
  have e : bcN (256 * a + b) = q3 (q2 (q1 a)) + q3 (q2 (q1 b)) := by
    show (let y4 := q3 (q2 (q1 (256 * a + b))) + q3 (q2 (q1 (256 * a + b))) / 256; (y4 + y4 / 65536) &&& 63) = _
    rw [q1_s ha hb, q2_s a1 b1, q3_s a2 a5 b2]
    exact (by decide +kernel : ∀ x, x < 9 → ∀ y, y < 9 → (let y4 := (256 * x + y) + (256 * x + y) / 256; (y4 + y4 / 65536) &&& 63) = x + y) _ (by omega) _ (by omega)
  rw [e, a4, b4, show 16 = 8 + 8 from rfl, sm_cat, Nat.add_comm]
  congr 1
  · exact sm_congr (fun i hi => by rw [show 256 = 2 ^ 8 from rfl, Nat.testBit_two_pow_mul_add _ hb, if_pos hi])
  · exact sm_congr (fun i hi => by rw [show 256 = 2 ^ 8 from rfl, Nat.testBit_two_pow_mul_add _ hb, if_neg (show ¬ 8 + i < 8 by omega), Nat.add_sub_cancel_left])
theorem px_ush {n k : Nat} (hn : n < 2 ^ 31) (s : Int32) (hs : ((s.toUInt32 &&& Int32.toUInt32 31).toBitVec % 32).toNat = k) : ((nI n).toUInt32 >>> (s.toUInt32 &&& Int32.toUInt32 31)).toInt32 = nI (n / 2 ^ k) := pk_ushrN (by omega) s k hs
theorem ct_bits {N : Nat} {x : Nat} (hx : x < 65536) : f_J6_bitCount_0f7a4 N (nI x) = some (nI (sm (fun i => if x.testBit i then 1 else 0) 16)) := by
  have e : sm (fun i => if x.testBit i then 1 else 0) 16 = bcN x := by
    have := bc_16 (x / 256) (by omega) (x % 256) (by omega)
    rw [Nat.div_add_mod] at this
    exact this.symm
  rw [e]
  unfold f_J6_bitCount_0f7a4 mk_nm bcN
  have h1 : (x / 2) &&& 1431655765 ≤ x := Nat.le_trans Nat.and_le_left (Nat.div_le_self x 2)
  rw [px_ush (by omega) 1 (k := 1) (by decide), show (1431655765 : Int32) = nI 1431655765 from rfl, px_and, show 2 ^ 1 = 2 from rfl, pk_sub h1]
  generalize hy1 : x - (x / 2 &&& 1431655765) = y1
  have hb1 : y1 < 2 ^ 31 := by omega
  try dsimp only
  rw [px_ush hb1 2 (k := 2) (by decide), show (858993459 : Int32) = nI 858993459 from rfl, px_and, px_and, nI_add, show 2 ^ 2 = 4 from rfl]
  generalize hy2 : (y1 &&& 858993459) + (y1 / 4 &&& 858993459) = y2
  have hb2 : y2 < 2 ^ 18 := by
    have a1 : y1 &&& 858993459 ≤ y1 := Nat.and_le_left
    have a2 : y1 / 4 &&& 858993459 ≤ y1 / 4 := Nat.and_le_left
    omega
  rw [px_ush (by omega) 4 (k := 4) (by decide), nI_add, show (252645135 : Int32) = nI 252645135 from rfl, px_and, show 2 ^ 4 = 16 from rfl]
  generalize hy3 : (y2 + y2 / 16) &&& 252645135 = y3
  have hb3 : y3 < 2 ^ 20 := by
    have a1 : (y2 + y2 / 16) &&& 252645135 ≤ y2 + y2 / 16 := Nat.and_le_left
    omega
  rw [px_ush (by omega) 8 (k := 8) (by decide), nI_add, show 2 ^ 8 = 256 from rfl]
  generalize hy4 : y3 + y3 / 256 = y4
  have hb4 : y4 < 2 ^ 21 := by omega
  rw [px_ush (by omega) 16 (k := 16) (by decide), nI_add, show (63 : Int32) = nI 63 from rfl, px_and]
theorem sm_cut {g : Nat → Nat} {K M : Nat} (h : K ≤ M) (hz : ∀ i, K ≤ i → i < M → g i = 0) : sm g M = sm g K := by
  induction M with
  | zero => rw [show K = 0 by omega]
  | succ M ih =>
    rcases (show K = M + 1 ∨ K ≤ M by omega) with rfl | h2
    · rfl
    · simp only [sm]
      rw [ih h2 (fun i h1 h3 => hz i h1 (by omega)), hz M h2 (by omega), Nat.add_zero]
def cnt (T : NT) (P : Nat → Bool) : Nat := sm (fun w => if P w then 1 else 0) (2 ^ T 0 0)
theorem ct_count {T : NT} {N : Nat} (hT : wfT T) (P : Nat → Bool) : f_J6_bitCount_0f7a4 N (nI (mkm P (2 ^ T 0 0))) = some (nI (cnt T P)) := by
  have h16 := px_sh16 hT.1
  have hl : mkm P (2 ^ T 0 0) < 65536 := Nat.lt_of_lt_of_le (mkm_lt P _) (show 2 ^ (2 ^ T 0 0) ≤ 2 ^ 16 from Nat.pow_le_pow_right (by decide) h16)
  rw [ct_bits hl, sm_cut h16 (fun i h1 _ => by rw [mkm_bit]; simp; intro h; omega)]
  unfold cnt
  rw [sm_congr (f := fun w => if P w then 1 else 0) (fun i hi => by rw [mkm_bit]; simp [hi])]
