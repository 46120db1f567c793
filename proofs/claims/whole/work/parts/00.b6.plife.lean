/-! lives: the day, coins, sold, asked (A: as the reference's row 'now') -/
def lifeR (v : TU) (A : Nat → Int32) : Prop := v 0 0 = A 0 ∧ v 0 1 = A 1 ∧ (∀ a, a < 4 → v 1 a = A (6 + a)) ∧ (∀ i, i < 4 → v 2 i = A (2 + i))
def wfA (T : NT) (A : Nat → Int32) : Prop := (∃ d, d ≤ 9 ∧ A 0 = nI d) ∧ (∀ i, i < 4 → A (2 + i) = -9 ∨ ∃ d, d ≤ 9 ∧ A (2 + i) = nI d) ∧ (∀ a, a < 4 → A (6 + a) = -9 ∨ (a < T 0 1 ∧ ∃ t, t < T 0 0 ∧ A (6 + a) = nI t))
def ab (A : Nat → Int32) (a : Nat) : Nat := if A (6 + a) = -9 then 0 else 2 ^ (A (6 + a)).toNatClampNeg
def orL (g : Nat → Nat) : Nat → Nat
  | 0 => 0
  | k + 1 => orL g k ||| g k
theorem nI_m9 {d : Nat} (hd : d < 2 ^ 31) : ¬ nI d = -9 := fun h => by
  have h1 := congrArg Int32.toInt h
  rw [nI_toInt hd] at h1
  have : (-9 : Int32).toInt = -9 := by decide
  omega
section LIFE
variable {T : NT} {v w u : TU} {A : Nat → Int32} {N : Nat} {sd : Int64}
theorem ab_lt (hT : wfT T) (hA : wfA T A) {a : Nat} (ha : a < 4) : ab A a < 2 ^ 4 := by
  unfold ab
  rcases hA.2.2 a ha with h | ⟨-, t, ht, h⟩
  · rw [if_pos h]; decide
  · have := hT.1
    rw [h, if_neg (nI_m9 (by omega)), nI_clamp (by omega)]
    exact Nat.pow_lt_pow_right (by decide) (by omega)
theorem ab_0 (hA : wfA T A) {a : Nat} (ha : a < 4) (hk : T 0 1 ≤ a) : ab A a = 0 := by
  unfold ab
  rcases hA.2.2 a ha with h | ⟨h, -⟩
  · rw [if_pos h]
  · omega
/-- the bit that an asker's question sets -/
theorem sh_ab (hT : wfT T) (hA : wfA T A) {a : Nat} (ha : a < 4) (h : ¬ A (6 + a) = -9) : (1 : Int32) <<< (A (6 + a) &&& 31) = nI (ab A a) := by
  unfold ab
  rcases hA.2.2 a ha with h1 | ⟨-, t, ht, h1⟩
  · exact absurd h1 h
  · have := hT.1
    rw [if_neg h, h1, nI_clamp (by omega), px_sh (by omega)]
theorem cl_bit (hT : wfT T) (hL : lifeR v A) (hA : wfA T A) {a : Nat} (ha : a < 4) : f_X2_askedOfBit N v (nI a) = some (nI (ab A a)) := by
  unfold f_X2_askedOfBit
  rw [if_neg (nI_pos (by omega)), show (4 : Int32) = nI 4 from rfl, if_neg (nI_ge ha (by decide)), px_rd ha (by decide), hL.2.2.1 a ha]
  simp only [Option.bind_some]
  by_cases h : A (6 + a) = -9
  · rw [if_pos h]; unfold ab; rw [if_pos h]; rfl
  · rw [if_neg h, sh_ab hT hA ha h]
theorem cl_asked (hT : wfT T) (hL : lifeR v A) (hA : wfA T A) (hN : 700 ≤ N) : f_X2_askedThings N v = some (nI (orL (ab A) 4)) := by
  unfold f_X2_askedThings
  refine lq2_up 4 N (fun i => nI (orL (ab A) i)) _ (by omega) (by decide) _ rfl _ _ (fun _ _ _ => rfl) rfl (fun rec i hi => ?_)
  try dsimp only
  rw [cl_bit hT hL hA hi]
  simp only [Option.bind_some, orL]
  rw [px_or]
def nowR (u : TU) (A : Nat → Int32) : Prop := ∀ j, j < 10 → u 11 j = A j
theorem rl_asked (hT : wfT T) (hR : RT u T) (hL : nowR u A) (hA : wfA T A) (hN : 700 ≤ N) : f_X7_askedOf N u sd = some (nI (orL (ab A) 4)) := by
  have h4 := hT.2.1
  have e : orL (ab A) 4 = orL (ab A) (T 0 1) := by
    rcases (show T 0 1 = 0 ∨ T 0 1 = 1 ∨ T 0 1 = 2 ∨ T 0 1 = 3 ∨ T 0 1 = 4 by omega) with h | h | h | h | h <;> rw [h] <;> simp only [orL]
    · rw [ab_0 hA (a := 0) (by omega) (by omega), ab_0 hA (a := 1) (by omega) (by omega), ab_0 hA (a := 2) (by omega) (by omega), ab_0 hA (a := 3) (by omega) (by omega)]; simp
    · rw [ab_0 hA (a := 1) (by omega) (by omega), ab_0 hA (a := 2) (by omega) (by omega), ab_0 hA (a := 3) (by omega) (by omega)]; simp
    · rw [ab_0 hA (a := 2) (by omega) (by omega), ab_0 hA (a := 3) (by omega) (by omega)]; simp
    · rw [ab_0 hA (a := 3) (by omega) (by omega)]; simp
  rw [e]
  unfold f_X7_askedOf
  refine lq2_up (T 0 1) N (fun i => nI (orL (ab A) i)) _ (by omega) (by omega) _ hR.2.1 _ _ (fun _ _ _ => rfl) rfl (fun rec i hi => ?_)
  try dsimp only
  rw [show (6 : Int32) = nI 6 from rfl, nI_add, px_rd (by omega) (by decide), hL (6 + i) (by omega)]
  simp only [Option.bind_some, orL]
  by_cases h : A (6 + i) = -9
  · rw [if_pos h, px_0, px_or]; unfold ab; rw [if_pos h]
  · rw [if_neg h, sh_ab hT hA (by omega) h, px_or]
def hrd (A : Nat → Int32) (a : Nat) : Nat := ((if a = 0 then 0 else ab A (a - 1)) ||| ab A a) ||| (if a + 1 < 4 then ab A (a + 1) else 0)
theorem or_lt4 {x y : Nat} (hx : x < 2 ^ 4) (hy : y < 2 ^ 4) : x ||| y < 2 ^ 4 := Nat.or_lt_two_pow hx hy
theorem hrd_lt (hT : wfT T) (hA : wfA T A) {a : Nat} (ha : a < 4) : hrd A a < 2 ^ 4 := by
  unfold hrd
  refine or_lt4 (or_lt4 ?_ (ab_lt hT hA ha)) ?_
  · split
    · decide
    · exact ab_lt hT hA (by omega)
  · split
    · exact ab_lt hT hA (by omega)
    · decide
theorem cl_heard (hT : wfT T) (hL : lifeR v A) (hA : wfA T A) {a : Nat} (ha : a < 4) : f_X2_heardBy N v (nI a) = some (nI (hrd A a)) := by
  unfold f_X2_heardBy hrd
  rw [cl_bit hT hL hA ha, nI_1]
  have h1 : f_X2_askedOfBit N v (nI a - 1) = some (nI (if a = 0 then 0 else ab A (a - 1))) := by
    by_cases h : a = 0
    · subst h; rw [if_pos rfl]; unfold f_X2_askedOfBit; rw [if_pos (by decide)]; rfl
    · rw [if_neg h, px_1, pk_sub (by omega), cl_bit hT hL hA (by omega)]
  have h2 : f_X2_askedOfBit N v (nI (a + 1)) = some (nI (if a + 1 < 4 then ab A (a + 1) else 0)) := by
    by_cases h : a + 1 < 4
    · rw [if_pos h, cl_bit hT hL hA h]
    · have : a = 3 := by omega
      subst this
      rw [if_neg h]; unfold f_X2_askedOfBit; rw [if_neg (by decide), if_pos (by decide)]; rfl
  rw [h1, h2]
  simp only [Option.bind_some]
  rw [px_or, px_or]
theorem rl_heard (hT : wfT T) (hR : RT u T) (hL : nowR u A) (hA : wfA T A) (hN : 700 ≤ N) {a : Nat} (ha : a < T 0 1) : f_X7_heard N u sd (nI a) = some (nI (hrd A a)) := by
  have h4 := hT.2.1
  have stp : ∀ (rec : Int32 → Int32 → Option Int32) (s b : Nat), b ≤ a + 1 → g_X7_heard_6 N u sd (nI a) rec (nI s) (nI b) = rec (nI (s ||| (if b < 4 then ab A b else 0))) (nI (b + 1)) := by
    intro rec s b hb
    unfold g_X7_heard_6 g_X7_heard_48
    rw [nI_1, if_neg (nI_nlt hb (by omega)), i64_0, hR.2.1, rf_in, if_neg (nI_pos (by omega)), nI_1]
    simp only [Option.bind_some]
    by_cases hk : b < T 0 1
    · rw [if_neg (show ¬ nI (T 0 1) - 1 < nI b by rw [nI_m1 (by omega)]; exact nI_ge hk (by omega)), if_neg (by decide), show (6 : Int32) = nI 6 from rfl, nI_add, px_rd (by omega) (by decide), hL (6 + b) (by omega), if_pos (show b < 4 by omega)]
      simp only [Option.bind_some]
      by_cases h : A (6 + b) = -9
      · rw [if_pos h, if_pos trivial, px_0, px_or]; unfold ab; rw [if_pos h]
      · rw [if_neg h, if_neg (by decide), sh_ab hT hA (by omega) h, px_or]
    · rw [if_pos ((nI_m1 (by omega) _).mpr (nI_le (by omega) (by omega))), if_pos rfl, if_pos trivial, px_0, px_or]
      congr 2
      by_cases h : b < 4
      · rw [if_pos h, ab_0 hA h (by omega)]
      · rw [if_neg h]
  have fin : ∀ (rec : Int32 → Int32 → Option Int32) (s : Nat), g_X7_heard_6 N u sd (nI a) rec (nI s) (nI (a + 2)) = some (nI s) := by
    intro rec s
    unfold g_X7_heard_6
    rw [nI_1, if_pos (nI_lt (by omega) (by omega))]
  unfold f_X7_heard hrd
  obtain ⟨n, rfl⟩ : ∃ n, N = n + 4 := ⟨N - 4, by omega⟩
  by_cases h0 : a = 0
  · subst h0
    have m1 : ∀ (rec : Int32 → Int32 → Option Int32), g_X7_heard_6 (n + 4) u sd (nI 0) rec 0 (nI 0 - 1) = rec (nI 0) (nI 0) := by
      intro rec
      unfold g_X7_heard_6 g_X7_heard_48
      rw [if_neg (by decide), i64_0, rf_in, if_pos (by decide)]
      rfl
    simp only [lq2]
    rw [m1, stp _ 0 0 (by omega), stp _ _ 1 (by omega), fin]
    simp
  · obtain ⟨b, rfl⟩ : ∃ b, a = b + 1 := ⟨a - 1, by omega⟩
    simp only [lq2]
    rw [px_1, pk_sub (by omega), Nat.add_sub_cancel, px_0, stp _ 0 b (by omega), stp _ _ (b + 1) (by omega), stp _ _ (b + 1 + 1) (by omega), fin]
    simp only [Nat.zero_or]
    rw [if_pos (show b < 4 by omega), if_pos (show b + 1 < 4 by omega), if_neg h0]
def idl (A : Nat → Int32) (k : Nat) : Nat := mkm (fun a => A (6 + a) == -9) k
def sldB (A : Nat → Int32) (i : Nat) : Bool := !(A (2 + i) == -9)
theorem cl_idle (hT : wfT T) (hC : CT0 w T) (hL : lifeR v A) (hN : 700 ≤ N) : f_X2_idleAskers N v w = some (nI (idl A (T 0 1))) := by
  have h4 := hT.2.1
  unfold f_X2_idleAskers idl
  refine lq2_up (T 0 1) N (fun i => nI (mkm (fun a => A (6 + a) == -9) i)) _ (by omega) (by omega) _ hC.2.2.1 _ _ (fun _ _ _ => rfl) rfl (fun rec i hi => ?_)
  try dsimp only
  rw [px_rd (by omega) (by decide), hL.2.2.1 i (by omega), px_sh (by omega), px_or]
  simp only [Option.bind_some]
  by_cases h : A (6 + i) = -9
  · rw [if_pos h, show mkm (fun a => A (6 + a) == -9) i ||| 2 ^ i = mkm (fun a => A (6 + a) == -9) (i + 1) by rw [← mkm_or]; simp [h]]
  · rw [if_neg h, show mkm (fun a => A (6 + a) == -9) (i + 1) = mkm (fun a => A (6 + a) == -9) i by simp [mkm, h]]
theorem rl_fresh (hT : wfT T) (hR : RT u T) (hL : nowR u A) (hN : 700 ≤ N) : f_X7_fresh N u sd = some (nI (idl A (T 0 1))) := by
  have h4 := hT.2.1
  unfold f_X7_fresh idl
  refine lq2_up (T 0 1) N (fun i => nI (mkm (fun a => A (6 + a) == -9) i)) _ (by omega) (by omega) _ hR.2.1 _ _ (fun _ _ _ => rfl) rfl (fun rec i hi => ?_)
  try dsimp only
  rw [show (6 : Int32) = nI 6 from rfl, nI_add, px_rd (by omega) (by decide), hL (6 + i) (by omega), px_sh (by omega), px_or, px_0, px_or, Nat.or_zero]
  simp only [Option.bind_some]
  by_cases h : A (6 + i) = -9
  · rw [if_pos h, show mkm (fun a => A (6 + a) == -9) i ||| 2 ^ i = mkm (fun a => A (6 + a) == -9) (i + 1) by rw [← mkm_or]; simp [h]]
  · rw [if_neg h, show mkm (fun a => A (6 + a) == -9) (i + 1) = mkm (fun a => A (6 + a) == -9) i by simp [mkm, h]]
theorem cl_sold (hT : wfT T) (hC : CT0 w T) (hL : lifeR v A) (hN : 700 ≤ N) : f_X2_soldThings N v w = some (nI (mkm (sldB A) (T 0 0))) := by
  have h4 := hT.1
  unfold f_X2_soldThings
  refine lq2_up (T 0 0) N (fun i => nI (mkm (sldB A) i)) _ (by omega) (by omega) _ hC.1 _ _ (fun _ _ _ => rfl) rfl (fun rec i hi => ?_)
  try dsimp only
  rw [px_rd (by omega) (by decide), hL.2.2.2 i (by omega), px_sh (by omega), px_or]
  simp only [Option.bind_some]
  by_cases h : A (2 + i) = -9
  · rw [if_pos h, show mkm (sldB A) (i + 1) = mkm (sldB A) i by simp [mkm, sldB, h]]
  · rw [if_neg h, show mkm (sldB A) i ||| 2 ^ i = mkm (sldB A) (i + 1) by rw [← mkm_or]; simp [sldB, h]]
end LIFE
