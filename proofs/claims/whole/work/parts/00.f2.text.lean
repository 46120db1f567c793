/-! the text, letter by letter: figures -/
def TxA (v u : TU) (n : Nat) (lt : Nat → Nat) : Prop := n ≤ 48 ∧ v 0 0 = nI n ∧ u 0 6 = nI n ∧ ∀ j, j < n → v 1 j = nI (lt j) ∧ u 12 j = nI (lt j) ∧ lt j ≤ 255
theorem TxA_of {v u : TU} (h : TextR v u) : ∃ n lt, TxA v u n lt := by
  obtain ⟨n, hn, e1, e2, e3, e4⟩ := h
  refine ⟨n, fun j => (u 12 j).toNatClampNeg, hn, e1, e2, fun j hj => ?_⟩
  obtain ⟨b, hb, e⟩ := e4 j hj
  dsimp only
  rw [e3 j (by omega), e, nI_clamp (by omega)]
  exact ⟨rfl, rfl, hb⟩
def acc (n : Nat) (lt : Nat → Nat) (ok : Nat → Bool) (p : Nat) : Option Nat := if p < n ∧ 48 ≤ lt p ∧ lt p ≤ 57 ∧ ok (lt p - 48) = true then some (lt p - 48) else none
theorem acc_congr {n : Nat} {lt : Nat → Nat} {ok ok' : Nat → Bool} (h : ∀ f, f ≤ 9 → ok f = ok' f) (p : Nat) : acc n lt ok p = acc n lt ok' p := by
  unfold acc
  by_cases c : 48 ≤ lt p ∧ lt p ≤ 57
  · rw [h (lt p - 48) (by omega)]
  · rw [if_neg (fun q => c ⟨q.2.1, q.2.2.1⟩), if_neg (fun q => c ⟨q.2.1, q.2.2.1⟩)]
theorem acc_some {n : Nat} {lt : Nat → Nat} {ok : Nat → Bool} {p f : Nat} (h : acc n lt ok p = some f) : p < n ∧ lt p = 48 + f ∧ f ≤ 9 ∧ ok f = true := by
  unfold acc at h
  by_cases c : p < n ∧ 48 ≤ lt p ∧ lt p ≤ 57 ∧ ok (lt p - 48) = true
  · rw [if_pos c] at h
    have e : lt p - 48 = f := by simpa using h
    subst e
    exact ⟨c.1, by omega, by omega, c.2.2.2⟩
  · rw [if_neg c] at h; cases h
theorem acc_none {n : Nat} {lt : Nat → Nat} {ok : Nat → Bool} {p : Nat} (h : acc n lt ok p = none) : ¬ (p < n ∧ 48 ≤ lt p ∧ lt p ≤ 57 ∧ ok (lt p - 48) = true) := by
  intro c
  unfold acc at h
  rw [if_pos c] at h
  cases h
theorem put_self (u : TU) (k j : Nat) : mk_put u k j (u k j) = u := by
  funext k'
  unfold mk_put
  by_cases h : k' = k
  · subst h
    rw [if_pos rfl]
    funext j'
    by_cases hj : j' = j
    · subst hj; rw [upd_s]
    · rw [upd_n _ hj]
  · rw [if_neg h]
theorem m9_lt {n : Nat} (h : n < 2 ^ 31) : (-9 : Int32) < nI n := by
  rw [Int32.lt_iff_toInt_lt, nI_toInt h, show (-9 : Int32).toInt = -9 by decide]
  omega
theorem sub48_lt {b n : Nat} (hb : b < 48) (hn : n < 2 ^ 31) : nI b - 48 < nI n := by
  have e : (nI b - nI 48).toInt = (b : Int) - 48 := pk_sub_toInt (by omega) (by decide)
  rw [show (48 : Int32) = nI 48 from rfl, Int32.lt_iff_toInt_lt, nI_toInt hn, e]
  omega
section FIG
variable {u : TU} {N : Nat} {sd : Int64} {n p : Nat} {lt : Nat → Nat}
/-- where the reference reads: at p, no fault yet -/
def atP (u : TU) (n : Nat) (lt : Nat → Nat) (p : Nat) : Prop := n ≤ 48 ∧ p ≤ n ∧ u 0 6 = nI n ∧ (∀ j, j < n → u 12 j = nI (lt j) ∧ lt j ≤ 255) ∧ u 0 8 = -9 ∧ u 0 7 = nI p
theorem fg37 (h : atP u n lt p) {lo hi : Nat} (hlo : lo ≤ 10) (hhi : hi ≤ 9) : f_X7_figure N u sd (nI lo) (nI hi) = (match acc n lt (fun f => decide (lo ≤ f) && decide (f ≤ hi)) p with | some f => some (nI f, mk_put u 0 7 (nI (p + 1))) | none => some (nI lo, mk_put u 0 8 (nI p))) := by
  obtain ⟨hn, hp, e6, ht, e8, e7⟩ := h
  have flt : ∀ t : Int32, (t < nI lo ∨ nI hi < t) → g_X7_figure_37 N u sd (nI lo) (nI hi) t = some (nI lo, mk_put u 0 8 (nI p)) := by
    intro t h
    unfold g_X7_figure_37 mk_nm
    rw [rf_in, Option.bind_some, e8, e7]
    by_cases c : t < nI lo
    · rw [if_pos c, if_pos rfl, if_pos rfl]
    · rw [if_neg c, if_pos (h.resolve_left c), if_pos rfl, if_pos rfl]
  unfold f_X7_figure
  rw [if_pos e8, e6, e7]
  by_cases hpn : p < n
  · obtain ⟨t1, t2⟩ := ht p hpn
    rw [if_neg (nI_ge hpn (by omega)), px_rd (by omega) (by decide), t1, Option.bind_some]
    by_cases h48 : 48 ≤ lt p
    · rw [show (48 : Int32) = nI 48 from rfl, pk_sub h48]
      by_cases c : lo ≤ lt p - 48 ∧ lt p - 48 ≤ hi
      · rw [show acc n lt (fun f => decide (lo ≤ f) && decide (f ≤ hi)) p = some (lt p - 48) from if_pos ⟨hpn, h48, by omega, by show (decide (lo ≤ lt p - 48) && decide (lt p - 48 ≤ hi)) = true; rw [decide_eq_true c.1, decide_eq_true c.2]; rfl⟩]
        unfold g_X7_figure_37 mk_nm
        rw [rf_in, if_neg (nI_nlt c.1 (by omega)), if_neg (nI_nlt c.2 (by omega)), Option.bind_some, if_neg (by decide), e7, nI_1]
      · rw [show acc n lt (fun f => decide (lo ≤ f) && decide (f ≤ hi)) p = none from if_neg (fun q => c (by have := q.2.2.2; rw [Bool.and_eq_true] at this; exact ⟨of_decide_eq_true this.1, of_decide_eq_true this.2⟩))]
        refine flt _ ?_
        by_cases c1 : lo ≤ lt p - 48
        · exact Or.inr (nI_lt (by omega) (by omega))
        · exact Or.inl (nI_lt (by omega) (by omega))
    · rw [show acc n lt (fun f => decide (lo ≤ f) && decide (f ≤ hi)) p = none from if_neg (fun q => h48 q.2.1)]
      exact flt _ (Or.inl (sub48_lt (by omega) (by omega)))
  · rw [if_pos (nI_le (by omega) (by omega)), show acc n lt (fun f => decide (lo ≤ f) && decide (f ≤ hi)) p = none from if_neg (fun q => hpn q.1)]
    exact flt _ (Or.inl (m9_lt (by omega)))
theorem fgF {q lo : Nat} (e8 : u 0 8 = nI q) (hq : q < 2 ^ 31) (hlo : lo < 2 ^ 31) (x2 : Int32) : f_X7_figure N u sd (nI lo) x2 = some (nI lo, u) := by
  unfold f_X7_figure g_X7_figure_37 mk_nm
  rw [if_neg (by rw [e8]; exact nI_m9 hq), rf_in, if_pos (m9_lt hlo), Option.bind_some, if_pos rfl, if_neg (by rw [e8]; exact nI_m9 hq), put_self]
theorem fo37 (h : atP u n lt p) {m : Nat} (hm : m < 2 ^ 31) : f_X7_figureOf N u sd (nI m) = (match acc n lt (fun f => m.testBit f) p with | some f => some (nI f, mk_put u 0 7 (nI (p + 1))) | none => some (0, mk_put u 0 8 (nI p))) := by
  obtain ⟨hn, hp, e6, ht, e8, e7⟩ := h
  have in9 : ∀ t : Int32, f_X7_in N t.toInt64 (0 : Int64) (9 : Int64) = some (if t < 0 then 0 else if 9 < t then 0 else 1) := fun t => rf_in t 0 9
  have f58 : g_X7_figureOf_58 N u sd = some (0, mk_put u 0 8 (nI p)) := by
    unfold g_X7_figureOf_58 mk_nm
    rw [if_pos e8, e7]
  have flt : ∀ t : Int32, (t < 0 ∨ 9 < t) → g_X7_figureOf_37 N u sd (nI m) t = some (0, mk_put u 0 8 (nI p)) := by
    intro t h
    unfold g_X7_figureOf_37
    rw [in9, Option.bind_some, f58]
    by_cases c : t < 0
    · rw [if_pos c, if_pos rfl]
    · rw [if_neg c, if_pos (h.resolve_left c), if_pos rfl]
  unfold f_X7_figureOf
  rw [if_pos e8, e6, e7]
  by_cases hpn : p < n
  · obtain ⟨t1, t2⟩ := ht p hpn
    rw [if_neg (nI_ge hpn (by omega)), px_rd (by omega) (by decide), t1, Option.bind_some]
    by_cases h48 : 48 ≤ lt p
    · rw [show (48 : Int32) = nI 48 from rfl, pk_sub h48]
      by_cases h57 : lt p ≤ 57
      · have i9 : f_X7_in N (nI (lt p - 48)).toInt64 (0 : Int64) (9 : Int64) = some 1 := by
          rw [in9, if_neg (nI_pos (by omega)), show (9 : Int32) = nI 9 from rfl, if_neg (nI_nlt (by omega) (by omega))]
        unfold g_X7_figureOf_37 mk_nm
        rw [i9, Option.bind_some, if_neg (by decide), rf_has hm (by omega), Option.bind_some, e7, nI_1, f58]
        by_cases c : m.testBit (lt p - 48) = true
        · rw [show acc n lt (fun f => m.testBit f) p = some (lt p - 48) from if_pos ⟨hpn, h48, h57, c⟩, if_neg (show ¬ (if m.testBit (lt p - 48) = true then (1 : Int32) else 0) = 0 by rw [if_pos c]; decide)]
        · rw [show acc n lt (fun f => m.testBit f) p = none from if_neg (fun q => c q.2.2.2), if_pos (show (if m.testBit (lt p - 48) = true then (1 : Int32) else 0) = 0 by rw [if_neg c])]
      · rw [show acc n lt (fun f => m.testBit f) p = none from if_neg (fun q => h57 q.2.2.1)]
        exact flt _ (Or.inr (nI_lt (a := 9) (by omega) (by omega)))
    · rw [show acc n lt (fun f => m.testBit f) p = none from if_neg (fun q => h48 q.2.1)]
      exact flt _ (Or.inl (sub48_lt (n := 0) (by omega) (by omega)))
  · rw [if_pos (nI_le (by omega) (by omega)), show acc n lt (fun f => m.testBit f) p = none from if_neg (fun q => hpn q.1)]
    exact flt _ (Or.inl (by decide))
theorem foF {q : Nat} (e8 : u 0 8 = nI q) (hq : q < 2 ^ 31) (x1 : Int32) : f_X7_figureOf N u sd x1 = some (0, u) := by
  have in9 : f_X7_in N (-9 : Int32).toInt64 (0 : Int64) (9 : Int64) = some 0 := by
    rw [show f_X7_in N (-9 : Int32).toInt64 (0 : Int64) (9 : Int64) = _ from rf_in (-9) 0 9]
    rfl
  unfold f_X7_figureOf g_X7_figureOf_37 g_X7_figureOf_58 mk_nm
  rw [if_neg (by rw [e8]; exact nI_m9 hq), in9, Option.bind_some, if_pos rfl, if_neg (by rw [e8]; exact nI_m9 hq), put_self]
end FIG
