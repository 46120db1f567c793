/-! one part of the text, on both sides -/
def kR (u w : TU) : Prop := (∀ k, k ≠ 0 → (k < 6 ∨ 10 < k) → w k = u k) ∧ ∀ j, (j < 3 ∨ j = 6 ∨ 8 < j) → w 0 j = u 0 j
theorem kR_rf (u : TU) : kR u u := ⟨fun _ _ _ => rfl, fun _ _ => rfl⟩
theorem kR_tr {a b c : TU} (h1 : kR a b) (h2 : kR b c) : kR a c := ⟨fun k g1 g2 => (h2.1 k g1 g2).trans (h1.1 k g1 g2), fun j g => (h2.2 j g).trans (h1.2 j g)⟩
theorem kR_p {u w : TU} (h : kR u w) {c : Nat} (h1 : 6 ≤ c) (h2 : c ≤ 10) (j : Nat) (x : Int32) : kR u (mk_put w c j x) := by
  refine ⟨fun k g1 g2 => ?_, fun i g => ?_⟩
  · unfold mk_put; rw [if_neg (by omega)]; exact h.1 k g1 g2
  · unfold mk_put; rw [if_neg (by omega)]; exact h.2 i g
theorem kR_0 {u w : TU} (h : kR u w) {j : Nat} (h1 : 3 ≤ j) (h2 : j ≤ 8) (h6 : j ≠ 6) (x : Int32) : kR u (mk_put w 0 j x) := by
  refine ⟨fun k g1 g2 => ?_, fun i g => ?_⟩
  · unfold mk_put; rw [if_neg g1]; exact h.1 k g1 g2
  · show upd (w 0) j x i = _
    rw [upd_n _ (by omega)]; exact h.2 i g
section ATP
variable {w : TU} {n p : Nat} {lt : Nat → Nat}
theorem atP_p (h : atP w n lt p) {c : Nat} (h1 : 6 ≤ c) (h2 : c ≤ 10) (j : Nat) (x : Int32) : atP (mk_put w c j x) n lt p := by
  have e0 : mk_put w c j x 0 = w 0 := by unfold mk_put; rw [if_neg (by omega)]
  have e12 : mk_put w c j x 12 = w 12 := by unfold mk_put; rw [if_neg (by omega)]
  unfold atP
  rw [e0, e12]; exact h
theorem atP_7 (h : atP w n lt p) (hp : p + 1 ≤ n) : atP (mk_put w 0 7 (nI (p + 1))) n lt (p + 1) := ⟨h.1, hp, h.2.2.1, h.2.2.2.1, h.2.2.2.2.1, rfl⟩
theorem atP_c (h : atP w n lt p) {j : Nat} (hj : j < 6) (x : Int32) : atP (mk_put w 0 j x) n lt p := by
  have e : ∀ i, 6 ≤ i → mk_put w 0 j x 0 i = w 0 i := fun i hi => by show upd (w 0) j x i = _; rw [upd_n _ (by omega)]
  refine ⟨h.1, h.2.1, ?_, h.2.2.2.1, ?_, ?_⟩
  · rw [e 6 (by decide)]; exact h.2.2.1
  · rw [e 8 (by decide)]; exact h.2.2.2.2.1
  · rw [e 7 (by decide)]; exact h.2.2.2.2.2
end ATP
def rS (N : Nat) (sd : Int64) (w : TU) (lo hi ix : Int32) (b c : Nat) (k : TU → Option TU) : Option TU := (f_X7_figure N w sd lo hi).bind fun r => (mk_ix b ix).bind fun _ => k (mk_put r.2 c ix.toNatClampNeg r.1)
section RS
variable {w : TU} {n p : Nat} {lt : Nat → Nat} {N : Nat} {sd : Int64} {lo hi ix b c f q : Nat} {k : TU → Option TU}
theorem rS_ok (h : atP w n lt p) (hlo : lo ≤ 10) (hhi : hi ≤ 9) (ha : acc n lt (fun f => decide (lo ≤ f) && decide (f ≤ hi)) p = some f) (hix : ix < b) (hb : b < 2 ^ 31) : rS N sd w (nI lo) (nI hi) (nI ix) b c k = k (mk_put (mk_put w 0 7 (nI (p + 1))) c ix (nI f)) := by
  unfold rS
  rw [fg37 h hlo hhi, ha]
  dsimp only
  rw [Option.bind_some, px_ix hix hb, Option.bind_some, nI_clamp (by omega)]
theorem rS_no (h : atP w n lt p) (hlo : lo ≤ 10) (hhi : hi ≤ 9) (ha : acc n lt (fun f => decide (lo ≤ f) && decide (f ≤ hi)) p = none) (hix : ix < b) (hb : b < 2 ^ 31) : rS N sd w (nI lo) (nI hi) (nI ix) b c k = k (mk_put (mk_put w 0 8 (nI p)) c ix (nI lo)) := by
  unfold rS
  rw [fg37 h hlo hhi, ha]
  dsimp only
  rw [Option.bind_some, px_ix hix hb, Option.bind_some, nI_clamp (by omega)]
theorem rS_F (h : w 0 8 = nI q) (hq : q < 2 ^ 31) (hlo : lo < 2 ^ 31) (x : Int32) (hix : ix < b) (hb : b < 2 ^ 31) : rS N sd w (nI lo) x (nI ix) b c k = k (mk_put w c ix (nI lo)) := by
  unfold rS
  rw [fgF h hq hlo, Option.bind_some, px_ix hix hb, Option.bind_some, nI_clamp (by omega)]
end RS
def rT5 (N : Nat) (sd : Int64) (t : Nat) (w : TU) : Option TU := rS N sd w (nI 0) (nI 1) (nI (5 * t + 4)) 20 6 (fun w12 => some (mk_put w12 0 3 (w12 0 3 + 1)))
def rT4 (N : Nat) (sd : Int64) (t : Nat) (w : TU) : Option TU := rS N sd w (nI 1) (nI 9) (nI (5 * t + 3)) 20 6 (rT5 N sd t)
def rT3 (N : Nat) (sd : Int64) (t : Nat) (w : TU) : Option TU := rS N sd w (nI 0) (nI 9) (nI (5 * t + 2)) 20 6 (rT4 N sd t)
def rT2 (N : Nat) (sd : Int64) (t : Nat) (w : TU) : Option TU := (mk_rd (w 6) 20 (nI (5 * t))).bind fun v_4 => rS N sd w (v_4 + 1) (nI 9) (nI (5 * t + 1)) 20 6 (rT3 N sd t)
def rT1 (N : Nat) (sd : Int64) (t : Nat) (w : TU) : Option TU := rS N sd w (nI 1) (nI 8) (nI (5 * t)) 20 6 (rT2 N sd t)
section RT1
variable {w u : TU} {n p : Nat} {lt : Nat → Nat} {N : Nat} {sd : Int64} {t q : Nat}
theorem rp_T (h3 : u 0 3 = nI t) (ht : t < 4) : f_X7_readPart N u sd (nI 84) = rT1 N sd t (mk_put u 0 7 (u 0 7 + 1)) := by
  unfold f_X7_readPart mk_nm
  dsimp only
  rw [if_pos (show nI 84 = 84 from rfl), h3, if_neg (show ¬ (4 : Int32) ≤ nI t from nI_ge ht (by decide)), show mk_put u 0 7 (u 0 7 + 1) 0 3 = nI t from h3, show (5 : Int32) * nI t = nI (5 * t) by rw [show (5 : Int32) = nI 5 from rfl, pk_mul], show nI (5 * t) + 1 = nI (5 * t + 1) from nI_add _ 1, show nI (5 * t) + 2 = nI (5 * t + 2) from nI_add _ 2, show nI (5 * t) + 3 = nI (5 * t + 3) from nI_add _ 3, show nI (5 * t) + 4 = nI (5 * t + 4) from nI_add _ 4]
  rfl
theorem rT5_F (h : w 0 8 = nI q) (hq : q < 2 ^ 31) (ht : t < 4) : ∃ w', rT5 N sd t w = some w' ∧ w' 0 8 = nI q ∧ kR w w' := by
  unfold rT5
  rw [rS_F h hq (by decide) _ (by omega) (by decide)]
  exact ⟨_, rfl, h, kR_0 (kR_p (kR_rf w) (by decide) (by decide) _ _) (by decide) (by decide) (by decide) _⟩
theorem rT4_F (h : w 0 8 = nI q) (hq : q < 2 ^ 31) (ht : t < 4) : ∃ w', rT4 N sd t w = some w' ∧ w' 0 8 = nI q ∧ kR w w' := by
  unfold rT4
  rw [rS_F h hq (by decide) _ (by omega) (by decide)]
  obtain ⟨w', a, b, c⟩ := rT5_F (N := N) (sd := sd) (w := mk_put w 6 (5 * t + 3) (nI 1)) h hq ht
  exact ⟨w', a, b, kR_tr (kR_p (kR_rf w) (by decide) (by decide) _ _) c⟩
theorem rT3_F (h : w 0 8 = nI q) (hq : q < 2 ^ 31) (ht : t < 4) : ∃ w', rT3 N sd t w = some w' ∧ w' 0 8 = nI q ∧ kR w w' := by
  unfold rT3
  rw [rS_F h hq (by decide) _ (by omega) (by decide)]
  obtain ⟨w', a, b, c⟩ := rT4_F (N := N) (sd := sd) (w := mk_put w 6 (5 * t + 2) (nI 0)) h hq ht
  exact ⟨w', a, b, kR_tr (kR_p (kR_rf w) (by decide) (by decide) _ _) c⟩
theorem rT2_F (h : w 0 8 = nI q) (hq : q < 2 ^ 31) (ht : t < 4) {x : Nat} (hx : w 6 (5 * t) = nI x) (hx2 : x < 100) : ∃ w', rT2 N sd t w = some w' ∧ w' 0 8 = nI q ∧ kR w w' := by
  unfold rT2
  rw [px_rd (by omega) (by decide), hx, Option.bind_some, nI_1, rS_F h hq (by omega) _ (by omega) (by decide)]
  obtain ⟨w', a, b, c⟩ := rT3_F (N := N) (sd := sd) (w := mk_put w 6 (5 * t + 1) (nI (x + 1))) h hq ht
  exact ⟨w', a, b, kR_tr (kR_p (kR_rf w) (by decide) (by decide) _ _) c⟩
end RT1
