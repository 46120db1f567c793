/-! the best set, on both sides -/
def on (s : Nat) : Nat := sm (fun i => if s.testBit i then 1 else 0) 4
theorem on_le : ∀ s, on s ≤ 4 := fun s => Nat.le_trans (sm_le (B := 1) (fun i _ => by (try dsimp only); split <;> omega)) (by decide)
theorem rf_ones {N s : Nat} (hs : s < 16) : f_X7_ones N (nI s) = some (nI (on s)) := by
  unfold f_X7_ones
  exact congrArg some ((by decide +kernel : ∀ s, s < 16 → (((nI s &&& (1 : Int32)) + ((nI s >>> ((1 : Int32) &&& 31)) &&& (1 : Int32))) + ((nI s >>> ((2 : Int32) &&& 31)) &&& (1 : Int32))) + ((nI s >>> ((3 : Int32) &&& 31)) &&& (1 : Int32)) = nI (on s)) s hs)
theorem on_16 {s : Nat} (hs : s < 16) : sm (fun i => if s.testBit i then 1 else 0) 16 = on s := sm_cut (by decide) (fun i h1 _ => by rw [Nat.testBit_lt_two_pow (Nat.lt_of_lt_of_le hs (show 2 ^ 4 ≤ 2 ^ i from Nat.pow_le_pow_right (by decide) h1))]; rfl)
theorem ct_on {N s : Nat} (hs : s < 16) : f_J6_bitCount_0f7a4 N (nI s) = some (nI (on s)) := by
  rw [ct_bits (by omega), on_16 hs]
abbrev bt (W : Nat → Nat) (s b : Nat) : Prop := W b < W s ∨ (W s = W b ∧ (on s < on b ∨ (on s = on b ∧ s < b)))
def isB (T : NT) (who : Nat) (W : Nat → Nat) (b : Nat) : Prop := Rc T who 4 b ∧ ∀ s, Rc T who 4 s → ¬ bt W s b
theorem isB_u {T : NT} {who : Nat} {W : Nat → Nat} {b c : Nat} (hb : isB T who W b) (hc : isB T who W c) : b = c := by
  have h1 := hb.2 c hc.1
  have h2 := hc.2 b hb.1
  unfold bt at h1 h2
  omega
theorem bt_tr {W : Nat → Nat} {a b c : Nat} (h1 : bt W a b) (h2 : bt W b c) : bt W a c := by
  unfold bt at *
  omega
theorem sub_gt {a b : Nat} (ha : a < 2 ^ 30) (hb : b < 2 ^ 30) : (0 : Int32) < nI a - nI b ↔ b < a := by
  have e : (nI a - nI b).toInt = (a : Int) - b := pk_sub_toInt ha hb
  rw [Int32.lt_iff_toInt_lt, e, show (0 : Int32).toInt = 0 from rfl]
  omega
theorem sub_eq0 {a b : Nat} (ha : a < 2 ^ 30) (hb : b < 2 ^ 30) : nI a - nI b = 0 ↔ a = b := by
  have e : (nI a - nI b).toInt = (a : Int) - b := pk_sub_toInt ha hb
  rw [← Int32.toInt_inj, e, show (0 : Int32).toInt = 0 from rfl]
  omega
def aD (w a : Nat) : Nat := w / 5 ^ (3 - a) % 5
def fwd (T : NT) (who : Nat) (dl : Nat → Nat) : Nat → Nat → Nat → Option Nat
  | 0, _, s => some s
  | m + 1, a, s => (one T who a (dl a) s).bind (fwd T who dl m (a + 1))
theorem fwd_stp (T : NT) (who : Nat) (dl : Nat → Nat) : ∀ m a, (stp T who dl a).bind (fwd T who dl m a) = stp T who dl (a + m) := by
  intro m
  induction m with
  | zero => intro a; simp only [Nat.add_zero]; cases stp T who dl a <;> rfl
  | succ m ih =>
    intro a
    rw [show a + (m + 1) = a + 1 + m by omega, ← ih (a + 1)]
    simp only [stp]
    cases stp T who dl a <;> rfl
def enc : Option Nat → Int32
  | some s => nI s
  | none => -9
section BEST
variable {T : NT} {u v l z : TU} {A : Nat → Int32} {N : Nat} {sd : Int64}
theorem cs_best (hT : wfT T) (hC : CT0 v T) (hN : 700 ≤ N) {who M : Nat} (hM : SM T who 4 M) {W : Nat → Nat} (hW : ∀ s, W s < 2 ^ 30) (hz : ∀ s, s < 2 ^ T 0 0 → z 1 s = nI (W s)) : ∃ b, f_X1_bestOf N z v (nI M) = some (nI b) ∧ isB T who W b := by
  have h4 := hT.1
  have h16 := px_sh16 h4
  have h1 : 1 ≤ 2 ^ T 0 0 := Nat.two_pow_pos _
  have hlt := SM_lt hT hM
  unfold f_X1_bestOf
  obtain ⟨x, ⟨b, rfl, hb1, hb2, hb3⟩, h2⟩ := lq2_inv (b := g_X1_bestOf_5 N z v (nI M)) 1 (2 ^ T 0 0) N (fun i x => ∃ b, x = nI b ∧ b < i ∧ Rc T who 4 b ∧ ∀ s, s < i → Rc T who 4 s → ¬ bt W s b) (fun x => some x) (fun rec x _ => by
    unfold g_X1_bestOf_5
    rw [hC.1, px_sh (by omega), if_pos (Int32.le_refl _)]) (fun rec x i g1 g2 ⟨b, hx, hb1, hb2, hb3⟩ => by
    have o1 := on_le i
    have o2 := on_le b
    have key : ∀ t : Int32, ((t = 0 ∧ ¬ bt W i b) ∨ (t = 1 ∧ bt W i b)) → g_X1_bestOf_65 N z v rec (nI M) (nI b) (nI i) t = (if M.testBit i = true ∧ bt W i b then rec (nI i) (nI (i + 1)) else rec (nI b) (nI (i + 1))) := by
      intro t ht
      unfold g_X1_bestOf_65
      rw [nI_1]
      by_cases hb : M.testBit i = true
      · rw [if_neg (by rw [px_bit0 (by omega) (by omega), hb]; decide)]
        rcases ht with ⟨rfl, h⟩ | ⟨rfl, h⟩
        · rw [if_pos rfl, if_neg (fun q => h q.2)]
        · rw [if_neg (by decide), if_pos ⟨hb, h⟩]
      · rw [if_pos (by rw [px_bit0 (by omega) (by omega)]; simpa using hb), if_neg (fun q => hb q.1)]
    have stepE : g_X1_bestOf_5 N z v (nI M) rec (nI b) (nI i) = (if M.testBit i = true ∧ bt W i b then rec (nI i) (nI (i + 1)) else rec (nI b) (nI (i + 1))) := by
      have wi := hW i
      have wb := hW b
      unfold g_X1_bestOf_5
      rw [hC.1, px_sh (by omega), if_neg (nI_ge g2 (by omega)), px_rd (by omega) (by decide), px_rd (by omega) (by decide), hz i g2, hz b (by omega), ct_on (by omega), ct_on (by omega)]
      simp only [Option.bind_some]
      by_cases c1 : W b < W i
      · rw [if_pos (nI_lt c1 (by omega))]
        exact key 1 (Or.inr ⟨rfl, Or.inl c1⟩)
      · rw [if_neg (nI_nlt (by omega) (by omega))]
        by_cases c2 : W i = W b
        · rw [if_pos (by rw [c2])]
          by_cases c3 : on b ≤ on i
          · rw [if_pos (nI_le c3 (by omega))]
            exact key 0 (Or.inl ⟨rfl, by unfold bt; omega⟩)
          · rw [if_neg (nI_ge (by omega) (by omega))]
            exact key 1 (Or.inr ⟨rfl, by unfold bt; omega⟩)
        · rw [if_neg (fun q => c2 ((nI_eq (by omega) (by omega)).mp q))]
          exact key 0 (Or.inl ⟨rfl, by unfold bt; omega⟩)
    rw [hx, stepE]
    by_cases hc : M.testBit i = true ∧ bt W i b
    · refine ⟨nI i, ⟨i, rfl, by omega, (hM i).mp hc.1, fun s hs hr => ?_⟩, if_pos hc⟩
      rcases (show s < i ∨ s = i by omega) with h | rfl
      · exact fun q => hb3 s h hr (bt_tr q hc.2)
      · unfold bt; omega
    · refine ⟨nI b, ⟨b, rfl, by omega, hb2, fun s hs hr => ?_⟩, if_neg hc⟩
      rcases (show s < i ∨ s = i by omega) with h | rfl
      · exact hb3 s h hr
      · exact fun q => hc ⟨(hM s).mpr hr, q⟩) (nI 0) ⟨0, rfl, by omega, Rc_z 4, fun s hs _ => by
    have : s = 0 := by omega
    subst this
    unfold bt; omega⟩ h1 (by omega)
  exact ⟨b, h2, hb2, fun s hs => hb3 s (Rc_lt hT hs) hs⟩
theorem rf_asks (hN : 700 ≤ N) {w a : Nat} (hw : w < 625) (ha : a ≤ 3) : f_X7_asks N (nI w) (nI a) = some (nI (aD w a)) := by
  unfold f_X7_asks
  have key := lq2_for (b := g_X7_asks_4 N) a 3 N (fun i => nI (w / 5 ^ (i - a))) (some (nI (aD w a))) (fun rec => by
    unfold g_X7_asks_4 aD
    have : w / 5 ^ (3 - a) ≤ w := Nat.div_le_self _ _
    rw [show (3 : Int32) = nI 3 from rfl, if_pos (Int32.le_refl _), show (5 : Int32) = nI 5 from rfl, pk_rem (by omega) (by decide) (by decide)]) (fun rec i g1 g2 => by
    unfold g_X7_asks_4
    have : w / 5 ^ (i - a) ≤ w := Nat.div_le_self _ _
    rw [show (3 : Int32) = nI 3 from rfl, if_neg (nI_ge g2 (by decide)), show (5 : Int32) = nI 5 from rfl, pk_div (by omega) (by decide) (by decide), nI_1, Nat.div_div_eq_div_mul, ← Nat.pow_succ, show (i - a).succ = i + 1 - a by omega]) ha (by omega)
  rw [Nat.sub_self, Nat.pow_zero, Nat.div_one] at key
  exact key
theorem one_lt {who a t s s' : Nat} (hs : s < 16) (h : one T who a t s = some s') : s' < 16 := by
  unfold one at h
  by_cases h4 : 4 ≤ t
  · rw [if_pos h4] at h
    have : s = s' := by simpa using h
    omega
  · rw [if_neg h4] at h
    by_cases hm : may T who a t s = true
    · rw [if_pos hm] at h
      have : s ||| 2 ^ t = s' := by simpa using h
      rw [← this]
      exact Nat.or_lt_two_pow (n := 4) hs (Nat.pow_lt_pow_right (by decide) (by omega))
    · rw [if_neg hm] at h; cases h
theorem rf_setBy (hT : wfT T) (hR : RT u T) (hN : 700 ≤ N) {w who : Nat} (hw : w < 625) (hwho : who < 2 ^ 31) : f_X7_setBy N u sd (nI w) (nI who) = some (enc (stp T who (aD w) 4)) := by
  have h4 := hT.1
  have hk := hT.2.1
  have stepE : ∀ (rec : Int32 → Int32 → Option Int32) (a s : Nat), a < 4 → s < 16 → g_X7_setBy_5 N u sd (nI w) (nI who) rec (nI s) (nI a) = match one T who a (aD w a) s with | some s' => rec (nI s') (nI (a + 1)) | none => some (-9) := by
    intro rec a s ha hs
    have h5 : aD w a < 5 := Nat.mod_lt _ (by decide)
    have e91 : ∀ t : Int32, g_X7_setBy_91 N u sd rec (nI w) (nI who) (nI s) (nI a) (nI (aD w a)) t = if t = 0 then some (-9) else rec (nI (s ||| 2 ^ aD w a)) (nI (a + 1)) := by
      intro t
      unfold g_X7_setBy_91
      rw [px_sh (by omega), px_or, nI_1]
    unfold g_X7_setBy_5 one
    rw [show (4 : Int32) = nI 4 from rfl, if_neg (nI_ge ha (by decide)), rf_asks hN hw (by omega), Option.bind_some, nI_1]
    simp only [e91]
    by_cases c1 : 4 ≤ aD w a
    · rw [if_pos (nI_le c1 (by omega)), if_pos c1]
    rw [if_neg (nI_ge (by omega) (by omega)), if_neg c1, hR.2.1]
    by_cases c2 : a < T 0 1
    · obtain ⟨e2, e3⟩ := hR.2.2.2.2.1 a c2
      obtain ⟨w1, w2⟩ := hT.2.2.2.2.1 a c2
      rw [if_neg (nI_ge c2 (by omega)), rf_has hwho (by omega), Option.bind_some, px_rd (by omega) (by decide), px_rd (by omega) (by decide), e2, e3]
      simp only [Option.bind_some]
      rw [rf_in, Option.bind_some, rf_has (by omega) (by omega), Option.bind_some]
      by_cases c3 : who.testBit a = true
      · rw [if_neg (by rw [c3]; decide)]
        by_cases c4 : aD w a < T 0 0
        · rw [rf_thing_t hT hR c4, Option.bind_some, if_neg (by decide)]
          by_cases c5 : T 6 a ≤ aD w a
          · rw [if_neg (show ¬ nI (aD w a) < nI (T 6 a) from nI_nlt c5 (by omega))]
            by_cases c6 : aD w a ≤ T 7 a
            · rw [if_neg (show ¬ nI (T 7 a) < nI (aD w a) from nI_nlt c6 (by omega)), if_neg (by decide)]
              by_cases c7 : s.testBit (aD w a) = true
              · rw [if_neg (show ¬ (if s.testBit (aD w a) = true then (1 : Int32) else 0) = 0 by rw [c7]; decide), if_pos trivial, if_neg (fun q => by rw [(may_iff.mp q).2.2.2.2] at c7; cases c7)]
              · have c8 : s.testBit (aD w a) = false := by simpa using c7
                rw [if_pos (show (if s.testBit (aD w a) = true then (1 : Int32) else 0) = 0 by rw [c8]; rfl), if_neg (by decide), if_pos (may_iff.mpr ⟨c2, c3, c5, c6, c8⟩)]
            · rw [if_pos (show nI (T 7 a) < nI (aD w a) from nI_lt (by omega) (by omega)), if_pos rfl, if_pos trivial, if_neg (fun q => c6 (may_iff.mp q).2.2.2.1)]
          · rw [if_pos (show nI (aD w a) < nI (T 6 a) from nI_lt (by omega) (by omega)), if_pos rfl, if_pos trivial, if_neg (fun q => c5 (may_iff.mp q).2.2.1)]
        · rw [rf_thing_f hT hR (Or.inr (nI_le (by omega) (by omega))), Option.bind_some, if_pos rfl, if_pos trivial, if_neg (fun q => by have := (may_iff.mp q).2.2.2.1; omega)]
      · have c8 : who.testBit a = false := by simpa using c3
        rw [if_pos (by rw [c8]; rfl), if_pos trivial, if_neg (fun q => c3 (may_iff.mp q).2.1)]
    · rw [if_pos (nI_le (by omega) (by omega)), if_pos trivial, if_neg (fun q => c2 (may_iff.mp q).1)]
  have run : ∀ m a s n, a + m = 4 → s < 16 → m < n → lq2 (g_X7_setBy_5 N u sd (nI w) (nI who)) n (nI s) (nI a) = some (enc (fwd T who (aD w) m a s)) := by
    intro m
    induction m with
    | zero =>
      intro a s n h1 h2 h3
      obtain ⟨n, rfl⟩ : ∃ n', n = n' + 1 := ⟨n - 1, by omega⟩
      have : a = 4 := by omega
      subst this
      simp only [lq2]
      unfold g_X7_setBy_5
      rw [if_pos (by decide)]
      rfl
    | succ m ih =>
      intro a s n h1 h2 h3
      obtain ⟨n, rfl⟩ : ∃ n', n = n' + 1 := ⟨n - 1, by omega⟩
      simp only [lq2, fwd]
      rw [stepE _ a s (by omega) h2]
      cases ho : one T who a (aD w a) s with
      | none => rfl
      | some s' => exact ih (a + 1) s' n (by omega) (one_lt h2 ho) (by omega)
  unfold f_X7_setBy
  have := run 4 0 0 N (by omega) (by omega) (by omega)
  rw [show stp T who (aD w) 4 = fwd T who (aD w) 4 0 0 by rw [← Nat.zero_add 4, ← fwd_stp]; rfl]
  exact this
theorem aD_way (d0 d1 d2 d3 : Nat) (h0 : d0 < 5) (h1 : d1 < 5) (h2 : d2 < 5) (h3 : d3 < 5) : aD (125 * d0 + 25 * d1 + 5 * d2 + d3) 0 = d0 ∧ aD (125 * d0 + 25 * d1 + 5 * d2 + d3) 1 = d1 ∧ aD (125 * d0 + 25 * d1 + 5 * d2 + d3) 2 = d2 ∧ aD (125 * d0 + 25 * d1 + 5 * d2 + d3) 3 = d3 := by
  unfold aD
  simp only [show 3 - 0 = 3 from rfl, show 3 - 1 = 2 from rfl, show 3 - 2 = 1 from rfl, show 3 - 3 = 0 from rfl, show 5 ^ 3 = 125 from rfl, show 5 ^ 2 = 25 from rfl, show 5 ^ 1 = 5 from rfl, show 5 ^ 0 = 1 from rfl]
  omega
def d5 (dl : Nat → Nat) (j : Nat) : Nat := if dl j < 4 then dl j else 4
def way (dl : Nat → Nat) : Nat := 125 * d5 dl 0 + 25 * d5 dl 1 + 5 * d5 dl 2 + d5 dl 3
theorem d5_lt (dl : Nat → Nat) (j : Nat) : d5 dl j < 5 := by unfold d5; split <;> omega
theorem way_lt (dl : Nat → Nat) : way dl < 625 := by
  have := d5_lt dl 0; have := d5_lt dl 1; have := d5_lt dl 2; have := d5_lt dl 3
  unfold way; omega
theorem way_aD (dl : Nat → Nat) {j : Nat} (hj : j < 4) : aD (way dl) j = d5 dl j := by
  obtain ⟨a0, a1, a2, a3⟩ := aD_way _ _ _ _ (d5_lt dl 0) (d5_lt dl 1) (d5_lt dl 2) (d5_lt dl 3)
  unfold way
  rcases (show j = 0 ∨ j = 1 ∨ j = 2 ∨ j = 3 by omega) with rfl | rfl | rfl | rfl
  · exact a0
  · exact a1
  · exact a2
  · exact a3
theorem way_stp {who : Nat} (dl : Nat → Nat) : stp T who (aD (way dl)) 4 = stp T who dl 4 := stp_congr (fun j hj => by
  rw [way_aD dl hj]
  unfold d5
  by_cases h : dl j < 4
  · rw [if_pos h]; exact Or.inl rfl
  · rw [if_neg h]; exact Or.inr ⟨Nat.le_refl _, by omega⟩)
theorem rf_best (hT : wfT T) (hR : RT u T) (hN : 700 ≤ N) {who : Nat} (hwho : who < 2 ^ 31) {W : Nat → Nat} (hW : ∀ s, W s < 2 ^ 30) (hz : ∀ s, s < 2 ^ T 0 0 → u 14 s = nI (W s)) : ∃ b, f_X7_bestBy N u sd (nI who) = some (nI b) ∧ isB T who W b := by
  have h4 := hT.1
  have h16 := px_sh16 h4
  unfold f_X7_bestBy
  obtain ⟨x, ⟨b, rfl, hb2, hb3⟩, h2⟩ := lq2_inv (b := g_X7_bestBy_4 N u sd (nI who)) 0 625 N (fun i x => ∃ b, x = nI b ∧ Rc T who 4 b ∧ ∀ w, w < i → ∀ s, stp T who (aD w) 4 = some s → ¬ bt W s b) (fun x => some x) (fun rec x _ => by
    unfold g_X7_bestBy_4
    rw [if_pos (by decide)]) (fun rec x i _ g2 ⟨b, hx, hb2, hb3⟩ => by
    have hbl := Rc_lt hT hb2
    unfold g_X7_bestBy_4 g_X7_bestBy_86
    rw [show (625 : Int32) = nI 625 from rfl, if_neg (nI_ge g2 (by decide)), rf_setBy hT hR hN g2 hwho, Option.bind_some, nI_1, hx]
    cases hs : stp T who (aD i) 4 with
    | none =>
      refine ⟨nI b, ⟨b, rfl, hb2, fun w hw s hs2 => ?_⟩, if_pos rfl⟩
      rcases (show w < i ∨ w = i by omega) with h | rfl
      · exact hb3 w h s hs2
      · rw [hs] at hs2; cases hs2
    | some s =>
      have hr : Rc T who 4 s := ⟨_, hs⟩
      have hsl := Rc_lt hT hr
      have o1 := on_le s
      have o2 := on_le b
      have ws := hW s
      have wb := hW b
      have fin : ∀ (r : Option Int32), r = (if bt W s b then rec (nI s) (nI (i + 1)) else rec (nI b) (nI (i + 1))) → ∃ a', (∃ b, a' = nI b ∧ Rc T who 4 b ∧ ∀ w, w < i + 1 → ∀ s, stp T who (aD w) 4 = some s → ¬ bt W s b) ∧ r = rec a' (nI (i + 1)) := by
        intro r hr2
        by_cases hc : bt W s b
        · refine ⟨nI s, ⟨s, rfl, hr, fun w hw s' hs2 => ?_⟩, by rw [hr2, if_pos hc]⟩
          rcases (show w < i ∨ w = i by omega) with h | rfl
          · exact fun q => hb3 w h s' hs2 (bt_tr q hc)
          · rw [hs] at hs2
            have : s = s' := by simpa using hs2
            subst this
            unfold bt; omega
        · refine ⟨nI b, ⟨b, rfl, hb2, fun w hw s' hs2 => ?_⟩, by rw [hr2, if_neg hc]⟩
          rcases (show w < i ∨ w = i by omega) with h | rfl
          · exact hb3 w h s' hs2
          · rw [hs] at hs2
            have : s = s' := by simpa using hs2
            subst this
            exact hc
      apply fin
      rw [show enc (some s) = nI s from rfl, if_neg (nI_m9 (by omega))]
      by_cases c0 : s = b
      · subst c0
        rw [if_pos rfl, if_neg (by unfold bt; omega)]
      rw [if_neg (fun q => c0 ((nI_eq (by omega) (by omega)).mp q)), px_rd (by omega) (by decide), px_rd (by omega) (by decide), hz s hsl, hz b hbl, rf_ones (by omega), rf_ones (by omega)]
      simp only [Option.bind_some]
      by_cases c1 : W b < W s
      · rw [if_pos ((sub_gt ws wb).mpr c1), if_pos (Or.inl c1)]
      rw [if_neg (fun q => c1 ((sub_gt ws wb).mp q))]
      by_cases c2 : W s = W b
      · rw [if_pos ((sub_eq0 ws wb).mpr c2)]
        by_cases c3 : on s < on b
        · rw [if_pos ((sub_gt (by omega) (by omega)).mpr c3), if_pos (by unfold bt; omega)]
        rw [if_neg (fun q => c3 ((sub_gt (by omega) (by omega)).mp q))]
        by_cases c4 : on b = on s
        · rw [if_pos ((sub_eq0 (by omega) (by omega)).mpr c4)]
          by_cases c5 : b ≤ s
          · rw [if_pos (nI_le c5 (by omega)), if_neg (by unfold bt; omega)]
          · rw [if_neg (nI_ge (by omega) (by omega)), if_pos (by unfold bt; omega)]
        · rw [if_neg (fun q => c4 ((sub_eq0 (by omega) (by omega)).mp q)), if_neg (by unfold bt; omega)]
      · rw [if_neg (fun q => c2 ((sub_eq0 ws wb).mp q)), if_neg (by unfold bt; omega)]) (nI 0) ⟨0, rfl, Rc_z 4, fun w hw => absurd hw (by omega)⟩ (by omega) (by omega)
  exact ⟨b, h2, hb2, fun s ⟨dl, hs⟩ => hb3 (way dl) (way_lt dl) s (by rw [way_stp]; exact hs)⟩
end BEST
