/-! step: by -/
theorem least {p : Nat → Prop} : ∀ n, p n → ∃ m, m ≤ n ∧ p m ∧ ∀ i, i < m → ¬ p i := by
  intro n
  induction n using Nat.strongRecOn with
  | _ n ih =>
    intro h
    rcases Classical.em (∃ i, i < n ∧ p i) with ⟨i, hi, hp⟩ | hno
    · obtain ⟨m, h1, h2, h3⟩ := ih i hi hp
      exact ⟨m, by omega, h2, h3⟩
    · exact ⟨n, Nat.le_refl _, h, fun i hi hp => hno ⟨i, hi, hp⟩⟩
section BY2
variable {T : NT} {u v l z : TU} {A : Nat → Int32} {N : Nat} {sd : Int64}
def good (T : NT) (j x y t : Nat) : Prop := T 6 j ≤ t ∧ t ≤ T 7 j ∧ x.testBit t = true ∧ Rc T y 4 (rm x t)
theorem rm_ne {x t : Nat} (hx : x < 16) (ht : t < 4) : nI x &&& (nI (2 ^ t) ^^^ (-1 : Int32)) = nI x ↔ x.testBit t = false := by
  rw [rm_i hx ht, nI_eq (by have := rm_lt hx t; omega) (by omega)]
  exact (by decide +kernel : ∀ x, x < 16 → ∀ t, t < 4 → (rm x t = x ↔ x.testBit t = false)) x hx t ht
theorem cs_first (hT : wfT T) (hC : CT0 v T) (hN : 700 ≤ N) {j x y M : Nat} (hj : j < T 0 1) (hx : x < 16) (hM : SM T y 4 M) : ∃ r, f_X1_firstThingFor N z v (nI j) (nI x) (nI M) = some r ∧ ((∃ t, r = nI t ∧ good T j x y t ∧ ∀ t', t' < t → ¬ good T j x y t') ∨ (r = -9 ∧ ∀ t, ¬ good T j x y t)) := by
  have h4 := hT.1
  have hk := hT.2.1
  obtain ⟨w1, w2⟩ := hT.2.2.2.2.1 j hj
  obtain ⟨e5, e6⟩ := hC.2.2.2.2.2.1 j hj
  have hlt := SM_lt hT hM
  have run : ∀ m t n, t + m = T 7 j + 1 → m < n → T 6 j ≤ t → (∀ t', t' < t → ¬ good T j x y t') → ∃ r, lq1 (g_X1_firstThingFor_8 N z v (nI j) (nI x) (nI M)) n (nI t) = some r ∧ ((∃ t, r = nI t ∧ good T j x y t ∧ ∀ t', t' < t → ¬ good T j x y t') ∨ (r = -9 ∧ ∀ t, ¬ good T j x y t)) := by
    intro m
    induction m with
    | zero =>
      intro t n h1 h2 h3 h5
      obtain ⟨n, rfl⟩ : ∃ n', n = n' + 1 := ⟨n - 1, by omega⟩
      refine ⟨-9, ?_, Or.inr ⟨rfl, fun t' hg => ?_⟩⟩
      · simp only [lq1]
        unfold g_X1_firstThingFor_8
        rw [px_rd (by omega) (by decide), e6, Option.bind_some, if_pos (nI_lt (by omega) (by omega))]
      · by_cases h : t' < t
        · exact h5 t' h hg
        · have := hg.2.1; omega
    | succ m ih =>
      intro t n h1 h2 h3 h5
      obtain ⟨n, rfl⟩ : ∃ n', n = n' + 1 := ⟨n - 1, by omega⟩
      have t4 : t < 4 := by omega
      have go : ¬ good T j x y t → ∃ r, lq1 (g_X1_firstThingFor_8 N z v (nI j) (nI x) (nI M)) n (nI (t + 1)) = some r ∧ ((∃ t, r = nI t ∧ good T j x y t ∧ ∀ t', t' < t → ¬ good T j x y t') ∨ (r = -9 ∧ ∀ t, ¬ good T j x y t)) := fun hg => ih (t + 1) n (by omega) (by omega) (by omega) (fun t' ht' => by
        rcases (show t' < t ∨ t' = t by omega) with h | rfl
        · exact h5 t' h
        · exact hg)
      simp only [lq1]
      revert go
      generalize lq1 (g_X1_firstThingFor_8 N z v (nI j) (nI x) (nI M)) n = rec
      intro go
      unfold g_X1_firstThingFor_8
      rw [px_rd (by omega) (by decide), e6, Option.bind_some, if_neg (nI_nlt (by omega) (by omega)), px_sh (by omega), nI_1]
      by_cases c1 : x.testBit t = true
      · rw [if_neg (fun q => by rw [(rm_ne hx t4).mp q] at c1; cases c1), rm_i hx t4]
        have hr := rm_lt hx t
        by_cases c2 : M.testBit (rm x t) = true
        · rw [if_neg (by rw [px_bit0 (by omega) (by omega), c2]; decide)]
          exact ⟨nI t, rfl, Or.inl ⟨t, rfl, ⟨h3, by omega, c1, (hM _).mp c2⟩, h5⟩⟩
        · rw [if_pos (by rw [px_bit0 (by omega) (by omega)]; simpa using c2)]
          exact go (fun hg => c2 ((hM _).mpr hg.2.2.2))
      · rw [if_pos ((rm_ne hx t4).mpr (by simpa using c1))]
        exact go (fun hg => c1 hg.2.2.1)
  unfold f_X1_firstThingFor
  rw [px_rd (by omega) (by decide), e5, Option.bind_some]
  exact run (T 7 j + 1 - T 6 j) (T 6 j) N (by omega) (by omega) (Nat.le_refl _) (fun t' ht' hg => by have := hg.1; omega)
theorem cs_by (hT : wfT T) (hC : CT0 v T) (hN : 700 ≤ N) {who b a : Nat} {dl : Nat → Nat} (hw : who < 2 ^ T 0 1) (ha : a < T 0 1) (hb : stp T who dl 4 = some b) (hmin : ∀ ep, stp T who ep 4 = some b → way dl ≤ way ep) : lq3 (g_X1_thingAskedBy_18 N z v l (nI a)) N (nI b) (nI who) (nI 0) = some (if dl a < 4 then nI (dl a) else -9) := by
  have h4 := hT.1
  have hk := hT.2.1
  have hk16 := px_sh16 hk
  have pre : ∀ j, j ≤ 4 → ∃ s, stp T who dl j = some s := by
    intro j hj
    cases h : stp T who dl j with
    | some s => exact ⟨s, rfl⟩
    | none =>
      have := fwd_stp T who dl (4 - j) j
      rw [h, show j + (4 - j) = 4 by omega, hb] at this
      cases this
  have run : ∀ m j n s x y, j + m = a → m < n → stp T who dl j = some s → lft b s x → ltr who j y → lq3 (g_X1_thingAskedBy_18 N z v l (nI a)) n (nI x) (nI y) (nI j) = some (if dl a < 4 then nI (dl a) else -9) := by
    intro m
    induction m with
    | zero =>
      intro j n s x y h1 h2 hs hx hy
      obtain ⟨n, rfl⟩ : ∃ n', n = n' + 1 := ⟨n - 1, by omega⟩
      have : j = a := by omega
      subst this
      have hx16 := hx.1
      have hy16 := hy.1
      have hy' : ltr who (j + 1) (rm y j) := ⟨rm_lt hy.1 j, fun i => by
        rw [rm_bit hy.1, hy.2]
        by_cases c : j = i
        · subst c; simp
        · rw [show decide (j + 1 ≤ i) = decide (j ≤ i) from decide_eq_decide.mpr (by omega)]; simp [c]⟩
      obtain ⟨M, m1, m2⟩ := cs_sets (z := z) (N := N) hT hC hN (show rm y j < 2 ^ 31 by have := rm_lt hy.1 j; omega)
      obtain ⟨r, r1, r2⟩ := cs_first (z := z) (N := N) hT hC hN ha hx.1 m2
      simp only [lq3]
      unfold g_X1_thingAskedBy_18 g_X1_thingAskedBy_39 g_X1_thingAskedBy_78
      rw [if_neg (nI_nlt (by omega) (by omega)), px_sh (by omega), rm_i hy16 (by omega), m1, Option.bind_some, r1, Option.bind_some]
      simp only [if_true]
      by_cases c : who.testBit j = true
      · have cy : y.testBit j = true := by rw [hy.2, c]; simp
        rw [if_neg (by rw [px_bit0 (by omega) (by omega), cy]; decide), if_neg (by decide)]
        congr 1
        by_cases c4 : dl j < 4
        · rw [if_pos c4]
          obtain ⟨g1, g2, g3⟩ := gd_a (by omega) hb hs rfl c4 hx hy'
          have hg : good T j x (rm y j) (dl j) := ⟨g1.2.2.1, g1.2.2.2, g2, g3⟩
          rcases r2 with ⟨t, e, ht, hl⟩ | ⟨-, hno⟩
          · have := gd_b hT (by omega) hb hmin hs hx hy' ha c ht.1 ht.2.1 ht.2.2.1 ht.2.2.2
            rw [d5_eq rfl c4] at this
            have : t = dl j := by
              rcases (show t < dl j ∨ t = dl j ∨ dl j < t by omega) with h | h | h
              · omega
              · exact h
              · exact absurd hg (hl _ h)
            rw [e, this]
          · exact absurd hg (hno _)
        · rw [if_neg c4]
          rcases r2 with ⟨t, e, ht, hl⟩ | ⟨e, -⟩
          · have h := gd_b hT (by omega) hb hmin hs hx hy' ha c ht.1 ht.2.1 ht.2.2.1 ht.2.2.2
            unfold d5 at h
            rw [if_neg c4] at h
            have := ht.2.1
            have := hT.2.2.2.2.1 j ha
            omega
          · exact e
      · have cy : y.testBit j = false := by rw [hy.2]; simp [c]
        rw [if_pos (by rw [px_bit0 (by omega) (by omega), cy])]
        congr 1
        rw [if_neg]
        intro c4
        exact c (gd_a (by omega) hb hs rfl c4 hx hy').1.2.1
    | succ m ih =>
      intro j n s x y h1 h2 hs hx hy
      obtain ⟨n, rfl⟩ : ∃ n', n = n' + 1 := ⟨n - 1, by omega⟩
      have hx16 := hx.1
      have hy16 := hy.1
      have hjk : j < T 0 1 := by omega
      have hy' : ltr who (j + 1) (rm y j) := ⟨rm_lt hy.1 j, fun i => by
        rw [rm_bit hy.1, hy.2]
        by_cases c : j = i
        · subst c; simp
        · rw [show decide (j + 1 ≤ i) = decide (j ≤ i) from decide_eq_decide.mpr (by omega)]; simp [c]⟩
      obtain ⟨M, m1, m2⟩ := cs_sets (z := z) (N := N) hT hC hN (show rm y j < 2 ^ 31 by have := rm_lt hy.1 j; omega)
      obtain ⟨r, r1, r2⟩ := cs_first (z := z) (N := N) hT hC hN hjk hx.1 m2
      obtain ⟨s1, hs1⟩ := pre (j + 1) (by omega)
      obtain ⟨s0, q1, q2⟩ := stp_s.mp hs1
      rw [hs] at q1
      have e0 : s = s0 := by simpa using q1
      subst e0
      have hja : ¬ nI j = nI a := fun q => by have := (nI_eq (a := j) (b := a) (by omega) (by omega)).mp q; omega
      simp only [lq3]
      unfold g_X1_thingAskedBy_18 g_X1_thingAskedBy_39 g_X1_thingAskedBy_78
      rw [if_neg (nI_nlt (by omega) (by omega)), px_sh (by omega), rm_i hy16 (by omega), m1, Option.bind_some, r1, Option.bind_some]
      simp only [if_true, if_neg hja, nI_1]
      by_cases c : who.testBit j = true
      · have cy : y.testBit j = true := by rw [hy.2, c]; simp
        rw [if_neg (by rw [px_bit0 (by omega) (by omega), cy]; decide), if_neg (by decide)]
        by_cases c4 : dl j < 4
        · obtain ⟨g1, g2, g3⟩ := gd_a (by omega) hb hs rfl c4 hx hy'
          have hg : good T j x (rm y j) (dl j) := ⟨g1.2.2.1, g1.2.2.2, g2, g3⟩
          have er : r = nI (dl j) := by
            rcases r2 with ⟨t, e, ht, hl⟩ | ⟨-, hno⟩
            · have := gd_b hT (by omega) hb hmin hs hx hy' hjk c ht.1 ht.2.1 ht.2.2.1 ht.2.2.2
              rw [d5_eq rfl c4] at this
              have : t = dl j := by
                rcases (show t < dl j ∨ t = dl j ∨ dl j < t by omega) with h | h | h
                · omega
                · exact h
                · exact absurd hg (hl _ h)
              rw [e, this]
            · exact absurd hg (hno _)
          rw [er, if_neg (nI_m9 (by omega)), px_sh (by omega), rm_i hx16 c4]
          unfold one at q2
          rw [if_neg (by omega)] at q2
          by_cases cm : may T who j (dl j) s = true
          · rw [if_pos cm] at q2
            have e2 : s ||| 2 ^ dl j = s1 := by simpa using q2
            exact ih (j + 1) n s1 _ _ (by omega) (by omega) hs1 ⟨rm_lt hx16 _, fun i => by
              rw [rm_bit hx16, hx.2, ← e2, Nat.testBit_or, Nat.testBit_two_pow]
              cases b.testBit i <;> cases s.testBit i <;> simp⟩ hy'
          · rw [if_neg cm] at q2; cases q2
        · have er : r = -9 := by
            rcases r2 with ⟨t, e, ht, hl⟩ | ⟨e, -⟩
            · have h := gd_b hT (by omega) hb hmin hs hx hy' hjk c ht.1 ht.2.1 ht.2.2.1 ht.2.2.2
              unfold d5 at h
              rw [if_neg c4] at h
              have := ht.2.1
              have := hT.2.2.2.2.1 j hjk
              omega
            · exact e
          rw [er, if_pos rfl]
          unfold one at q2
          rw [if_pos (by omega)] at q2
          have e2 : s = s1 := by simpa using q2
          exact ih (j + 1) n s1 _ _ (by omega) (by omega) hs1 (by rw [← e2]; exact hx) hy'
      · have cy : y.testBit j = false := by rw [hy.2]; simp [c]
        have c4 : ¬ dl j < 4 := fun c4 => c (gd_a (by omega) hb hs rfl c4 hx hy').1.2.1
        rw [if_pos (by rw [px_bit0 (by omega) (by omega), cy])]
        unfold one at q2
        rw [if_pos (by omega)] at q2
        have e2 : s = s1 := by simpa using q2
        exact ih (j + 1) n s1 _ _ (by omega) (by omega) hs1 (by rw [← e2]; exact hx) hy'
  have hbl : b < 16 := by have := Rc_lt hT (show Rc T who 4 b from ⟨dl, hb⟩); have := px_sh16 h4; omega
  exact run a 0 N 0 b who (by omega) (by omega) rfl ⟨hbl, fun i => by simp⟩ ⟨by omega, fun i => by simp⟩
theorem rf_by (hT : wfT T) (hR : RT u T) (hW : nowR u A) (hN : 700 ≤ N) {a b : Nat} (ha : a < T 0 1) (hr : Rc T (idl A (T 0 1)) 4 b) : ∃ w, w < 625 ∧ stp T (idl A (T 0 1)) (aD w) 4 = some b ∧ (∀ ep, stp T (idl A (T 0 1)) ep 4 = some b → way (aD w) ≤ way ep) ∧ lq1 (g_X7_by_42 N u sd (nI a) (nI b)) N (nI 0) = some (if aD w a < 4 then nI (aD w a) else -9, u) := by
  have hk := hT.2.1
  have hk16 := px_sh16 hk
  have hil := idl_lt A (T 0 1)
  obtain ⟨dl, hdl⟩ := hr
  obtain ⟨w, w1, w2, w3⟩ := least (p := fun w => stp T (idl A (T 0 1)) (aD w) 4 = some b) (way dl) (by rw [way_stp]; exact hdl)
  have hwl := way_lt dl
  have hbl : b < 16 := by have := Rc_lt hT (show Rc T (idl A (T 0 1)) 4 b from ⟨dl, hdl⟩); have := px_sh16 hT.1; omega
  have ew : way (aD w) = w := by
    have h0 : ∀ j, d5 (aD w) j = aD w j := fun j => by
      have : aD w j < 5 := Nat.mod_lt _ (by decide)
      unfold d5; split <;> omega
    unfold way
    rw [h0, h0, h0, h0]
    unfold aD
    simp only [show 3 - 0 = 3 from rfl, show 3 - 1 = 2 from rfl, show 3 - 2 = 1 from rfl, show 3 - 3 = 0 from rfl, show 5 ^ 3 = 125 from rfl, show 5 ^ 2 = 25 from rfl, show 5 ^ 1 = 5 from rfl, show 5 ^ 0 = 1 from rfl]
    omega
  refine ⟨w, by omega, w2, fun ep he => ?_, ?_⟩
  · rw [ew]
    have := w3 (way ep)
    rcases Nat.lt_or_ge (way ep) w with h | h
    · exact absurd (by rw [way_stp]; exact he) (this h)
    · exact h
  · have h5 : aD w a < 5 := Nat.mod_lt _ (by decide)
    refine lq1_for 0 w N _ (fun rec => ?_) (fun rec i _ hi => ?_) (Nat.zero_le _) (by omega)
    · unfold g_X7_by_42
      rw [rl_fresh hT hR hW hN, Option.bind_some, rf_setBy hT hR hN (by omega) (by omega), Option.bind_some, w2, if_pos (show enc (some b) = nI b from rfl), rf_asks hN (by omega) (by omega), Option.bind_some, Option.bind_some]
      by_cases c : aD w a < 4
      · rw [if_neg (fun q => by have := (nI_eq (a := aD w a) (b := 4) (by omega) (by decide)).mp q; omega), if_pos c]
      · have : aD w a = 4 := by omega
        rw [this, if_pos (by rfl), if_neg (by omega)]
    · unfold g_X7_by_42
      rw [rl_fresh hT hR hW hN, Option.bind_some, rf_setBy hT hR hN (by omega) (by omega), Option.bind_some, nI_1, if_neg]
      have h3 := w3 i hi
      cases hs : stp T (idl A (T 0 1)) (aD i) 4 with
      | none => exact fun q => nI_m9 (show b < 2 ^ 31 by omega) q.symm
      | some s =>
        intro q
        have hsl : s < 16 := by have := Rc_lt hT (show Rc T (idl A (T 0 1)) 4 s from ⟨_, hs⟩); have := px_sh16 hT.1; omega
        have : s = b := (nI_eq (by omega) (by omega)).mp q
        exact h3 (by rw [hs, this])
end BY2
theorem st_by (c0 : CU) (sd : Int64) (u0 : TU) (se : Int64) (p0 : Int32) (hR : Rel c0 sd u0 se) : ∃ (r : Int32) (c1 : CU) (mu1 : TU), f_X6_by NN c0 sd p0 = some (r, c1) ∧ f_X7_by NN u0 se p0 = some (r, mu1) ∧ Rel c1 sd mu1 se := by
  have hNN : NN = 1000 := rfl
  obtain ⟨e0, T, A, hA0⟩ := id hR
  obtain ⟨hT, hC, hM, hA, hL, hW, hx⟩ := id hA0
  have hk := px_sh16 hT.2.1
  have hil := idl_lt A (T 0 1)
  rcases ix2 p0 hT.2.1 with hb | ⟨a, ha, rfl⟩
  · refine ⟨-1, c0, u0, ?_, ?_, hR⟩
    · unfold f_X6_by; rw [ct_asker_f hC.1 hb]; rfl
    · unfold f_X7_by; rw [rf_asker_f hT hM hb]; rfl
  obtain ⟨d, hd, ed⟩ := hA.1
  have hp := prt_le hT (seenW T d)
  by_cases hz : prt T (seenW T d) = 0
  · refine ⟨-3, c0, u0, ?_, ?_, hR⟩
    · unfold f_X6_by; rw [ct_asker_t hT hC.1 ha, Option.bind_some, if_neg (by decide), ck_partsSeen hT hC hL hd ed, Option.bind_some, if_pos (by rw [hz]; rfl)]
    · unfold f_X7_by; rw [rf_asker_t hT hM ha, Option.bind_some, if_neg (by decide), px_rd0 (by decide) (by decide), hW 0 (by decide), ed, Option.bind_some, rf_parts0 hT hM (by decide) hd, Option.bind_some, if_pos (by rw [hz]; rfl)]
  obtain ⟨z', z1, z2⟩ := cq_find (z := c0 9) (N := NN) hT hC hL (by decide) hd ed
  obtain ⟨w, w1, w2, w3⟩ := rq_find (sd := se) (N := NN) hT hM hW (by decide) hd ed
  obtain ⟨M, m1, m2⟩ := cs_sets (z := z') (N := NN) hT hC.1 (by decide) (show idl A (T 0 1) < 2 ^ 31 by omega)
  obtain ⟨b, b1, b2⟩ := cs_best (N := NN) hT hC.1 (by decide) m2 (wth_30 hT A d) z2
  obtain ⟨b', b3, b4⟩ := rf_best (sd := se) (N := NN) hT (scr_RT w2 hM) (by decide) (show idl A (T 0 1) < 2 ^ 31 by omega) (wth_30 hT A d) w3
  have eb := isB_u b2 b4
  subst eb
  obtain ⟨q, q1, q2, q3, q4⟩ := rf_by (sd := se) (N := NN) hT (scr_RT w2 hM) (scr_now w2 hW) (by decide) ha b2.1
  refine ⟨if aD q a < 4 then nI (aD q a) else -9, mk_set3 c0 9 z', w, ?_, ?_, e0, T, A, scr_rel (c := mk_set3 c0 9 z') w2 hA0⟩
  · unfold f_X6_by mk_nm
    rw [ct_asker_t hT hC.1 ha, Option.bind_some, if_neg (by decide), ck_partsSeen hT hC hL hd ed, Option.bind_some, if_neg (fun q => hz ((nI_z (by omega)).mp q)), z1, Option.bind_some]
    have e1 : f_X1_thingAskedBy NN z' (c0 2) (c0 4) (nI a) = some (if aD q a < 4 then nI (aD q a) else -9) := by
      unfold f_X1_thingAskedBy f_X1_bestSet
      rw [cl_idle hT hC.1 hL (by decide), Option.bind_some, m1, Option.bind_some, b1, Option.bind_some, Option.bind_some, Option.bind_some]
      exact cs_by hT hC.1 (by decide) hil ha q2 q3
    show (f_X1_thingAskedBy NN z' (c0 2) (c0 4) (nI a)).bind _ = _
    rw [e1]
    rfl
  · unfold f_X7_by
    rw [rf_asker_t hT hM ha, Option.bind_some, if_neg (by decide), px_rd0 (by decide) (by decide), hW 0 (by decide), ed, Option.bind_some, rf_parts0 hT hM (by decide) hd, Option.bind_some, if_neg (fun q => hz ((nI_z (by omega)).mp q)), w1, Option.bind_some, rl_fresh hT (scr_RT w2 hM) (scr_now w2 hW) (by decide), Option.bind_some, b3, Option.bind_some]
    exact q4
