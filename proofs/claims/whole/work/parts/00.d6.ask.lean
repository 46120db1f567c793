/-! steps: toAsk, by -/
theorem ck_partsSeen {T : NT} {A : Nat → Int32} {c0 : CU} {sd : Int64} (hT : wfT T) (hC : CT (c0 2) T) (hL : lifeR (c0 4) A) {d : Nat} (hd : d ≤ 9) (ed : A 0 = nI d) : f_X6_partsSeen NN c0 sd = some (nI (prt T (seenW T d))) := by
  unfold f_X6_partsSeen
  rw [hL.1, ed, ct_seen hT hC (by decide) hd, Option.bind_some, ct_prt hT hC (by decide), Option.bind_some]
theorem idl_lt (A : Nat → Int32) (k : Nat) : idl A k < 2 ^ k := mkm_lt _ _
theorem wth_30 {T : NT} (hT : wfT T) (A : Nat → Int32) (d : Nat) : ∀ s, wth T A d s < 2 ^ 30 := fun s => Nat.lt_of_le_of_lt (wth_le hT A d s) (by decide)
theorem st_toAsk (c0 : CU) (sd : Int64) (u0 : TU) (se : Int64) (hR : Rel c0 sd u0 se) : ∃ (r : Int32) (c1 : CU) (mu1 : TU), f_X6_toAsk NN c0 sd = some (r, c1) ∧ f_X7_toAsk NN u0 se = some (r, mu1) ∧ Rel c1 sd mu1 se := by
  have hNN : NN = 1000 := rfl
  obtain ⟨e0, T, A, hA0⟩ := id hR
  obtain ⟨hT, hC, hM, hA, hL, hW, hx⟩ := id hA0
  have hk := px_sh16 hT.2.1
  have hil := idl_lt A (T 0 1)
  obtain ⟨d, hd, ed⟩ := hA.1
  have hp := prt_le hT (seenW T d)
  by_cases hz : prt T (seenW T d) = 0
  · refine ⟨-3, c0, u0, ?_, ?_, hR⟩
    · unfold f_X6_toAsk; rw [ck_partsSeen hT hC hL hd ed, Option.bind_some, if_pos (by rw [hz]; rfl)]
    · unfold f_X7_toAsk; rw [px_rd0 (by decide) (by decide), hW 0 (by decide), ed, Option.bind_some, rf_parts0 hT hM (by decide) hd, Option.bind_some, if_pos (by rw [hz]; rfl)]
  obtain ⟨z', z1, z2⟩ := cq_find (z := c0 9) (N := NN) hT hC hL (by decide) hd ed
  obtain ⟨w, w1, w2, w3⟩ := rq_find (sd := se) (N := NN) hT hM hW (by decide) hd ed
  obtain ⟨M, m1, m2⟩ := cs_sets (z := z') (N := NN) hT hC.1 (by decide) (show idl A (T 0 1) < 2 ^ 31 by omega)
  obtain ⟨b, b1, b2⟩ := cs_best (N := NN) hT hC.1 (by decide) m2 (wth_30 hT A d) z2
  obtain ⟨b', b3, b4⟩ := rf_best (sd := se) (N := NN) hT (scr_RT w2 hM) (by decide) (show idl A (T 0 1) < 2 ^ 31 by omega) (wth_30 hT A d) w3
  have eb := isB_u b2 b4
  subst eb
  refine ⟨nI b, mk_set3 c0 9 z', w, ?_, ?_, e0, T, A, scr_rel (c := mk_set3 c0 9 z') w2 hA0⟩
  · unfold f_X6_toAsk mk_nm f_X1_bestSet
    rw [ck_partsSeen hT hC hL hd ed, Option.bind_some, if_neg (fun q => hz ((nI_z (by omega)).mp q)), z1, Option.bind_some]
    show ((f_X2_idleAskers NN (c0 4) (c0 2)).bind fun r_1 => (f_X1_setsFor NN z' (c0 2) r_1).bind fun r_2 => (f_X1_bestOf NN z' (c0 2) r_2).bind fun r_3 => some r_3).bind _ = _
    rw [cl_idle hT hC.1 hL (by decide), Option.bind_some, m1, Option.bind_some, b1]
    rfl
  · unfold f_X7_toAsk
    rw [px_rd0 (by decide) (by decide), hW 0 (by decide), ed, Option.bind_some, rf_parts0 hT hM (by decide) hd, Option.bind_some, if_neg (fun q => hz ((nI_z (by omega)).mp q)), w1, Option.bind_some, rl_fresh hT (scr_RT w2 hM) (scr_now w2 hW) (by decide), Option.bind_some, b3, Option.bind_some]
def rm (x t : Nat) : Nat := x &&& (15 ^^^ 2 ^ t)
theorem rm_i {x t : Nat} (hx : x < 16) (ht : t < 4) : nI x &&& (nI (2 ^ t) ^^^ (-1 : Int32)) = nI (rm x t) := (by decide +kernel : ∀ x, x < 16 → ∀ t, t < 4 → nI x &&& (nI (2 ^ t) ^^^ (-1 : Int32)) = nI (rm x t)) x hx t ht
theorem hi_bit {x i : Nat} (hx : x < 16) (hi : 4 ≤ i) : x.testBit i = false := Nat.testBit_lt_two_pow (Nat.lt_of_lt_of_le hx (show 2 ^ 4 ≤ 2 ^ i from Nat.pow_le_pow_right (by decide) hi))
theorem rm_bit {x : Nat} (hx : x < 16) (t i : Nat) : (rm x t).testBit i = (x.testBit i && !decide (t = i)) := by
  unfold rm
  rw [Nat.testBit_and, Nat.testBit_xor, show 15 = 2 ^ 4 - 1 from rfl, full_bit, Nat.testBit_two_pow]
  by_cases hi : i < 4
  · simp [hi]
  · rw [hi_bit hx (by omega)]; simp
theorem rm_lt {x : Nat} (hx : x < 16) (t : Nat) : rm x t < 16 := Nat.lt_of_le_of_lt Nat.and_le_left hx
section BY
variable {T : NT} {u v l z : TU} {A : Nat → Int32} {N : Nat} {sd : Int64}
/-- what is left of b, s being taken -/
def lft (b s x : Nat) : Prop := x < 16 ∧ ∀ i, x.testBit i = (b.testBit i && !s.testBit i)
/-- of who, those from j on -/
def ltr (who j y : Nat) : Prop := y < 16 ∧ ∀ i, y.testBit i = (who.testBit i && decide (j ≤ i))
theorem stp_no {y j q : Nat} {ep : Nat → Nat} (h : ∀ i, i < j → y.testBit i = false) (hs : stp T y ep j = some q) : q = 0 := by
  induction j generalizing q with
  | zero => simpa [stp] using hs.symm
  | succ j ih =>
    obtain ⟨q0, h1, h2⟩ := stp_s.mp hs
    have e := ih (fun i hi => h i (by omega)) h1
    subst e
    unfold one at h2
    by_cases h4 : 4 ≤ ep j
    · rw [if_pos h4] at h2; simpa using h2.symm
    · rw [if_neg h4, if_neg (fun m => by have := (may_iff.mp m).2.1; rw [h j (by omega)] at this; cases this)] at h2; cases h2
theorem gd_a {who b j s t y x : Nat} {dl : Nat → Nat} (hj : j < 4) (hb : stp T who dl 4 = some b) (hs : stp T who dl j = some s) (ht : dl j = t) (t4 : t < 4) (hx : lft b s x) (hy : ltr who (j + 1) y) : (j < T 0 1 ∧ who.testBit j = true ∧ T 6 j ≤ t ∧ t ≤ T 7 j) ∧ x.testBit t = true ∧ Rc T y 4 (rm x t) := by
  have hsub : ∀ m a, a + m ≤ 4 → ∀ q q', stp T who dl a = some q → stp T who dl (a + m) = some q' → ∀ i, q.testBit i = true → q'.testBit i = true := by
    intro m
    induction m with
    | zero => intro a _ q q' h1 h2 i hi; rw [Nat.add_zero, h1] at h2; have : q = q' := by simpa using h2
              rw [← this]; exact hi
    | succ m ih =>
      intro a ha q q' h1 h2 i hi
      obtain ⟨q0, g1, g2⟩ := stp_s.mp h2
      have g3 := ih a (by omega) q q0 h1 g1 i hi
      unfold one at g2
      split at g2
      · have : q0 = q' := by simpa using g2
        rw [← this]; exact g3
      · split at g2
        · have : q0 ||| 2 ^ dl (a + m) = q' := by simpa using g2
          rw [← this, Nat.testBit_or, g3]; rfl
        · cases g2
  have hs1 : ∃ s1, stp T who dl (j + 1) = some s1 := by
    cases h : stp T who dl (j + 1) with
    | some s1 => exact ⟨s1, rfl⟩
    | none =>
      have := fwd_stp T who dl (4 - (j + 1)) (j + 1)
      rw [h, show j + 1 + (4 - (j + 1)) = 4 by omega, hb] at this
      cases this
  obtain ⟨s1, hs1⟩ := hs1
  obtain ⟨s0, h1, h2⟩ := stp_s.mp hs1
  rw [hs] at h1
  have e : s = s0 := by simpa using h1
  subst e
  unfold one at h2
  rw [ht, if_neg (by omega)] at h2
  by_cases hm : may T who j t s = true
  · rw [if_pos hm] at h2
    have e1 : s ||| 2 ^ t = s1 := by simpa using h2
    obtain ⟨m1, m2, m3, m4, m5⟩ := may_iff.mp hm
    have hbt : b.testBit t = true := hsub (4 - (j + 1)) (j + 1) (by omega) s1 b hs1 (by rw [show j + 1 + (4 - (j + 1)) = 4 by omega]; exact hb) t (by rw [← e1, Nat.testBit_or, Nat.testBit_two_pow]; simp)
    refine ⟨⟨m1, m2, m3, m4⟩, by rw [hx.2, hbt, m5]; rfl, ?_⟩
    have run : ∀ m, j + 1 + m ≤ 4 → ∀ q, stp T who dl (j + 1 + m) = some q → (∀ i, s1.testBit i = true → q.testBit i = true) ∧ stp T y (fun i => if i ≤ j then 4 else dl i) (j + 1 + m) = some (q ^^^ s1) := by
      intro m
      induction m with
      | zero =>
        intro _ q hq
        rw [Nat.add_zero, hs1] at hq
        have : s1 = q := by simpa using hq
        subst this
        refine ⟨fun _ h => h, ?_⟩
        rw [Nat.xor_self, Nat.add_zero]
        have z0 : ∀ a, a ≤ j + 1 → stp T y (fun i => if i ≤ j then 4 else dl i) a = some 0 := by
          intro a
          induction a with
          | zero => intro _; rfl
          | succ a ih => intro ha; exact stp_s.mpr ⟨0, ih (by omega), by unfold one; rw [if_pos (show 4 ≤ (if a ≤ j then 4 else dl a) by rw [if_pos (by omega)]; omega)]⟩
        exact z0 (j + 1) (Nat.le_refl _)
      | succ m ih =>
        intro hm4 q hq
        obtain ⟨q0, g1, g2⟩ := (stp_s (a := j + 1 + m)).mp hq
        obtain ⟨i1, i2⟩ := ih (by omega) q0 g1
        have ej : (if j + 1 + m ≤ j then 4 else dl (j + 1 + m)) = dl (j + 1 + m) := if_neg (by omega)
        unfold one at g2
        by_cases c4 : 4 ≤ dl (j + 1 + m)
        · rw [if_pos c4] at g2
          have : q0 = q := by simpa using g2
          subst this
          refine ⟨i1, (stp_s (a := j + 1 + m)).mpr ⟨_, i2, ?_⟩⟩
          unfold one
          rw [ej, if_pos c4]
        · rw [if_neg c4] at g2
          by_cases cm : may T who (j + 1 + m) (dl (j + 1 + m)) q0 = true
          · rw [if_pos cm] at g2
            have e2 : q0 ||| 2 ^ dl (j + 1 + m) = q := by simpa using g2
            obtain ⟨n1, n2, n3, n4, n5⟩ := may_iff.mp cm
            have n6 : s1.testBit (dl (j + 1 + m)) = false := by
              cases h : s1.testBit (dl (j + 1 + m))
              · rfl
              · rw [i1 _ h] at n5; cases n5
            refine ⟨fun i hi => by rw [← e2, Nat.testBit_or, i1 i hi]; rfl, (stp_s (a := j + 1 + m)).mpr ⟨_, i2, ?_⟩⟩
            unfold one
            rw [ej, if_neg c4, if_pos (may_iff.mpr ⟨n1, by rw [hy.2, n2, decide_eq_true (by omega)]; rfl, n3, n4, by rw [Nat.testBit_xor, n5, n6]; rfl⟩)]
            congr 1
            rw [← e2]
            apply Nat.eq_of_testBit_eq
            intro i
            rw [Nat.testBit_or, Nat.testBit_xor, Nat.testBit_xor, Nat.testBit_or, Nat.testBit_two_pow]
            by_cases hi : dl (j + 1 + m) = i
            · rw [hi] at n5 n6; rw [n5, n6, hi]; simp
            · simp [hi]
          · rw [if_neg cm] at g2; cases g2
    obtain ⟨r1, r2⟩ := run (4 - (j + 1)) (by omega) b (by rw [show j + 1 + (4 - (j + 1)) = 4 by omega]; exact hb)
    rw [show j + 1 + (4 - (j + 1)) = 4 by omega] at r2
    refine ⟨fun i => if i ≤ j then 4 else dl i, ?_⟩
    · rw [r2]
      congr 1
      apply Nat.eq_of_testBit_eq
      intro i
      have r3 := r1 i
      rw [← e1, Nat.testBit_or, Nat.testBit_two_pow] at r3
      rw [rm_bit hx.1, hx.2, Nat.testBit_xor, ← e1, Nat.testBit_or, Nat.testBit_two_pow]
      revert r3
      cases b.testBit i <;> cases s.testBit i <;> cases decide (t = i) <;> simp
  · rw [if_neg hm] at h2; cases h2
theorem d5_eq {dl : Nat → Nat} {j t : Nat} (h : dl j = t) (ht : t < 4) : d5 dl j = t := by
  unfold d5; rw [h, if_pos ht]
theorem d5_congr {dl ep : Nat → Nat} {j : Nat} (h : dl j = ep j) : d5 dl j = d5 ep j := by
  unfold d5; rw [h]
theorem gd_b (hT : wfT T) {who b j s t y x : Nat} {dl : Nat → Nat} (hj : j < 4) (hb : stp T who dl 4 = some b) (hmin : ∀ ep, stp T who ep 4 = some b → way dl ≤ way ep) (hs : stp T who dl j = some s) (hx : lft b s x) (hy : ltr who (j + 1) y) (hk : j < T 0 1) (hw : who.testBit j = true) (t1 : T 6 j ≤ t) (t2 : t ≤ T 7 j) (ht : x.testBit t = true) (hr : Rc T y 4 (rm x t)) : d5 dl j ≤ t := by
  have t4 : t < 4 := by have := hT.2.2.2.2.1 j hk; have := hT.1; omega
  rw [hx.2, Bool.and_eq_true] at ht
  have hst : s.testBit t = false := by simpa using ht.2
  obtain ⟨e0, he⟩ := hr
  have sle : ∀ i, s.testBit i = true → b.testBit i = true := by
    have hsub : ∀ m a, ∀ q q', stp T who dl a = some q → stp T who dl (a + m) = some q' → ∀ i, q.testBit i = true → q'.testBit i = true := by
      intro m
      induction m with
      | zero => intro a q q' h1 h2 i hi; rw [Nat.add_zero, h1] at h2; have : q = q' := by simpa using h2
                rw [← this]; exact hi
      | succ m ih =>
        intro a q q' h1 h2 i hi
        obtain ⟨q0, g1, g2⟩ := stp_s.mp h2
        have g3 := ih a q q0 h1 g1 i hi
        unfold one at g2
        split at g2
        · have : q0 = q' := by simpa using g2
          rw [← this]; exact g3
        · split at g2
          · have : q0 ||| 2 ^ dl (a + m) = q' := by simpa using g2
            rw [← this, Nat.testBit_or, g3]; rfl
          · cases g2
    exact hsub (4 - j) j s b hs (by rw [show j + (4 - j) = 4 by omega]; exact hb)
  have run : ∀ m, ∀ q, stp T y e0 (j + 1 + m) = some q → (∀ i, q.testBit i = true → (s ||| 2 ^ t).testBit i = false) → stp T who (fun i => if i < j then dl i else if i = j then t else e0 i) (j + 1 + m) = some ((s ||| 2 ^ t) ||| q) := by
    intro m
    induction m with
    | zero =>
      intro q hq _
      have q0 := stp_no (j := j + 1) (fun i hi => by rw [hy.2, decide_eq_false (by omega)]; simp) hq
      subst q0
      rw [Nat.or_zero]
      refine stp_s.mpr ⟨s, ?_, ?_⟩
      · rw [← hs]; exact stp_congr (fun i hi => Or.inl (if_pos hi))
      · unfold one
        rw [show (if j < j then dl j else if j = j then t else e0 j) = t by rw [if_neg (by omega), if_pos rfl], if_neg (by omega), if_pos (may_iff.mpr ⟨hk, hw, t1, t2, hst⟩)]
    | succ m ih =>
      intro q hq hdis
      obtain ⟨q0, g1, g2⟩ := (stp_s (a := j + 1 + m)).mp hq
      have ej : (if j + 1 + m < j then dl (j + 1 + m) else if j + 1 + m = j then t else e0 (j + 1 + m)) = e0 (j + 1 + m) := by rw [if_neg (by omega), if_neg (by omega)]
      unfold one at g2
      by_cases c4 : 4 ≤ e0 (j + 1 + m)
      · rw [if_pos c4] at g2
        have : q0 = q := by simpa using g2
        subst this
        refine (stp_s (a := j + 1 + m)).mpr ⟨_, ih q0 g1 hdis, ?_⟩
        unfold one
        rw [ej, if_pos c4]
      · rw [if_neg c4] at g2
        by_cases cm : may T y (j + 1 + m) (e0 (j + 1 + m)) q0 = true
        · rw [if_pos cm] at g2
          have e2 : q0 ||| 2 ^ e0 (j + 1 + m) = q := by simpa using g2
          obtain ⟨n1, n2, n3, n4, n5⟩ := may_iff.mp cm
          refine (stp_s (a := j + 1 + m)).mpr ⟨_, ih q0 g1 (fun i hi => hdis i (by rw [← e2, Nat.testBit_or, hi]; rfl)), ?_⟩
          unfold one
          rw [hy.2, Bool.and_eq_true] at n2
          rw [ej, if_neg c4, if_pos (may_iff.mpr ⟨n1, n2.1, n3, n4, by rw [Nat.testBit_or, n5, hdis (e0 (j + 1 + m)) (by rw [← e2, Nat.testBit_or, Nat.testBit_two_pow]; simp)]; rfl⟩), ← e2, Nat.or_assoc]
        · rw [if_neg cm] at g2; cases g2
  have fin := run (4 - (j + 1)) (rm x t) (by rw [show j + 1 + (4 - (j + 1)) = 4 by omega]; exact he) (fun i hi => by
    rw [rm_bit hx.1, hx.2] at hi
    rw [Nat.testBit_or, Nat.testBit_two_pow]
    revert hi
    cases b.testBit i <;> cases s.testBit i <;> cases decide (t = i) <;> simp)
  rw [show j + 1 + (4 - (j + 1)) = 4 by omega] at fin
  have eb : (s ||| 2 ^ t) ||| rm x t = b := by
    apply Nat.eq_of_testBit_eq
    intro i
    rw [Nat.testBit_or, Nat.testBit_or, Nat.testBit_two_pow, rm_bit hx.1, hx.2]
    have a1 := sle i
    have a2 : decide (t = i) = true → b.testBit i = true := fun h => by rw [← of_decide_eq_true h]; exact ht.1
    revert a1 a2
    cases b.testBit i <;> cases s.testBit i <;> cases decide (t = i) <;> simp
  rw [eb] at fin
  have hle := hmin _ fin
  have dj : d5 (fun i => if i < j then dl i else if i = j then t else e0 i) j = t := by
    refine d5_eq ?_ t4
    show (if j < j then dl j else if j = j then t else e0 j) = t
    rw [if_neg (by omega), if_pos rfl]
  have di : ∀ i, i < j → d5 (fun i => if i < j then dl i else if i = j then t else e0 i) i = d5 dl i := fun i hi => by
    exact d5_congr (if_pos hi)
  generalize (fun i => if i < j then dl i else if i = j then t else e0 i) = ep at *
  have q0 := d5_lt ep 0; have q1 := d5_lt ep 1; have q2 := d5_lt ep 2; have q3 := d5_lt ep 3
  unfold way at hle
  rcases (show j = 0 ∨ j = 1 ∨ j = 2 ∨ j = 3 by omega) with rfl | rfl | rfl | rfl
  · omega
  · have := di 0 (by omega); omega
  · have := di 0 (by omega); have := di 1 (by omega); omega
  · have := di 0 (by omega); have := di 1 (by omega); have := di 2 (by omega); omega
end BY
