/-! steps: what is known -/
section KNOWN
variable {T : NT} {A : Nat → Int32} {c0 : CU} {u0 : TU} {sd : Int64}
theorem ck_held (hT : wfT T) (hC : CT (c0 2) T) (hA : wfA T A) (hL : lifeR (c0 4) A) {d a : Nat} (hd : d ≤ 9) (ed : A 0 = nI d) (ha : a < 4) : f_X6_heldWorlds NN c0 sd (nI a) = some (nI (mkm (heldW T d (hrd A a)) (2 ^ T 0 0))) := by
  have hh := hrd_lt hT hA ha
  unfold f_X6_heldWorlds
  rw [hL.1, ed, ct_seen hT hC (by decide) hd, cl_heard hT hL hA ha]
  simp only [Option.bind_some]
  rw [hC.1.2.1, ct_like hT hC.1 (by decide) _ (by omega)]
  rfl
theorem nI_z {x : Nat} (hx : x < 2 ^ 31) : nI x = 0 ↔ x = 0 := by rw [px_0]; exact nI_eq hx (by decide)
end KNOWN
theorem st_holds (c0 : CU) (sd : Int64) (u0 : TU) (se : Int64) (p0 : Int32) (hR : Rel c0 sd u0 se) : ∃ (r : Int32), f_X6_holds NN c0 sd p0 = some r ∧ f_X7_holds NN u0 se p0 = some r ∧ Rel c0 sd u0 se := by
  have hNN : NN = 1000 := rfl
  obtain ⟨e0, T, A, hT, hC, hM, hA, hL, hW, hx⟩ := id hR
  have h4 := hT.2.1
  have h16 := px_sh16 hT.1
  rcases ix2 p0 h4 with hb | ⟨a, ha, rfl⟩
  · refine ⟨-1, ?_, ?_, hR⟩
    · unfold f_X6_holds; rw [ct_asker_f hC.1 hb]; rfl
    · unfold f_X7_holds; rw [rf_asker_f hT hM hb]; rfl
  obtain ⟨d, hd, ed⟩ := hA.1
  have hh := hrd_lt hT hA (a := a) (by omega)
  refine ⟨nI (cnt T (heldW T d (hrd A a))), ?_, ?_, hR⟩
  · unfold f_X6_holds
    rw [ct_asker_t hT hC.1 ha, ck_held hT hC hA hL hd ed (by omega)]
    simp only [Option.bind_some]
    rw [if_neg (by decide), ct_count hT]
    rfl
  · unfold f_X7_holds cnt
    rw [rf_asker_t hT hM ha]
    simp only [Option.bind_some]
    rw [if_neg (by decide), ← sm_cw hT]
    refine lq2_up (2 ^ T 0 0) NN (fun i => nI (sm (fun x => if heldW T d (hrd A a) (cw T x) then 1 else 0) i)) _ (by omega) (by omega) _ (by rw [hM.1, px_sh (by have := hT.1; omega)]) _ _ (fun _ _ _ => rfl) rfl (fun rec i hi => ?_)
    try dsimp only
    rw [px_rd0 (by decide) (by decide), hW 0 (by decide), ed, rl_heard hT hM hW hA (by decide) ha]
    simp only [Option.bind_some]
    rw [rf_possible hT hM (by decide) hi hd (by omega)]
    simp only [Option.bind_some, sm]
    cases heldW T d (hrd A a) (cw T i)
    · simp only [Bool.false_eq_true, if_false]; rw [if_pos trivial, px_0, nI_add]
    · simp only [if_true]; rw [if_neg (by decide), px_1, nI_add]
theorem st_worlds (c0 : CU) (sd : Int64) (u0 : TU) (se : Int64) (p0 : Int32) (hR : Rel c0 sd u0 se) : ∃ (r : Int32), f_X6_worlds NN c0 sd p0 = some r ∧ f_X7_worlds NN u0 se p0 = some r ∧ Rel c0 sd u0 se := by
  have hNN : NN = 1000 := rfl
  obtain ⟨e0, T, A, hT, hC, hM, hA, hL, hW, hx⟩ := id hR
  have h4 := hT.1
  have h16 := px_sh16 h4
  obtain ⟨d, hd, ed⟩ := hA.1
  have key : ∀ (x1 : Nat) (P : Nat → Bool) (g : Nat → Nat), (∀ x, x < 2 ^ T 0 0 → ∀ k : Int32 → Option Int32, (if (nI x1 - nI x1 / 2 * 2) = 0 then ((f_X7_isWorld NN u0 se (nI x)).bind fun r_1 => k r_1) else (mk_rd (u0 11) 10 0).bind fun v_2 => (f_X7_isSeenBy NN u0 se (nI x) v_2).bind fun r_3 => k r_3) = k (if P (cw T x) then 1 else 0)) → (∀ (rec : Int32 → Int32 → Option Int32) (s x : Nat), x < 2 ^ T 0 0 → (if (2 : Int32) ≤ nI x1 then ((f_X7_partsOf NN u0 se (nI x)).bind fun r_1 => rec (nI s + r_1) (nI x + 1)) else rec (nI s + 1) (nI x + 1)) = rec (nI (s + g (cw T x))) (nI x + 1)) → lq2 (g_X7_worlds_19 NN u0 se (nI x1)) NN 0 0 = some (nI (sm (fun w => if P w then g w else 0) (2 ^ T 0 0))) := by
    intro x1 P g hp hg
    rw [← sm_cw hT]
    refine lq2_up (2 ^ T 0 0) NN (fun i => nI (sm (fun x => if P (cw T x) then g (cw T x) else 0) i)) _ (by omega) (by omega) _ (by rw [hM.1, px_sh (by omega)]) _ _ (fun _ _ _ => rfl) rfl (fun rec i hi => ?_)
    try dsimp only
    rw [hp i hi (fun r => g_X7_worlds_54 NN u0 se rec (nI x1) (nI (sm (fun x => if P (cw T x) then g (cw T x) else 0) i)) (nI i) r)]
    unfold g_X7_worlds_54
    simp only [sm]
    cases P (cw T i)
    · simp only [Bool.false_eq_true, if_false]; rw [if_pos trivial, px_0, nI_add]
    · simp only [if_true]; rw [if_neg (by decide)]; exact hg rec _ i hi
  have pW : ∀ x, x < 2 ^ T 0 0 → ∀ k : Int32 → Option Int32, ((f_X7_isWorld NN u0 se (nI x)).bind fun r_1 => k r_1) = k (if okW T (cw T x) then 1 else 0) := by
    intro x hx k; rw [rf_isWorld hT hM (by decide) hx]; rfl
  have pS : ∀ x, x < 2 ^ T 0 0 → ∀ k : Int32 → Option Int32, ((mk_rd (u0 11) 10 0).bind fun v_2 => (f_X7_isSeenBy NN u0 se (nI x) v_2).bind fun r_3 => k r_3) = k (if seenW T d (cw T x) then 1 else 0) := by
    intro x hx k; rw [px_rd0 (by decide) (by decide), hW 0 (by decide), ed]; simp only [Option.bind_some]; rw [rf_seen hT hM (by decide) hx hd]; rfl
  have pP : ∀ (rec : Int32 → Int32 → Option Int32) (s x : Nat), x < 2 ^ T 0 0 → ((f_X7_partsOf NN u0 se (nI x)).bind fun r_1 => rec (nI s + r_1) (nI x + 1)) = rec (nI (s + wt T (cw T x))) (nI x + 1) := by
    intro rec s x hx; rw [rf_partsOf hT hM (by decide) hx]; simp only [Option.bind_some]; rw [nI_add]
  have inn : ∀ x1, x1 < 4 → ∀ k : Option Int32, ((f_X7_in NN (nI x1).toInt64 (0 : Int64) (3 : Int64)).bind fun r_1 => if r_1 = 0 then some (-2) else k) = k := by
    intro x1 h1 k
    rw [i64_0, show (3 : Int64) = (3 : Int32).toInt64 from rfl, rf_in, if_neg (nI_pos (by omega)), show (3 : Int32) = nI 3 from rfl, if_neg (nI_nlt (by omega) (by omega))]
    rfl
  by_cases q0 : p0 = 0
  · subst q0
    refine ⟨nI (cnt T (okW T)), ?_, ?_, hR⟩
    · unfold f_X6_worlds; rw [if_pos rfl, hC.2.1, ct_count hT]; rfl
    · unfold f_X7_worlds
      refine (inn 0 (by decide) _).trans ?_
      exact key 0 (okW T) (fun _ => 1) (fun x hx k => by rw [if_pos (by decide)]; exact pW x hx k) (fun rec s x hx => by rw [if_neg (by decide), nI_1])
  by_cases q1 : p0 = 1
  · subst q1
    refine ⟨nI (cnt T (seenW T d)), ?_, ?_, hR⟩
    · unfold f_X6_worlds; rw [if_neg q0, if_pos rfl, hL.1, ed, ct_seen hT hC (by decide) hd]; simp only [Option.bind_some]; rw [ct_count hT]; rfl
    · unfold f_X7_worlds
      refine (inn 1 (by decide) _).trans ?_
      exact key 1 (seenW T d) (fun _ => 1) (fun x hx k => by rw [if_neg (by decide)]; exact pS x hx k) (fun rec s x hx => by rw [if_neg (by decide), nI_1])
  by_cases q2 : p0 = 2
  · subst q2
    refine ⟨nI (prt T (okW T)), ?_, ?_, hR⟩
    · unfold f_X6_worlds; rw [if_neg q0, if_neg q1, if_pos rfl, hC.2.1, ct_parts hT hC (by decide)]; rfl
    · unfold f_X7_worlds
      refine (inn 2 (by decide) _).trans ?_
      exact key 2 (okW T) (wt T) (fun x hx k => by rw [if_pos (by decide)]; exact pW x hx k) (fun rec s x hx => by rw [if_pos (by decide)]; exact pP rec s x hx)
  by_cases q3 : p0 = 3
  · subst q3
    refine ⟨nI (prt T (seenW T d)), ?_, ?_, hR⟩
    · unfold f_X6_worlds; rw [if_neg q0, if_neg q1, if_neg q2, if_pos rfl, hL.1, ed, ct_seen hT hC (by decide) hd]; simp only [Option.bind_some]; rw [ct_parts hT hC (by decide)]; rfl
    · unfold f_X7_worlds
      refine (inn 3 (by decide) _).trans ?_
      exact key 3 (seenW T d) (wt T) (fun x hx k => by rw [if_neg (by decide)]; exact pS x hx k) (fun rec s x hx => by rw [if_pos (by decide)]; exact pP rec s x hx)
  refine ⟨-2, ?_, ?_, hR⟩
  · unfold f_X6_worlds; rw [if_neg q0, if_neg q1, if_neg q2, if_neg q3]
  · unfold f_X7_worlds
    rcases ix2 p0 (n := 4) (by decide) with hb | ⟨j, hj, rfl⟩
    · rw [i64_0, show (3 : Int64) = (3 : Int32).toInt64 from rfl, rf_in]
      by_cases h : p0 < 0
      · rw [if_pos h]; rfl
      · rw [if_neg h, if_pos (by rw [show (3 : Int32) = nI 4 - 1 from rfl, nI_m1 (by decide)]; exact hb.resolve_left h)]; rfl
    · rcases (show j = 0 ∨ j = 1 ∨ j = 2 ∨ j = 3 by omega) with rfl | rfl | rfl | rfl
      · exact absurd rfl q0
      · exact absurd rfl q1
      · exact absurd rfl q2
      · exact absurd rfl q3
theorem st_likely (c0 : CU) (sd : Int64) (u0 : TU) (se : Int64) (p0 p1 p2 : Int32) (hR : Rel c0 sd u0 se) (_h2 : p2 = 0 ∨ p2 = 1) : ∃ (r : Int32), f_X6_likely NN c0 sd p0 p1 p2 = some r ∧ f_X7_likely NN u0 se p0 p1 p2 = some r ∧ Rel c0 sd u0 se := by
  have hNN : NN = 1000 := rfl
  obtain ⟨e0, T, A, hT, hC, hM, hA, hL, hW, hx⟩ := id hR
  have h4 := hT.2.1
  have h16 := px_sh16 hT.1
  rcases ix2 p0 h4 with hb | ⟨a, ha, rfl⟩
  · refine ⟨-1, ?_, ?_, hR⟩
    · unfold f_X6_likely; rw [ct_asker_f hC.1 hb]; rfl
    · unfold f_X7_likely; rw [rf_asker_f hT hM hb]; rfl
  rcases ix2 p1 hT.1 with hb | ⟨i, hi, rfl⟩
  · refine ⟨-1, ?_, ?_, hR⟩
    · unfold f_X6_likely; rw [ct_asker_t hT hC.1 ha, ct_thing_f hC.1 hb]; rfl
    · unfold f_X7_likely; rw [rf_asker_t hT hM ha, rf_thing_f hT hM hb]; rfl
  obtain ⟨d, hd, ed⟩ := hA.1
  have hh := hrd_lt hT hA (a := a) (by omega)
  have hp := prt_le hT (heldW T d (hrd A a))
  have hs := (gn_split (T := T) (heldW T d (hrd A a)) i 0 0).2
  generalize hS : sm (fun w => if heldW T d (hrd A a) w && !w.testBit i then wt T w else 0) (2 ^ T 0 0) = S at hs
  have pre6 : f_X6_likely NN c0 sd (nI a) (nI i) p2 = if prt T (heldW T d (hrd A a)) = 0 then some (-3) else some (frc S (prt T (heldW T d (hrd A a))) p2) := by
    unfold f_X6_likely
    rw [ct_asker_t hT hC.1 ha, ct_thing_t hT hC.1 hi, ck_held hT hC hA hL hd ed (by omega)]
    simp only [Option.bind_some]
    rw [if_neg (by decide), if_neg (by decide), ct_parts hT hC (by decide), ct_partsE hT hC (by decide) _ hi, hS, show sm (fun w => if heldW T d (hrd A a) w then wt T w else 0) (2 ^ T 0 0) = prt T (heldW T d (hrd A a)) from rfl]
    simp only [Option.bind_some]
    by_cases h0 : prt T (heldW T d (hrd A a)) = 0
    · rw [if_pos ((nI_z (by omega)).mpr h0), if_pos h0]
    · rw [if_neg (fun q => h0 ((nI_z (by omega)).mp q)), if_neg h0, ct_fraction (by decide) p2 (by omega) (by omega) (by omega)]
      rfl
  have pre7 : f_X7_likely NN u0 se (nI a) (nI i) p2 = if prt T (heldW T d (hrd A a)) = 0 then some (-3) else some (frc S (prt T (heldW T d (hrd A a))) p2) := by
    unfold f_X7_likely
    rw [rf_asker_t hT hM ha, rf_thing_t hT hM hi, px_rd0 (by decide) (by decide), hW 0 (by decide), ed, rl_heard hT hM hW hA (by decide) ha]
    simp only [Option.bind_some]
    rw [if_neg (by decide), if_neg (by decide), rf_partsBy hT hM (by decide) hd (by omega)]
    simp only [Option.bind_some]
    by_cases h0 : prt T (heldW T d (hrd A a)) = 0
    · rw [if_pos ((nI_z (by omega)).mpr h0), if_pos h0]
    · rw [if_neg (fun q => h0 ((nI_z (by omega)).mp q)), if_neg h0]
      rw [← sm_cw hT] at hS
      refine lq2_up (2 ^ T 0 0) NN (fun j => nI (sm (fun x => if heldW T d (hrd A a) (cw T x) && !(cw T x).testBit i then wt T (cw T x) else 0) j)) _ (by omega) (by omega) _ (by rw [hM.1, px_sh (by have := hT.1; omega)]) _ _ (fun _ _ _ => rfl) ?_ (fun rec j hj => ?_)
      · try dsimp only
        rw [hS]
        exact rf_frac (by decide) p2 (by omega) (by omega) (by omega) some
      · try dsimp only [g_X7_likely_100]
        rw [rf_has (by omega) (by have := hT.1; omega), px_rd0 (by decide) (by decide), hW 0 (by decide), ed, rl_heard hT hM hW hA (by decide) ha, rf_partsOf hT hM (by decide) hj]
        simp only [Option.bind_some]
        rw [rf_possible hT hM (by decide) hj hd (by omega)]
        simp only [Option.bind_some, sm, cw_bit hi]
        cases j.testBit i <;> cases heldW T d (hrd A a) (cw T j)
        · simp [nI_add]
        · simp [nI_add]
        · simp [nI_add]
        · simp only [if_true, Bool.not_true, Bool.not_false, Bool.and_true]
          rw [if_neg (by decide), if_neg (by decide), nI_add]
  refine ⟨if prt T (heldW T d (hrd A a)) = 0 then -3 else frc S (prt T (heldW T d (hrd A a))) p2, ?_, ?_, hR⟩
  · rw [pre6]; split <;> rfl
  · rw [pre7]; split <;> rfl
theorem st_wise (c0 : CU) (sd : Int64) (u0 : TU) (se : Int64) (p0 p1 : Int32) (hR : Rel c0 sd u0 se) : ∃ (r : Int32) (mu1 : TU), f_X6_wise NN c0 sd p0 p1 = some r ∧ f_X7_wise NN u0 se p0 p1 = some (r, mu1) ∧ Rel c0 sd mu1 se := by
  have hNN : NN = 1000 := rfl
  obtain ⟨e0, T, A, hT, hC, hM, hA, hL, hW, hx⟩ := id hR
  have h4 := hT.2.1
  rcases ix2 p0 h4 with hb | ⟨a, ha, rfl⟩
  · refine ⟨-1, u0, ?_, ?_, hR⟩
    · unfold f_X6_wise; rw [ct_asker_f hC.1 hb]; rfl
    · unfold f_X7_wise; rw [rf_asker_f hT hM hb]; rfl
  rcases ix2 p1 hT.1 with hb | ⟨i, hi, rfl⟩
  · refine ⟨-1, u0, ?_, ?_, hR⟩
    · unfold f_X6_wise; rw [ct_asker_t hT hC.1 ha, ct_thing_f hC.1 hb]; rfl
    · unfold f_X7_wise; rw [rf_asker_t hT hM ha, rf_thing_f hT hM hb]; rfl
  obtain ⟨d, hd, ed⟩ := hA.1
  have hh := hrd_lt hT hA (a := a) (by omega)
  have hp := prt_le hT (heldW T d (hrd A a))
  have hi4 : i < 4 := by have := hT.1; omega
  have pre6 : f_X6_wise NN c0 sd (nI a) (nI i) = if prt T (heldW T d (hrd A a)) = 0 then some (-3) else if A (2 + i) = -9 then some (nI (wsd T (heldW T d (hrd A a)) i d)) else some (-3) := by
    unfold f_X6_wise
    rw [ct_asker_t hT hC.1 ha, ct_thing_t hT hC.1 hi, ck_held hT hC hA hL hd ed (by omega)]
    simp only [Option.bind_some]
    rw [if_neg (by decide), if_neg (by decide), ct_parts hT hC (by decide), show sm (fun w => if heldW T d (hrd A a) w then wt T w else 0) (2 ^ T 0 0) = prt T (heldW T d (hrd A a)) from rfl, px_rd hi4 (by decide), hL.2.2.2 i hi4, hL.1, ed, ct_wise hT hC (by decide) _ hi hd]
    simp only [Option.bind_some]
    by_cases h0 : prt T (heldW T d (hrd A a)) = 0
    · rw [if_pos ((nI_z (by omega)).mpr h0), if_pos h0]
    · rw [if_neg (fun q => h0 ((nI_z (by omega)).mp q)), if_neg h0]
  have pre7 : f_X7_wise NN u0 se (nI a) (nI i) = if prt T (heldW T d (hrd A a)) = 0 then some (-3, u0) else if A (2 + i) = -9 then some (nI (wsd T (heldW T d (hrd A a)) i d), mk_put u0 0 11 (nI (mkm (fun x => heldW T d (hrd A a) (cw T x)) (2 ^ T 0 0)))) else some (-3, u0) := by
    unfold f_X7_wise
    rw [rf_asker_t hT hM ha, rf_thing_t hT hM hi, px_rd0 (by decide) (by decide), hW 0 (by decide), ed, rl_heard hT hM hW hA (by decide) ha]
    simp only [Option.bind_some]
    rw [if_neg (by decide), if_neg (by decide), rf_partsBy hT hM (by decide) hd (by omega), show (2 : Int32) = nI 2 from rfl, nI_add, px_rd (by omega) (by decide), hW (2 + i) (by omega), rf_layPossible hT hM (by decide) hd (by omega)]
    simp only [Option.bind_some]
    rw [show (mk_put u0 0 11 (nI (mkm (fun x => heldW T d (hrd A a) (cw T x)) (2 ^ T 0 0)))) 11 = u0 11 from rfl, px_rd0 (by decide) (by decide), hW 0 (by decide), ed]
    simp only [Option.bind_some]
    rw [rf_wiseBy (N := NN) (sd := se) (u := mk_put u0 0 11 (nI (mkm (fun x => heldW T d (hrd A a) (cw T x)) (2 ^ T 0 0)))) hT (RT_put11 hM _) (by decide) (heldW T d (hrd A a)) rfl hi hd]
    simp only [Option.bind_some]
    by_cases h0 : prt T (heldW T d (hrd A a)) = 0
    · rw [if_pos ((nI_z (by omega)).mpr h0), if_pos h0]
    · rw [if_neg (fun q => h0 ((nI_z (by omega)).mp q)), if_neg h0]
  by_cases h0 : prt T (heldW T d (hrd A a)) = 0
  · exact ⟨-3, u0, by rw [pre6, if_pos h0], by rw [pre7, if_pos h0], hR⟩
  by_cases h1 : A (2 + i) = -9
  · exact ⟨nI (wsd T (heldW T d (hrd A a)) i d), mk_put u0 0 11 (nI (mkm (fun x => heldW T d (hrd A a) (cw T x)) (2 ^ T 0 0))), by rw [pre6, if_neg h0, if_pos h1], by rw [pre7, if_neg h0, if_pos h1], hR⟩
  · exact ⟨-3, u0, by rw [pre6, if_neg h0, if_neg h1], by rw [pre7, if_neg h0, if_neg h1], hR⟩
