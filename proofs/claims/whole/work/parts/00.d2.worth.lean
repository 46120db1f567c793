/-! step: worth; its bound -/
theorem sm_swap (f : Nat → Nat → Nat) (K M : Nat) : sm (fun m => sm (fun w => f m w) K) M = sm (fun w => sm (fun m => f m w) M) K := by
  induction M with
  | zero => exact (sm_0 (fun _ _ => rfl)).symm
  | succ M ih => simp only [sm]; rw [ih, ← sm_add]
theorem sm_mono {g f : Nat → Nat} {k : Nat} (h : ∀ i, i < k → g i ≤ f i) : sm g k ≤ sm f k := by
  induction k with
  | zero => exact Nat.le_refl _
  | succ k ih => simp only [sm]; have := ih (fun i hi => h i (by omega)); have := h k (by omega); omega
theorem sm_one (x c : Nat) (k : Nat) : sm (fun m => if x = m then c else 0) k ≤ c := by
  induction k with
  | zero => simp [sm]
  | succ k ih =>
    simp only [sm]
    by_cases h : x = k
    · subst h
      rw [sm_0 (fun i hi => if_neg (by omega))]; simp
    · rw [if_neg h]; omega
theorem gn_prt {T : NT} (hT : wfT T) (P : Nat → Bool) {i : Nat} (hi : i < T 0 0) (d k : Nat) : gn T P i d k ≤ prt T P * 18 := by
  unfold gn prt
  rw [← sm_mul]
  refine sm_mono (fun w _ => ?_)
  have h2 : kp (T 4 i) (endOf T w i) d k ≤ 18 := kp_le (hT.2.2.2.1 i hi).2.2.2.2.2.1 (endOf_9 hT hi)
  cases P w
  · simp
  · simp only [if_true]; exact Nat.mul_le_mul_left _ h2
theorem thn_le {T : NT} (hT : wfT T) (A : Nat → Int32) (d : Nat) (P : Nat → Bool) : thn T A d P ≤ prt T P * 72 := by
  have h4 := hT.1
  have := sm_le (g := fun i => if A (2 + i) = -9 then gn T P i d (wsd T P i d) else 0) (B := prt T P * 18) (k := T 0 0) (fun i hi => by
    have := gn_prt hT P hi d (wsd T P i d)
    (try dsimp only); split <;> omega)
  unfold thn
  have : T 0 0 * (prt T P * 18) ≤ 4 * (prt T P * 18) := Nat.mul_le_mul_right _ h4
  omega
theorem wth_le {T : NT} (hT : wfT T) (A : Nat → Int32) (d s : Nat) : wth T A d s ≤ 11520000 := by
  have h1 : wth T A d s ≤ sm (fun m => prt T (Qs T d s m) * 72) (2 ^ T 0 0) := by
    refine sm_mono (fun m _ => ?_)
    have := thn_le hT A d (Qs T d s m)
    (try dsimp only); split <;> omega
  rw [sm_mul] at h1
  have h2 : sm (fun m => prt T (Qs T d s m)) (2 ^ T 0 0) ≤ prt T (seenW T d) := by
    unfold prt
    rw [sm_swap]
    refine sm_mono (fun w _ => ?_)
    unfold Qs
    cases seenW T d w
    · rw [sm_0 (fun _ _ => by simp)]; exact Nat.zero_le _
    · have := sm_one (w &&& s) (wt T w) (2 ^ T 0 0)
      simpa using this
  have h3 := prt_le hT (seenW T d)
  omega
theorem rf_parts0 {T : NT} {u : TU} {N : Nat} {sd : Int64} (hT : wfT T) (hR : RT u T) (hN : 700 ≤ N) {d : Nat} (hd : d ≤ 9) : f_X7_partsBy N u sd (nI d) 0 = some (nI (prt T (seenW T d))) := by
  have := rf_partsBy (sd := sd) hT hR hN hd (h := 0) (by decide)
  rw [held_0] at this
  exact this
theorem ct_prt {T : NT} {v : TU} {N : Nat} (hT : wfT T) (hC : CT v T) (hN : 700 ≤ N) (P : Nat → Bool) : f_X5_partsOf N v (nI (mkm P (2 ^ T 0 0))) = some (nI (prt T P)) := ct_parts hT hC hN P
theorem st_worth (c0 : CU) (sd : Int64) (u0 : TU) (se : Int64) (p0 p1 : Int32) (hR : Rel c0 sd u0 se) (_h2 : p1 = 0 ∨ p1 = 1) : ∃ (r : Int32) (mu1 : TU), f_X6_worth NN c0 sd p0 p1 = some r ∧ f_X7_worth NN u0 se p0 p1 = some (r, mu1) ∧ Rel c0 sd mu1 se := by
  have hNN : NN = 1000 := rfl
  obtain ⟨e0, T, A, hT, hC, hM, hA, hL, hW, hx⟩ := id hR
  have h4 := hT.1
  have h16 := px_sh16 h4
  obtain ⟨d, hd, ed⟩ := hA.1
  rcases pk_ix p0 (n := 2 ^ T 0 0) (by omega) with hb | hb | ⟨s, hs, rfl⟩
  · refine ⟨-2, u0, ?_, ?_, hR⟩
    · unfold f_X6_worth; rw [if_pos hb]
    · unfold f_X7_worth; rw [i64_0, rf_in, if_pos hb]; rfl
  · refine ⟨-2, u0, ?_, ?_, hR⟩
    · unfold f_X6_worth; rw [hC.1.1, px_sh (by omega), if_neg (Int32.not_lt.mpr hb)]; split <;> rfl
    · unfold f_X7_worth; rw [i64_0, rf_in, hM.1, px_sh (by omega), if_pos (show nI (2 ^ T 0 0) - 1 < p0 from (nI_m1 (by omega) p0).mpr hb)]; split <;> rfl
  have hp := prt_le hT (seenW T d)
  have hw := wth_le hT A d s
  obtain ⟨y, hy⟩ := rq_worth (sd := se) hT hM hW (N := NN) (by decide) hd ed hs
  have cl : f_X6_worth NN c0 sd (nI s) p1 = if prt T (seenW T d) = 0 then some (-3) else some (frc (wth T A d s) (prt T (seenW T d)) p1) := by
    unfold f_X6_worth
    rw [if_neg (nI_pos (by omega)), hC.1.1, px_sh (by omega), if_pos (nI_lt hs (by omega)), hL.1, ed, ct_seen hT hC (by decide) hd, Option.bind_some, ct_prt hT hC (by decide), Option.bind_some, cq_worth hT hC hL (by decide) hd ed hs, Option.bind_some]
    by_cases hz : prt T (seenW T d) = 0
    · rw [if_pos hz, if_pos (by rw [hz]; rfl)]
    · rw [if_neg hz, if_neg (fun q => hz ((nI_z (by omega)).mp q)), ct_fraction (by decide) p1 (by omega) (by omega) (by omega), Option.bind_some]
  have rl : f_X7_worth NN u0 se (nI s) p1 = if prt T (seenW T d) = 0 then some (-3, u0) else some (frc (wth T A d s) (prt T (seenW T d)) p1, mk_put u0 0 11 y) := by
    unfold f_X7_worth
    rw [i64_0, rf_in, hM.1, px_sh (by omega), if_neg (nI_pos (by omega)), if_neg (by rw [nI_m1 (by omega)]; exact nI_ge hs (by omega)), Option.bind_some, if_neg (by decide), px_rd0 (by decide) (by decide), hW 0 (by decide), Option.bind_some, ed, rf_parts0 hT hM (by decide) hd, Option.bind_some, hy, Option.bind_some]
    by_cases hz : prt T (seenW T d) = 0
    · rw [if_pos hz, if_pos (by rw [hz]; rfl)]
    · rw [if_neg hz, if_neg (fun q => hz ((nI_z (by omega)).mp q))]
      exact rf_frac (by decide) p1 (by omega) (by omega) (by omega) (fun r => some (r, mk_put u0 0 11 y))
  by_cases hz : prt T (seenW T d) = 0
  · exact ⟨-3, u0, by rw [cl, if_pos hz], by rw [rl, if_pos hz], hR⟩
  · exact ⟨_, mk_put u0 0 11 y, by rw [cl, if_neg hz], by rw [rl, if_neg hz], e0, T, A, hT, hC, hM, hA, hL, hW, hx⟩
