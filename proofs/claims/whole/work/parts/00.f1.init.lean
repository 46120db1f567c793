/-! worlds weighed, lives begun anew; the first state -/
section INIT
variable {T : NT} {u v : TU} {N : Nat} {sd : Int64}
theorem CT0_of {w : TU} (h0 : ∀ j, j ≤ 3 → w 0 j = v 0 j) (h : ∀ k, 1 ≤ k → k ≤ 8 → w k = v k) (hC : CT0 v T) : CT0 w T := by
  unfold CT0
  rw [h0 0 (by decide), h0 1 (by decide), h0 2 (by decide), h0 3 (by decide), h 1 (by decide) (by decide), h 2 (by decide) (by decide), h 3 (by decide) (by decide), h 4 (by decide) (by decide), h 5 (by decide) (by decide), h 6 (by decide) (by decide), h 7 (by decide) (by decide), h 8 (by decide) (by decide)]
  exact hC
theorem ct_weigh (hT : wfT T) (hC : CT0 v T) (hN : 700 ≤ N) : ∃ v', f_X5_weighWorlds N v = some v' ∧ CT v' T := by
  have h4 := hT.1
  have h16 := px_sh16 h4
  unfold f_X5_weighWorlds mk_nm
  obtain ⟨w, ⟨q1, q2, q3⟩, h2⟩ := lq2_inv (b := g_X5_weighWorlds_7 N) 0 (2 ^ T 0 0) N (fun i (w : TU) => CT0 w T ∧ w 0 4 = nI (mkm (okW T) i) ∧ ∀ j, j < i → w 9 j = nI (wt T j)) (fun w => some w) (fun rec w ⟨q1, _⟩ => by
    unfold g_X5_weighWorlds_7
    rw [q1.1, px_sh (by omega), if_pos (Int32.le_refl _)]) (fun rec w i _ hi ⟨q1, q2, q3⟩ => by
    have inner : ∀ w : TU, CT0 w T → lq2 (g_X5_weighWorlds_43 N w rec (nI i)) N 1 0 = rec (mk_put w 9 i (nI (wt T i))) (nI (i + 1)) := by
      intro w q1
      refine lq2_up (T 0 0) N (fun j => nI (wtL T i j)) _ (by omega) (by omega) _ q1.1 _ _ (fun _ _ _ => rfl) ?_ (fun rec2 j hj => ?_)
      · try dsimp only
        unfold mk_nm
        rw [px_ix (by omega) (by decide), Option.bind_some, nI_clamp (by omega), nI_1]
        rfl
      · try dsimp only
        obtain ⟨-, -, a3, -⟩ := q1.2.2.2.2.1 j hj
        have h3 := (hT.2.2.2.1 j hj).2.2.2.1
        rw [ct_isLate (by omega) (by omega), Option.bind_some, px_rd (by omega) (by decide), a3, Option.bind_some, Option.bind_some, show (10 : Int32) = nI 10 from rfl, pk_sub (by omega), pk_mul, pk_mul]
        simp only [wtL]
        cases i.testBit j
        · rw [if_pos (by rfl)]; rfl
        · rw [if_neg (by decide)]; rfl
    have fin : ∀ (w' : TU) (y : Nat), CT0 w' T → w' 0 4 = nI y → y = mkm (okW T) (i + 1) → w' 9 = w 9 → ∃ a', (CT0 a' T ∧ a' 0 4 = nI (mkm (okW T) (i + 1)) ∧ ∀ j, j < i + 1 → a' 9 j = nI (wt T j)) ∧ rec (mk_put w' 9 i (nI (wt T i))) (nI (i + 1)) = rec a' (nI (i + 1)) := by
      intro w' y c1 c2 c3 c4
      refine ⟨mk_put w' 9 i (nI (wt T i)), ⟨CT0_of (v := w') (fun j _ => rfl) (fun k _ h2 => by unfold mk_put; rw [if_neg (by omega)]) c1, by rw [← c3]; exact c2, fun j hj => ?_⟩, rfl⟩
      show upd (w' 9) i _ j = _
      by_cases hji : j = i
      · subst hji; rw [upd_s]
      · rw [upd_n _ hji, c4]; exact q3 j (by omega)
    unfold g_X5_weighWorlds_7 mk_nm
    dsimp only
    rw [q1.1, px_sh (by omega), if_neg (nI_ge hi (by omega))]
    rcases ct_first (N := N) hT q1 hN (show i < 2 ^ 31 by omega) with ⟨o1, o2⟩ | ⟨o1, l, hl, -, -, o2⟩
    · rw [o2, Option.bind_some, if_pos rfl, q2, px_sh (by omega), px_or, show lq2 (g_X5_weighWorlds_43 N (mk_put w 0 4 (nI (mkm (okW T) i ||| 2 ^ i))) rec (nI i)) N 1 0 = _ from inner (mk_put w 0 4 (nI (mkm (okW T) i ||| 2 ^ i))) q1]
      exact fin (mk_put w 0 4 (nI (mkm (okW T) i ||| 2 ^ i))) _ q1 rfl (by rw [← mkm_or, if_pos o1]) rfl
    · have h3 := hT.2.2.1
      rw [o2, Option.bind_some, if_neg (nI_m9 (by omega)), inner w q1]
      exact fin w _ q1 q2 (by simp [mkm, o1]) rfl) (mk_put v 0 4 0) ⟨hC, rfl, fun j hj => absurd hj (by omega)⟩ (Nat.zero_le _) (by omega)
  exact ⟨w, h2, q1, q2, q3⟩
theorem cl_anew (hN : 700 ≤ N) : ∃ v', f_X2_startAnew N v = some v' ∧ v' 0 0 = 0 ∧ v' 0 1 = 0 ∧ v' 0 2 = v 0 2 ∧ (∀ j, j < 4 → v' 1 j = -9) ∧ (∀ j, j < 4 → v' 2 j = -9) := by
  unfold f_X2_startAnew mk_nm
  have second : ∀ w : TU, ∃ w', lq2 (g_X2_startAnew_33 N) N w 0 = some w' ∧ w' 0 = w 0 ∧ w' 1 = w 1 ∧ ∀ j, j < 4 → w' 2 j = -9 := by
    intro w
    obtain ⟨w', ⟨q1, q2, q3⟩, h2⟩ := lq2_inv (b := g_X2_startAnew_33 N) 0 4 N (fun i (w' : TU) => w' 0 = w 0 ∧ w' 1 = w 1 ∧ ∀ j, j < i → w' 2 j = -9) (fun w => some w) (fun rec w _ => by
      unfold g_X2_startAnew_33
      rw [if_pos (by decide)]) (fun rec w' i _ hi ⟨q1, q2, q3⟩ => by
      refine ⟨mk_put w' 2 i (-9), ⟨q1, q2, fun j hj => ?_⟩, ?_⟩
      · show upd (w' 2) i _ j = _
        by_cases hji : j = i
        · subst hji; rw [upd_s]
        · rw [upd_n _ hji]; exact q3 j (by omega)
      · unfold g_X2_startAnew_33 mk_nm
        rw [show (4 : Int32) = nI 4 from rfl, if_neg (nI_ge hi (by decide)), px_ix hi (by decide), Option.bind_some, nI_clamp (by omega), nI_1]) w ⟨rfl, rfl, fun j hj => absurd hj (by omega)⟩ (by omega) (by omega)
    exact ⟨w', h2, q1, q2, q3⟩
  obtain ⟨w', ⟨q1, q2, q3⟩, h2⟩ := lq2_inv (b := g_X2_startAnew_12 N) 0 4 N (fun i (w' : TU) => w' 0 = (mk_put (mk_put v 0 0 0) 0 1 0) 0 ∧ w' 2 = v 2 ∧ ∀ j, j < i → w' 1 j = -9) (fun w => lq2 (g_X2_startAnew_33 N) N w 0) (fun rec w _ => by
    unfold g_X2_startAnew_12
    rw [if_pos (by decide)]) (fun rec w' i _ hi ⟨q1, q2, q3⟩ => by
    refine ⟨mk_put w' 1 i (-9), ⟨q1, q2, fun j hj => ?_⟩, ?_⟩
    · show upd (w' 1) i _ j = _
      by_cases hji : j = i
      · subst hji; rw [upd_s]
      · rw [upd_n _ hji]; exact q3 j (by omega)
    · unfold g_X2_startAnew_12 mk_nm
      rw [show (4 : Int32) = nI 4 from rfl, if_neg (nI_ge hi (by decide)), px_ix hi (by decide), Option.bind_some, nI_clamp (by omega), nI_1]) (mk_put (mk_put v 0 0 0) 0 1 0) ⟨rfl, rfl, fun j hj => absurd hj (by omega)⟩ (by omega) (by omega)
  obtain ⟨w2, s1, s2, s3, s4⟩ := second w'
  refine ⟨w2, ?_, ?_, ?_, ?_, fun j hj => ?_, s4⟩
  · exact h2.trans s1
  · rw [s2, q1]; rfl
  · rw [s2, q1]; rfl
  · rw [s2, q1]; rfl
  · rw [s3]; exact q3 j hj
def A0 : Nat → Int32 := fun j => if j < 2 then 0 else -9
theorem A0_wf (T : NT) : wfA T A0 := ⟨⟨0, by omega, rfl⟩, fun i _ => Or.inl (if_neg (by omega)), fun a _ => Or.inl (if_neg (by omega))⟩
theorem rf_clear (hN : 700 ≤ N) : ∃ u', f_X7_clear N u sd = some u' ∧ (∀ k, k ≠ 11 → u' k = u k) ∧ nowR u' A0 := by
  unfold f_X7_clear
  obtain ⟨w', ⟨q1, q2⟩, h2⟩ := lq2_inv (b := g_X7_clear_2 N sd) 0 10 N (fun i (w' : TU) => (∀ k, k ≠ 11 → w' k = u k) ∧ ∀ j, j < i → w' 11 j = A0 j) (fun w => some w) (fun rec w _ => by
    unfold g_X7_clear_2
    rw [if_pos (by decide)]) (fun rec w' i _ hi ⟨q1, q2⟩ => by
    refine ⟨mk_put w' 11 i (A0 i), ⟨fun k hk => by unfold mk_put; rw [if_neg hk]; exact q1 k hk, fun j hj => ?_⟩, ?_⟩
    · show upd (w' 11) i _ j = _
      by_cases hji : j = i
      · subst hji; rw [upd_s]
      · rw [upd_n _ hji]; exact q2 j (by omega)
    · unfold g_X7_clear_2 mk_nm
      rw [show (10 : Int32) = nI 10 from rfl, if_neg (nI_ge hi (by decide)), px_ix hi (by decide), Option.bind_some, nI_clamp (by omega), nI_1]
      unfold A0
      by_cases h : i < 2
      · rw [show (2 : Int32) = nI 2 from rfl, if_neg (nI_ge h (by decide)), if_pos h]; rfl
      · rw [show (2 : Int32) = nI 2 from rfl, if_pos (nI_le (by omega) (by omega)), if_neg h]) u ⟨fun _ _ => rfl, fun j hj => absurd hj (by omega)⟩ (by omega) (by omega)
  exact ⟨w', h2, q1, q2⟩
theorem life_A0 (h0 : v 0 0 = 0) (h1 : v 0 1 = 0) (h2 : ∀ j, j < 4 → v 1 j = -9) (h3 : ∀ j, j < 4 → v 2 j = -9) : lifeR v A0 := ⟨h0, h1, fun a ha => by rw [h2 a ha]; unfold A0; rw [if_neg (by omega)], fun i hi => by rw [h3 i hi]; unfold A0; rw [if_neg (by omega)]⟩
end INIT
theorem st_init : ∃ (T0 L0 U0 : TU), f_X5_weighWorlds NN mk_z0 = some T0 ∧ f_X2_startAnew NN mk_z0 = some L0 ∧ f_X7_clear NN mk_z0 0 = some U0 ∧ Rel (mk_c0 T0 L0) 0 U0 0 := by
  obtain ⟨TE, hTE⟩ : ∃ TE : NT, TE = fun _ _ => 0 := ⟨_, rfl⟩
  have t0 : ∀ k j, TE k j = 0 := fun _ _ => by rw [hTE]
  have hT : wfT TE := by
    refine ⟨?_, ?_, ?_, fun i hi => ?_, fun a ha => ?_, fun j hj => ?_⟩
    · rw [t0]; omega
    · rw [t0]; omega
    · rw [t0]; omega
    · rw [t0] at hi; omega
    · rw [t0] at ha; omega
    · rw [t0] at hj; omega
  have hC : CT0 mk_z0 TE := by
    refine ⟨?_, ?_, ?_, ?_, fun i hi => ?_, fun a ha => ?_, fun j hj => ?_⟩
    · rw [t0]; rfl
    · unfold trm; rw [t0]; rfl
    · rw [t0]; rfl
    · rw [t0]; rfl
    · rw [t0] at hi; omega
    · rw [t0] at ha; omega
    · rw [t0] at hj; omega
  obtain ⟨T0, a1, a2⟩ := ct_weigh (N := NN) hT hC (by decide)
  obtain ⟨L0, b1, b2, b3, b4, b5, b6⟩ := cl_anew (v := mk_z0) (N := NN) (by decide)
  obtain ⟨U0, c1, c2, c3⟩ := rf_clear (u := mk_z0) (sd := 0) (N := NN) (by decide)
  have z : ∀ k, k ≠ 11 → ∀ j, U0 k j = 0 := fun k hk j => by rw [c2 k hk]; rfl
  refine ⟨T0, L0, U0, a1, b1, c1, rfl, TE, A0, hT, a2, ?_, A0_wf _, life_A0 b2 b3 b5 b6, c3, ?_, ?_, ?_, ?_, ?_⟩
  · refine ⟨?_, ?_, ?_, fun i hi => ?_, fun a ha => ?_, fun j hj => ?_⟩
    · rw [z 0 (by decide), t0]; rfl
    · rw [z 0 (by decide), t0]; rfl
    · rw [z 0 (by decide), t0]; rfl
    · rw [t0] at hi; omega
    · rw [t0] at ha; omega
    · rw [t0] at hj; omega
  · exact ⟨0, by omega, rfl, z 0 (by decide) 6, fun j _ => (z 12 (by decide) j).symm, fun j hj => absurd hj (by omega)⟩
  · exact ⟨0, 0, by omega, by omega, rfl, z 0 (by decide) 9, z 0 (by decide) 10, fun _ => A0, fun _ _ => rfl, fun j hj => absurd hj (by omega)⟩
  · exact Or.inl ⟨b4, z 18 (by decide) 0⟩
  · exact Or.inl ⟨b4, z 18 (by decide) 1⟩
  · exact ⟨0, by omega, rfl, z 0 (by decide) 12, fun j hj => absurd hj (by omega)⟩
