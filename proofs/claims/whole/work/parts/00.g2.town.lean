/-! step: town -/
set_option maxHeartbeats 100000 in
theorem st_town (c0 : CU) (sd : Int64) (u0 : TU) (se : Int64) (hR : Rel c0 sd u0 se) : ∃ (r : Int32) (b_sw : Bool) (c1 : CU) (mu1 : TU), f_X6_town NN c0 sd = some (r, b_sw, c1) ∧ f_X7_town NN u0 se = some (r, mu1) ∧ Rel c1 sd mu1 se := by
  obtain ⟨e0, T, A, hA0⟩ := hR
  obtain ⟨n, lt, hTx⟩ := TxA_of hA0.2.2.2.2.2.2.1
  obtain ⟨r, c', u', a1, a2, a3, a4, a5⟩ := read_text (sd := sd) (se := se) hTx
  have hn := hTx.1
  have hrel := kk_rel a3 a4 hA0
  rcases a5 with ⟨q, hq, hr⟩ | ⟨hr, T', hT, hC, hD⟩
  · have hne : ¬ r = -9 := by rw [hr]; exact nI_m9 (by omega)
    exact ⟨-3, false, c', u', tw_cls_no hne a1, tw_ref_no hne a2, e0, T, A, hrel⟩
  obtain ⟨x1, x2, x3, x4, x5, x6, xTx, xAc, x8, x9, xSe⟩ := hrel
  obtain ⟨s, x, hs, hx, xe1, xe9, xe10, x7⟩ := xAc
  obtain ⟨v', w1, w2⟩ := ct_weigh (N := NN) hT hC (by decide)
  obtain ⟨l', l1, l2, l3, l4, l5, l6⟩ := cl_anew (v := c' 4) (N := NN) (by decide)
  obtain ⟨c8, g1, g2, g3, g4⟩ := ck_forget (c := mk_set3 (mk_set3 (mk_set3 (mk_sw c') 2 v') 4 l') 5 (mk_put (c' 5) 0 0 0)) (sd := sd)
  have b0 : c8 0 = c' 0 := g2 0 (by decide) (by decide)
  have b2 : c8 2 = v' := g2 2 (by decide) (by decide)
  have b4 : c8 4 = l' := g2 4 (by decide) (by decide)
  have b5 : c8 5 = mk_put (c' 5) 0 0 0 := g2 5 (by decide) (by decide)
  have b8 : c8 8 = c' 8 := g2 8 (by decide) (by decide)
  have cls := tw_cls_yes hr a1 w1 l1 g1
  rw [b2, w2.1.1, w2.1.2.2.1] at cls
  obtain ⟨u4, hu4⟩ : ∃ u4, u4 = mk_put (mk_put (mk_put u' 0 0 (u' 0 3)) 0 1 (u' 0 4)) 0 2 (u' 0 5) := ⟨_, rfl⟩
  obtain ⟨w, k1, k2, k3, k4, k5, k6, k7, k8, k9, k10⟩ := rk_copy (u := u4) (sd := se) (N := NN) (by decide)
  have uk : ∀ k, k ≠ 0 → u4 k = u' k := fun k h => by rw [hu4]; unfold mk_put; rw [if_neg h, if_neg h, if_neg h]
  have u0' : u4 0 0 = nI (T' 0 0) := by rw [hu4]; exact hD.1
  have u1' : u4 0 1 = nI (T' 0 1) := by rw [hu4]; exact hD.2.1
  have u2' : u4 0 2 = nI (T' 0 2) := by rw [hu4]; exact hD.2.2.1
  have uj : ∀ j, 3 ≤ j → u4 0 j = u' 0 j := fun j hj => by
    rw [hu4]
    show upd (upd (upd (u' 0) 0 _) 1 _) 2 _ j = _
    rw [upd_n _ (by omega), upd_n _ (by omega), upd_n _ (by omega)]
  rw [u0', u1'] at k1
  have ref : f_X7_town NN u0 se = some (10 * nI (T' 0 0) + nI (T' 0 1), w) := tw_ref_yes hr a2 (by rw [hu4] at k1; exact k1)
  have wk : ∀ k, 12 ≤ k → k ≠ 18 → w k = u' k := fun k h h18 => (k2 k (by omega) (by omega) (by omega) (by omega) (by omega) (by omega) (by omega) h18).trans (uk k (by omega))
  have wz : ∀ j, 3 ≤ j → j ≠ 9 → w 0 j = u' 0 j := fun j h h9 => (k3 j h9).trans (uj j h)
  have r1 : CT (c8 2) T' := by rw [b2]; exact w2
  have r2 : RT w T' := by
    obtain ⟨d1, d2, d3, d4, d5, d6⟩ := hD
    have h4 := hT.1
    have hk := hT.2.1
    have h3 := hT.2.2.1
    refine ⟨(k3 0 (by decide)).trans u0', (k3 1 (by decide)).trans u1', (k3 2 (by decide)).trans u2', fun i hi => ?_, fun a ha => ?_, fun j hj => ?_⟩
    · rw [k5 _ (by omega), k5 _ (by omega), k5 _ (by omega), k5 _ (by omega), k5 _ (by omega), uk 6 (by decide)]
      exact d4 i hi
    · rw [(k6 a (by omega)).1, (k6 a (by omega)).2, uk 7 (by decide), uk 8 (by decide)]; exact d5 a ha
    · rw [(k7 j (by omega)).1, (k7 j (by omega)).2, uk 9 (by decide), uk 10 (by decide)]; exact d6 j hj
  have r3 : lifeR (c8 4) A0 := by rw [b4]; exact life_A0 l2 l3 l5 l6
  have r4 : TextR (c8 0) w := by rw [b0]; exact Text_of (wz 6 (by decide) (by decide)) (wk 12 (by decide) (by decide)) xTx
  have r5 : SeenR (c8 8) w := by rw [b8]; exact Seen_of (wz 12 (by decide) (by decide)) (wk 15 (by decide) (by decide)) (wk 16 (by decide) (by decide)) xSe
  have r6 : SlotR T' (c8 6) w 0 := Or.inl ⟨g3, k9⟩
  have r7 : SlotR T' (c8 7) w 1 := Or.inl ⟨g4, k10⟩
  have r8 : ActsR T' (c8 5) w A0 := by
    rw [b5]
    exact ⟨0, x, Nat.zero_le _, hx, rfl, k4, (wz 10 (by decide) (by decide)).trans xe10, fun _ => A0, fun _ _ => rfl, fun j hj => absurd hj (Nat.not_lt_zero j)⟩
  exact ⟨10 * nI (T' 0 0) + nI (T' 0 1), true, c8, w, cls, ref, e0, T', A0, hT, r1, r2, A0_wf _, r3, k8, r4, r8, r6, r7, r5⟩
