/-! steps: slots; what a change of other cells leaves as it was -/
section OF
variable {T : NT} {u u' v : TU} {A : Nat → Int32}
theorem RT_of (h0 : ∀ j, j ≤ 2 → u' 0 j = u 0 j) (h : ∀ k, 1 ≤ k → k ≤ 5 → u' k = u k) (hR : RT u T) : RT u' T := by
  unfold RT
  rw [h0 0 (by decide), h0 1 (by decide), h0 2 (by decide), h 1 (by decide) (by decide), h 2 (by decide) (by decide), h 3 (by decide) (by decide), h 4 (by decide) (by decide), h 5 (by decide) (by decide)]
  exact hR
theorem Text_of (h0 : u' 0 6 = u 0 6) (h : u' 12 = u 12) (hR : TextR v u) : TextR v u' := by
  unfold TextR; rw [h0, h]; exact hR
theorem Acts_of (h9 : u' 0 9 = u 0 9) (h10 : u' 0 10 = u 0 10) (h : u' 13 = u 13) (hR : ActsR T v u A) : ActsR T v u' A := by
  unfold ActsR; rw [h9, h10, h]; exact hR
theorem Seen_of (h0 : u' 0 12 = u 0 12) (h1 : u' 15 = u 15) (h2 : u' 16 = u 16) (hR : SeenR v u) : SeenR v u' := by
  unfold SeenR; rw [h0, h1, h2]; exact hR
theorem Slot_of {s : Nat} (h0 : u' 18 s = u 18 s) (h1 : ∀ j, j < 10 → u' 19 (10 * s + j) = u 19 (10 * s + j)) (hR : SlotR T v u s) : SlotR T v u' s := by
  rcases hR with ⟨a, b⟩ | ⟨a, b, B, hB, hL, hj⟩
  · exact Or.inl ⟨a, h0.trans b⟩
  · exact Or.inr ⟨a, h0.trans b, B, hB, hL, fun j hj2 => (h1 j hj2).trans (hj j hj2)⟩
theorem now_of (h : ∀ j, j < 10 → u' 11 j = u 11 j) (hR : nowR u A) : nowR u' A := fun j hj => (h j hj).trans (hR j hj)
end OF
theorem slot_f {c0 : CU} {sd : Int64} {p : Int32} (hb : p < 0 ∨ nI 2 ≤ p) : f_X6_slotOf NN c0 sd p = some (-1) := by
  unfold f_X6_slotOf
  by_cases h : p < 0
  · rw [if_pos h]
  · rw [if_neg h, show (2 : Int32) = nI 2 from rfl, if_neg (Int32.not_lt.mpr (hb.resolve_left h))]
theorem slot_t {c0 : CU} {sd : Int64} {s : Nat} (hs : s < 2) : f_X6_slotOf NN c0 sd (nI s) = some (nI s) := by
  unfold f_X6_slotOf
  rw [if_neg (nI_pos (by omega)), show (2 : Int32) = nI 2 from rfl, if_pos (nI_lt hs (by decide)), px_ix hs (by decide)]
  rfl
theorem rin_f {p : Int32} (hb : p < 0 ∨ nI 2 ≤ p) : f_X7_in NN p.toInt64 (0 : Int64) (1 : Int64) = some 0 := by
  rw [i64_0, show (1 : Int64) = (1 : Int32).toInt64 from rfl, rf_in]
  by_cases h : p < 0
  · rw [if_pos h]
  · rw [if_neg h, if_pos (by rw [show (1 : Int32) = nI 2 - 1 from rfl, nI_m1 (by decide)]; exact hb.resolve_left h)]
theorem rin_t {s : Nat} (hs : s < 2) : f_X7_in NN (nI s).toInt64 (0 : Int64) (1 : Int64) = some 1 := by
  rw [i64_0, show (1 : Int64) = (1 : Int32).toInt64 from rfl, rf_in, if_neg (nI_pos (by omega)), show (1 : Int32) = nI 2 - 1 from rfl, if_neg (by rw [nI_m1 (by decide)]; exact nI_ge hs (by decide))]
theorem st_keep (c0 : CU) (sd : Int64) (u0 : TU) (se : Int64) (p0 : Int32) (hR : Rel c0 sd u0 se) : ∃ (r : Int32) (c1 : CU) (mu1 : TU), f_X6_keep NN c0 sd p0 = some (r, c1) ∧ f_X7_keep NN u0 se p0 = some (r, mu1) ∧ Rel c1 sd mu1 se := by
  obtain ⟨e0, T, A, hT, hC, hM, hA, hL, hW, hTx, hAc, h6, h7, hSe⟩ := id hR
  rcases ix2 p0 (n := 2) (by decide) with hb | ⟨s, hs, rfl⟩
  · refine ⟨-1, c0, u0, ?_, ?_, hR⟩
    · unfold f_X6_keep; rw [slot_f hb]; rfl
    · unfold f_X7_keep; rw [rin_f hb]; rfl
  · obtain ⟨u', k1, k2, k3, k4⟩ := rk_keep (u := mk_put u0 18 s 1) (se := se) s hs
    have ref : f_X7_keep NN u0 se (nI s) = some (A 1, u') := by
      unfold f_X7_keep mk_nm
      rw [rin_t hs, px_ix hs (by decide), nI_clamp (by omega)]
      simp only [Option.bind_some]
      rw [if_neg (by decide), k1, show mk_put u0 18 s 1 11 1 = u0 11 1 from rfl, hW 1 (by decide)]
    have kk : ∀ k, k ≠ 18 → k ≠ 19 → u' k = u0 k := fun k h1 h2 => by rw [k2 k h2]; unfold mk_put; rw [if_neg h1]
    have k18 : u' 18 = upd (u0 18) s 1 := by rw [k2 18 (by decide)]; rfl
    have base : RT u' T ∧ nowR u' A ∧ TextR (c0 0) u' ∧ ActsR T (c0 5) u' A ∧ SeenR (c0 8) u' := by
      have z := kk 0 (by decide) (by decide)
      exact ⟨RT_of (fun j _ => by rw [z]) (fun k h1 h2 => kk k (by omega) (by omega)) hM, now_of (fun j _ => by rw [kk 11 (by decide) (by decide)]) hW, Text_of (by rw [z]) (kk 12 (by decide) (by decide)) hTx, Acts_of (by rw [z]) (by rw [z]) (kk 13 (by decide) (by decide)) hAc, Seen_of (by rw [z]) (kk 15 (by decide) (by decide)) (kk 16 (by decide) (by decide)) hSe⟩
    obtain ⟨b1, b2, b3, b4, b5⟩ := base
    rcases (show s = 0 ∨ s = 1 by omega) with rfl | rfl
    · obtain ⟨v', l1, l2, l3, l4, l5, l6⟩ := ck_like (c0 6) (c0 4)
      refine ⟨A 1, mk_set3 (mk_set3 c0 6 v') 6 (mk_put v' 0 2 1), u', ?_, ref, e0, T, A, hT, hC, b1, hA, hL, b2, b3, b4, ?_, ?_, b5⟩
      · unfold f_X6_keep mk_nm
        rw [slot_t (by decide), l1]
        simp only [Option.bind_some]
        rw [if_pos (by rfl)]
        show some (c0 4 0 1, _) = _
        rw [hL.2.1]
        rfl
      · refine Or.inr ⟨rfl, by rw [k18]; exact upd_s _ _ _, A, hA, ?_, fun j hj => ?_⟩
        · exact ck_lifeR (v' := mk_put v' 0 2 1) hL l2 l3 l5 l6
        · rw [k3 j hj]; exact hW j hj
      · exact Slot_of (by rw [k18]; exact upd_n _ (by decide)) (fun j hj => k4 _ (by omega)) h7
    · obtain ⟨v', l1, l2, l3, l4, l5, l6⟩ := ck_like (c0 7) (c0 4)
      refine ⟨A 1, mk_set3 (mk_set3 c0 7 v') 7 (mk_put v' 0 2 1), u', ?_, ref, e0, T, A, hT, hC, b1, hA, hL, b2, b3, b4, ?_, ?_, b5⟩
      · unfold f_X6_keep mk_nm
        rw [slot_t (by decide), l1]
        simp only [Option.bind_some]
        rw [if_neg (by decide), if_pos (by rfl)]
        show some (c0 4 0 1, _) = _
        rw [hL.2.1]
        rfl
      · exact Slot_of (by rw [k18]; exact upd_n _ (by decide)) (fun j hj => k4 _ (by omega)) h6
      · refine Or.inr ⟨rfl, by rw [k18]; exact upd_s _ _ _, A, hA, ?_, fun j hj => ?_⟩
        · exact ck_lifeR (v' := mk_put v' 0 2 1) hL l2 l3 l5 l6
        · rw [k3 j hj]; exact hW j hj
theorem st_again (c0 : CU) (sd : Int64) (u0 : TU) (se : Int64) (p0 : Int32) (hR : Rel c0 sd u0 se) : ∃ (r : Int32) (c1 : CU) (mu1 : TU), f_X6_again NN c0 sd p0 = some (r, c1) ∧ f_X7_again NN u0 se p0 = some (r, mu1) ∧ Rel c1 sd mu1 se := by
  obtain ⟨e0, T, A, hT, hC, hM, hA, hL, hW, hTx, hAc, h6, h7, hSe⟩ := id hR
  rcases ix2 p0 (n := 2) (by decide) with hb | ⟨s, hs, rfl⟩
  · refine ⟨-1, c0, u0, ?_, ?_, hR⟩
    · unfold f_X6_again; rw [slot_f hb]; rfl
    · unfold f_X7_again; rw [rin_f hb]; rfl
  have fin : ∀ (b : Nat) (v : TU) (B : Nat → Int32), (b = 6 ∧ s = 0 ∨ b = 7 ∧ s = 1) → v = c0 b → u0 18 s = 1 → wfA T B → lifeR v B → (∀ j, j < 10 → u0 19 (10 * s + j) = B j) → v 0 2 = 1 → (∀ v', f_X2_becomeLike NN (c0 4) v = some v' → v' 0 0 = v 0 0 → v' 0 1 = v 0 1 → f_X6_again NN c0 sd (nI s) = some (v' 0 1, mk_set3 (mk_set3 c0 4 v') 5 (mk_put (c0 5) 0 0 0))) → ∃ (r : Int32) (c1 : CU) (mu1 : TU), f_X6_again NN c0 sd (nI s) = some (r, c1) ∧ f_X7_again NN u0 se (nI s) = some (r, mu1) ∧ Rel c1 sd mu1 se := by
    intro b v B hbs hv e18 hB hLB hj hk h6f
    obtain ⟨v', l1, l2, l3, l4, l5, l6⟩ := ck_like (c0 4) v
    obtain ⟨u', k1, k2, k3, k4, k5⟩ := rk_again (u := u0) (se := se) s hs
    obtain ⟨sz, x, hs1, hx1, hrest⟩ := hAc
    refine ⟨B 1, mk_set3 (mk_set3 c0 4 v') 5 (mk_put (c0 5) 0 0 0), u', ?_, ?_, e0, T, B, hT, hC, RT_of (fun j hj2 => k3 j (by omega)) (fun k h1 h2 => k2 k (by omega) (by omega)) hM, hB, ck_lifeR (v' := v') hLB l2 l3 l5 l6, fun j hj2 => (k5 j hj2).trans (hj j hj2), Text_of (k3 6 (by decide)) (k2 12 (by decide) (by decide)) hTx, ⟨0, x, by omega, hx1, rfl, k4, (k3 10 (by decide)).trans hrest.2.2.1, fun _ => B, fun _ _ => rfl, fun j hj2 => absurd hj2 (by omega)⟩, Slot_of (by rw [k2 18 (by decide) (by decide)]) (fun j _ => by rw [k2 19 (by decide) (by decide)]) h6, Slot_of (by rw [k2 18 (by decide) (by decide)]) (fun j _ => by rw [k2 19 (by decide) (by decide)]) h7, Seen_of (k3 12 (by decide)) (k2 15 (by decide) (by decide)) (k2 16 (by decide) (by decide)) hSe⟩
    · rw [h6f v' l1 l2 l3, l3, hLB.2.1]
    · unfold f_X7_again
      rw [rin_t hs, px_rd hs (by decide), e18]
      simp only [Option.bind_some]
      rw [if_neg (by decide), if_neg (by decide), k1, hj 1 (by decide)]
  have non : u0 18 s = 0 → f_X6_again NN c0 sd (nI s) = some (-3, c0) → ∃ (r : Int32) (c1 : CU) (mu1 : TU), f_X6_again NN c0 sd (nI s) = some (r, c1) ∧ f_X7_again NN u0 se (nI s) = some (r, mu1) ∧ Rel c1 sd mu1 se := by
    intro h1 h2
    refine ⟨-3, c0, u0, h2, ?_, hR⟩
    unfold f_X7_again
    rw [rin_t hs, px_rd hs (by decide), h1]
    rfl
  rcases (show s = 0 ∨ s = 1 by omega) with rfl | rfl
  · rcases h6 with ⟨a, b⟩ | ⟨a, b, B, hB, hLB, hj⟩
    · refine non b ?_
      unfold f_X6_again
      rw [slot_t (by decide)]
      simp only [Option.bind_some]
      rw [if_pos (by rfl), if_pos a]
    · refine fin 6 (c0 6) B (Or.inl ⟨rfl, rfl⟩) rfl b hB hLB hj a (fun v' l1 l2 l3 => ?_)
      unfold f_X6_again mk_nm
      rw [slot_t (by decide)]
      simp only [Option.bind_some]
      rw [if_pos (by rfl), if_neg (by rw [a]; decide), l1]
      rfl
  · rcases h7 with ⟨a, b⟩ | ⟨a, b, B, hB, hLB, hj⟩
    · refine non b ?_
      unfold f_X6_again
      rw [slot_t (by decide)]
      simp only [Option.bind_some]
      rw [if_neg (by decide), if_pos (by rfl), if_pos a]
    · refine fin 7 (c0 7) B (Or.inr ⟨rfl, rfl⟩) rfl b hB hLB hj a (fun v' l1 l2 l3 => ?_)
      unfold f_X6_again mk_nm
      rw [slot_t (by decide)]
      simp only [Option.bind_some]
      rw [if_neg (by decide), if_pos (by rfl), if_neg (by rw [a]; decide), l1]
      rfl
