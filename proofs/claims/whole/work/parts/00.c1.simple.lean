/-! steps: the text, what is seen, the seed, counts -/
theorem st_wipe (c0 : CU) (sd : Int64) (u0 : TU) (sm : Int64) (hR : Rel c0 sd u0 sm) : ∃ (r : Int32) (c1 : CU) (mu1 : TU), f_X6_wipe NN c0 sd = some (r, c1) ∧ f_X7_wipe NN u0 sm = some (r, mu1) ∧ Rel c1 sd mu1 sm := by
  obtain ⟨e0, T, A, hT, hC, hM, hA, hL, hW, ⟨n, hn, e1, e2, e3, e4⟩, hx⟩ := hR
  refine ⟨nI n, mk_set3 c0 0 (mk_put (c0 0) 0 0 0), mk_put u0 0 6 0, ?_, ?_, e0, T, A, hT, hC, hM, hA, hL, hW, ⟨0, by omega, rfl, rfl, e3, fun j hj => absurd hj (by omega)⟩, hx⟩
  · unfold f_X6_wipe mk_nm; rw [e1]
  · unfold f_X7_wipe mk_nm; rw [e2]
theorem st_unsee (c0 : CU) (sd : Int64) (u0 : TU) (sm : Int64) (hR : Rel c0 sd u0 sm) : ∃ (r : Int32) (c1 : CU) (mu1 : TU), f_X6_unsee NN c0 sd = some (r, c1) ∧ f_X7_unsee NN u0 sm = some (r, mu1) ∧ Rel c1 sd mu1 sm := by
  obtain ⟨e0, T, A, hT, hC, hM, hA, hL, hW, hTx, hAc, h6, h7, ⟨q, hq, e1, e2, e3⟩⟩ := hR
  refine ⟨nI q, mk_set3 c0 8 (mk_put (c0 8) 0 0 0), mk_put u0 0 12 0, ?_, ?_, e0, T, A, hT, hC, hM, hA, hL, hW, hTx, hAc, h6, h7, ⟨0, by omega, rfl, rfl, fun j hj => absurd hj (by omega)⟩⟩
  · unfold f_X6_unsee mk_nm; rw [e1]
  · unfold f_X7_unsee mk_nm; rw [e2]
theorem st_seed (c0 : CU) (sd : Int64) (u0 : TU) (sm : Int64) (p0 : Int64) (hR : Rel c0 sd u0 sm) : ∃ (r : Int64) (sd1 : Int64) (msd1 : Int64), f_X6_seed NN c0 sd p0 = some (r, sd1) ∧ f_X7_seed NN u0 sm p0 = some (r, msd1) ∧ Rel c0 sd1 u0 msd1 := by
  obtain ⟨e0, hx⟩ := hR
  exact ⟨sd, p0, p0, rfl, by rw [e0]; rfl, rfl, hx⟩
theorem upd_s (f : Nat → Int32) (k : Nat) (x : Int32) : upd f k x k = x := pk_us
theorem upd_n {f : Nat → Int32} {k j : Nat} (x : Int32) (h : j ≠ k) : upd f k x j = f j := pk_un h
theorem st_write (c0 : CU) (sd : Int64) (u0 : TU) (sm : Int64) (p0 : Int32) (hR : Rel c0 sd u0 sm) : ∃ (r : Int32) (c1 : CU) (mu1 : TU), f_X6_write NN c0 sd p0 = some (r, c1) ∧ f_X7_write NN u0 sm p0 = some (r, mu1) ∧ Rel c1 sd mu1 sm := by
  obtain ⟨e0, T, A, hT, hC, hM, hA, hL, hW, ⟨n, hn, e1, e2, e3, e4⟩, hx⟩ := id hR
  by_cases h1 : p0 < 0
  · refine ⟨-2, c0, u0, ?_, ?_, hR⟩
    · unfold f_X6_write; rw [if_pos h1]
    · unfold f_X7_write; rw [i64_0, show (255 : Int64) = (255 : Int32).toInt64 from rfl, rf_in, if_pos h1]; rfl
  by_cases h2 : p0 ≤ 255
  · obtain ⟨b, hb, rfl⟩ := nI_of2 (M := 255) (n := 255) (by decide) h1 h2
    by_cases h3 : n = 48
    · subst h3
      refine ⟨-4, c0, u0, ?_, ?_, hR⟩
      · unfold f_X6_write; rw [if_neg h1, if_pos h2, e1, if_neg (by decide)]
      · unfold f_X7_write; rw [i64_0, show (255 : Int64) = (255 : Int32).toInt64 from rfl, rf_in, if_neg h1, if_neg (Int32.not_lt.mpr h2), e2]; rfl
    · refine ⟨nI (n + 1), mk_set3 c0 0 (mk_put (mk_put (c0 0) 1 n (nI b)) 0 0 (nI (n + 1))), mk_put (mk_put u0 12 n (nI b)) 0 6 (nI (n + 1)), ?_, ?_, e0, T, A, hT, hC, hM, hA, hL, hW, ⟨n + 1, by omega, rfl, rfl, ?_, ?_⟩, hx⟩
      · unfold f_X6_write mk_nm
        rw [if_neg h1, if_pos h2, e1, show (48 : Int32) = nI 48 from rfl, if_pos (nI_lt (by omega) (by decide)), px_ix (by omega) (by decide), nI_clamp (by omega)]
        simp only [Option.bind_some]
        rw [show mk_set3 c0 0 (mk_put (c0 0) 1 n (nI b)) 0 = mk_put (c0 0) 1 n (nI b) from rfl, show mk_put (c0 0) 1 n (nI b) 0 0 = nI n from e1, nI_1]
        congr 2
        funext k
        unfold mk_set3
        by_cases hk : k = 0 <;> simp [hk]
      · unfold f_X7_write mk_nm
        rw [i64_0, show (255 : Int64) = (255 : Int32).toInt64 from rfl, rf_in, if_neg h1, if_neg (Int32.not_lt.mpr h2), e2]
        simp only [Option.bind_some]
        rw [if_neg (by decide), show (48 : Int32) = nI 48 from rfl, if_neg (fun q => h3 ((nI_eq (by omega) (by decide)).mp q)), px_ix (by omega) (by decide), nI_clamp (by omega)]
        simp only [Option.bind_some]
        rw [show mk_put u0 12 n (nI b) 0 6 = nI n from e2, nI_1]
        rfl
      · intro j hj
        show upd (c0 0 1) n (nI b) j = upd (u0 12) n (nI b) j
        by_cases hjn : j = n
        · subst hjn; rw [upd_s, upd_s]
        · rw [upd_n _ hjn, upd_n _ hjn]; exact e3 j hj
      · intro j hj
        show ∃ b', b' ≤ 255 ∧ upd (u0 12) n (nI b) j = nI b'
        by_cases hjn : j = n
        · subst hjn; exact ⟨b, hb, upd_s _ _ _⟩
        · rw [upd_n _ hjn]; exact e4 j (by omega)
  · refine ⟨-2, c0, u0, ?_, ?_, hR⟩
    · unfold f_X6_write; rw [if_neg h1, if_neg h2]
    · unfold f_X7_write; rw [i64_0, show (255 : Int64) = (255 : Int32).toInt64 from rfl, rf_in, if_neg h1, if_pos (Int32.not_le.mp h2)]; rfl
theorem st_see (c0 : CU) (sd : Int64) (u0 : TU) (sm : Int64) (p0 p1 : Int32) (hR : Rel c0 sd u0 sm) : ∃ (r : Int32) (c1 : CU) (mu1 : TU), f_X6_see NN c0 sd p0 p1 = some (r, c1) ∧ f_X7_see NN u0 sm p0 p1 = some (r, mu1) ∧ Rel c1 sd mu1 sm := by
  obtain ⟨e0, T, A, hT, hC, hM, hA, hL, hW, hTx, hAc, h6, h7, ⟨q, hq, e1, e2, e3⟩⟩ := id hR
  have h4 := hT.1
  rcases ix2 p0 h4 with hb | ⟨i, hi, rfl⟩
  · refine ⟨-1, c0, u0, ?_, ?_, hR⟩
    · unfold f_X6_see; rw [ct_thing_f hC.1 hb]; rfl
    · unfold f_X7_see; rw [rf_thing_f hT hM hb]; rfl
  by_cases g1 : p1 < 0
  · refine ⟨-2, c0, u0, ?_, ?_, hR⟩
    · unfold f_X6_see; rw [ct_thing_t hT hC.1 hi]; simp only [Option.bind_some]; rw [if_neg (by decide), if_pos g1]
    · unfold f_X7_see; rw [rf_thing_t hT hM hi]; simp only [Option.bind_some]; rw [if_neg (by decide), i64_0, show (9 : Int64) = (9 : Int32).toInt64 from rfl, rf_in, if_pos g1]; rfl
  by_cases g2 : p1 ≤ 9
  · obtain ⟨d, hd, rfl⟩ := nI_of2 (M := 9) (n := 9) (by decide) g1 g2
    by_cases g3 : q = 6
    · subst g3
      refine ⟨-4, c0, u0, ?_, ?_, hR⟩
      · unfold f_X6_see; rw [ct_thing_t hT hC.1 hi]; simp only [Option.bind_some]; rw [if_neg (by decide), if_neg g1, if_pos g2, e1, if_neg (by decide)]
      · unfold f_X7_see; rw [rf_thing_t hT hM hi]; simp only [Option.bind_some]; rw [if_neg (by decide), i64_0, show (9 : Int64) = (9 : Int32).toInt64 from rfl, rf_in, if_neg g1, if_neg (Int32.not_lt.mpr g2), e2]; rfl
    · have hq5 : q < 6 := by omega
      refine ⟨nI (q + 1), mk_set3 c0 8 (mk_put (mk_put (mk_put (c0 8) 1 q (nI i)) 2 q (nI d)) 0 0 (nI (q + 1))), mk_put (mk_put (mk_put u0 15 q (nI i)) 16 q (nI d)) 0 12 (nI (q + 1)), ?_, ?_, e0, T, A, hT, hC, hM, hA, hL, hW, hTx, hAc, h6, h7, ⟨q + 1, by omega, rfl, rfl, ?_⟩⟩
      · unfold f_X6_see f_X4_add mk_nm
        rw [ct_thing_t hT hC.1 hi]
        simp only [Option.bind_some]
        rw [if_neg (by decide), if_neg g1, if_pos g2, e1, show (6 : Int32) = nI 6 from rfl, if_pos (nI_lt hq5 (by decide)), if_neg (nI_ge hq5 (by decide)), px_ix hq5 (by decide), nI_clamp (by omega)]
        simp only [Option.bind_some]
        rw [show mk_put (c0 8) 1 q (nI i) 0 0 = nI q from e1, px_ix hq5 (by decide), nI_clamp (by omega)]
        simp only [Option.bind_some]
        rw [show mk_put (mk_put (c0 8) 1 q (nI i)) 2 q (nI d) 0 0 = nI q from e1, nI_1]
        rfl
      · unfold f_X7_see mk_nm
        rw [rf_thing_t hT hM hi]
        simp only [Option.bind_some]
        rw [if_neg (by decide), i64_0, show (9 : Int64) = (9 : Int32).toInt64 from rfl, rf_in, if_neg g1, if_neg (Int32.not_lt.mpr g2), e2]
        simp only [Option.bind_some]
        rw [if_neg (by decide), show (6 : Int32) = nI 6 from rfl, if_neg (fun z => g3 ((nI_eq (by omega) (by decide)).mp z)), px_ix hq5 (by decide), nI_clamp (by omega)]
        simp only [Option.bind_some]
        rw [show mk_put u0 15 q (nI i) 0 12 = nI q from e2, px_ix hq5 (by decide), nI_clamp (by omega)]
        simp only [Option.bind_some]
        rw [show mk_put (mk_put u0 15 q (nI i)) 16 q (nI d) 0 12 = nI q from e2, nI_1]
        rfl
      · intro j hj
        show (∃ t, t < 4 ∧ upd (c0 8 1) q (nI i) j = nI t ∧ upd (u0 15) q (nI i) j = nI t) ∧ ∃ d', d' ≤ 9 ∧ upd (c0 8 2) q (nI d) j = nI d' ∧ upd (u0 16) q (nI d) j = nI d'
        by_cases hjq : j = q
        · subst hjq; rw [upd_s, upd_s, upd_s, upd_s]; exact ⟨⟨i, by omega, rfl, rfl⟩, d, hd, rfl, rfl⟩
        · rw [upd_n _ hjq, upd_n _ hjq, upd_n _ hjq, upd_n _ hjq]; exact e3 j (by omega)
  · refine ⟨-2, c0, u0, ?_, ?_, hR⟩
    · unfold f_X6_see; rw [ct_thing_t hT hC.1 hi]; simp only [Option.bind_some]; rw [if_neg (by decide), if_neg g1, if_neg g2]
    · unfold f_X7_see; rw [rf_thing_t hT hM hi]; simp only [Option.bind_some]; rw [if_neg (by decide), i64_0, show (9 : Int64) = (9 : Int32).toInt64 from rfl, rf_in, if_neg g1, if_pos (Int32.not_le.mp g2)]; rfl
