/-! the class's reader; parts added to the draft -/
def kC (c c' : CU) : Prop := ∀ k, k ≠ 1 → k ≠ 3 → c' k = c k
theorem kC_set (c : CU) (R D : TU) : kC c (mk_set3 (mk_set3 c 1 R) 3 D) := fun k h1 h3 => by unfold mk_set3; rw [if_neg h3, if_neg h1]
theorem kC_tr {a b c : CU} (h1 : kC a b) (h2 : kC b c) : kC a c := fun k g1 g3 => (h2 k g1 g3).trans (h1 k g1 g3)
def RDC (sd : Int64) (fuel : Nat) (c : CU) (p : Nat) : Option (Int32 × CU) := lq2 (g_X6_readText_13 NN sd) fuel c (nI p)
section READER
variable {T : NT} {u : TU} {c : CU} {sd : Int64} {n p i pt : Nat} {lt : Nat → Nat} {ok : Nat → Bool} {R D : TU}
def ltR (c : CU) (n : Nat) (lt : Nat → Nat) : Prop := n ≤ 48 ∧ (c 0) 0 0 = nI n ∧ ∀ j, j < n → (c 0) 1 j = nI (lt j) ∧ lt j ≤ 255
theorem ltR_of {c' : CU} (h : ltR c n lt) (k : kC c c') : ltR c' n lt := by
  unfold ltR; rw [k 0 (by decide) (by decide)]; exact h
/-- in a part, i figures told -/
def inP (R : TU) (pt i : Nat) : Prop := R 0 0 = 1 ∧ R 0 1 = nI pt ∧ R 0 2 = nI i ∧ i < 5 ∧ 0 < pt ∧ pt < 256
theorem cf_none (hL : ltR c n lt) (hI : inP (c 1) pt i) (hm : ∀ f, f ≤ 9 → f_X3_mayFollow NN (c 1) (c 3) (nI f) = some (if ok f then 1 else 0)) (hp : p ≤ n) (ha : acc n lt ok p = none) (fuel : Nat) : ∃ c', RDC sd (fuel + 1) c p = some (nI p, c') ∧ kC c c' := by
  obtain ⟨hn, l0, l1⟩ := hL
  obtain ⟨r0, r1, r2, i5, p0, p256⟩ := hI
  have no := acc_none ha
  unfold RDC
  simp only [lq2]
  unfold g_X6_readText_13 mk_nm
  dsimp only
  rw [l0]
  by_cases hpn : p < n
  · obtain ⟨a1, a2⟩ := l1 p hpn
    have tk : f_X3_takes NN (c 1) (c 3) (nI (lt p)) = some (0, c 1, c 3) := by
      unfold f_X3_takes
      rw [if_neg (by rw [r0]; decide), if_neg (by rw [r1]; exact nI_ne0 p0 (by omega))]
      have fg : f_X3_takesFigure NN (c 1) (c 3) (nI (lt p) - 48) = some (0, c 1, c 3) := by
        unfold f_X3_takesFigure
        by_cases h48 : 48 ≤ lt p
        · rw [show (48 : Int32) = nI 48 from rfl, pk_sub h48, if_neg (nI_pos (by omega))]
          by_cases h57 : lt p ≤ 57
          · rw [show (9 : Int32) = nI 9 from rfl, if_neg (nI_nlt (by omega) (by omega)), r2, if_neg (nI_pos (by omega)), show (5 : Int32) = nI 5 from rfl, if_neg (nI_ge i5 (by decide)), hm _ (by omega), Option.bind_some, if_pos (by rw [if_neg (fun q => no ⟨hpn, h48, h57, q⟩)])]
          · rw [show (9 : Int32) = nI 9 from rfl, if_pos (nI_lt (by omega) (by omega))]
        · rw [if_pos (show nI (lt p) - 48 < 0 from sub48_lt (n := 0) (by omega) (by omega))]
      rw [fg, Option.bind_some]
      rfl
    refine ⟨mk_set3 (mk_set3 c 1 (c 1)) 3 (c 3), ?_, kC_set _ _ _⟩
    rw [if_neg (nI_ge hpn (by omega)), px_rd (by omega) (by decide), a1, Option.bind_some, tk, Option.bind_some, if_pos rfl]
  · have : p = n := by omega
    subst this
    refine ⟨c, ?_, fun _ _ _ => rfl⟩
    rw [if_pos (Int32.le_refl _)]
    unfold f_X3_isAtEnd
    rw [if_neg (by rw [r0]; decide), if_neg (by rw [r1]; exact nI_ne0 p0 (by omega)), Option.bind_some, if_pos rfl]
theorem cf_ok (hL : ltR c n lt) (hI : inP (c 1) pt i) (hm : ∀ f, f ≤ 9 → f_X3_mayFollow NN (c 1) (c 3) (nI f) = some (if ok f then 1 else 0)) {f : Nat} (ha : acc n lt ok p = some f) (hx : g_X3_takesFigure_74 NN (mk_put (mk_put (c 1) 1 i (nI f)) 0 2 (nI (i + 1))) (c 3) (nI (i + 1)) (if pt = 84 then 5 else 2) = some (1, R, D)) (fuel : Nat) : RDC sd (fuel + 1) c p = RDC sd fuel (mk_set3 (mk_set3 c 1 R) 3 D) (p + 1) := by
  obtain ⟨hn, l0, l1⟩ := hL
  obtain ⟨r0, r1, r2, i5, p0, p256⟩ := hI
  obtain ⟨hpn, hl, f9, hok⟩ := acc_some ha
  obtain ⟨a1, a2⟩ := l1 p hpn
  have tk : f_X3_takes NN (c 1) (c 3) (nI (lt p)) = some (1, R, D) := by
    unfold f_X3_takes
    rw [if_neg (by rw [r0]; decide), if_neg (by rw [r1]; exact nI_ne0 p0 (by omega))]
    have fg : f_X3_takesFigure NN (c 1) (c 3) (nI (lt p) - 48) = some (1, R, D) := by
      unfold f_X3_takesFigure mk_nm
      dsimp only
      rw [show (48 : Int32) = nI 48 from rfl, pk_sub (by omega), show lt p - 48 = f by omega, if_neg (nI_pos (by omega)), show (9 : Int32) = nI 9 from rfl, if_neg (nI_nlt (by omega) (by omega)), r2, if_neg (nI_pos (by omega)), if_neg (show ¬ (5 : Int32) ≤ nI i from nI_ge i5 (by decide)), hm _ f9, Option.bind_some, if_neg (by rw [if_pos hok]; decide), px_ix i5 (by decide), Option.bind_some, nI_clamp (by omega)]
      rw [show mk_put (c 1) 1 i (nI f) 0 2 = nI i from r2, nI_1, show mk_put (mk_put (c 1) 1 i (nI f)) 0 2 (nI (i + 1)) 0 1 = nI pt from r1, show mk_put (mk_put (c 1) 1 i (nI f)) 0 2 (nI (i + 1)) 0 2 = nI (i + 1) from rfl]
      by_cases h84 : pt = 84
      · rw [if_pos h84] at hx
        rw [if_pos (by rw [h84]; rfl)]; exact hx
      · rw [if_neg h84] at hx
        rw [if_neg (show ¬ nI pt = 84 from fun q => h84 ((nI_eq (b := 84) (by omega) (by decide)).mp q))]; exact hx
    rw [fg, Option.bind_some]
    rfl
  unfold RDC
  rw [show lq2 (g_X6_readText_13 NN sd) (fuel + 1) c (nI p) = g_X6_readText_13 NN sd (lq2 (g_X6_readText_13 NN sd) fuel) c (nI p) from rfl]
  generalize lq2 (g_X6_readText_13 NN sd) fuel = rec
  unfold g_X6_readText_13 mk_nm
  dsimp only
  rw [l0, if_neg (nI_ge hpn (by omega)), px_rd (by omega) (by decide), a1, Option.bind_some, tk, Option.bind_some]
  dsimp only
  rw [if_neg (by decide), nI_1]
theorem cf_open (hL : ltR c n lt) (r0 : (c 1) 0 0 = 1) (r1 : (c 1) 0 1 = 0) (hpn : p < n) (hb : 0 < lt p) (hm : f_X3_mayOpen NN (c 1) (c 3) (nI (lt p)) = some 1) (fuel : Nat) : RDC sd (fuel + 1) c p = RDC sd fuel (mk_set3 (mk_set3 c 1 (mk_put (mk_put (c 1) 0 1 (nI (lt p))) 0 2 0)) 3 (c 3)) (p + 1) := by
  obtain ⟨hn, l0, l1⟩ := hL
  obtain ⟨a1, a2⟩ := l1 p hpn
  have tk : f_X3_takes NN (c 1) (c 3) (nI (lt p)) = some (1, mk_put (mk_put (c 1) 0 1 (nI (lt p))) 0 2 0, c 3) := by
    unfold f_X3_takes g_X3_takes_49 mk_nm
    dsimp only
    rw [if_neg (by rw [r0]; decide), if_pos r1, hm, Option.bind_some, if_neg (by decide), show mk_put (mk_put (c 1) 0 1 (nI (lt p))) 0 2 0 0 1 = nI (lt p) from rfl, if_neg (nI_ne0 hb (by omega))]
  unfold RDC
  rw [show lq2 (g_X6_readText_13 NN sd) (fuel + 1) c (nI p) = g_X6_readText_13 NN sd (lq2 (g_X6_readText_13 NN sd) fuel) c (nI p) from rfl]
  generalize lq2 (g_X6_readText_13 NN sd) fuel = rec
  unfold g_X6_readText_13 mk_nm
  dsimp only
  rw [l0, if_neg (nI_ge hpn (by omega)), px_rd (by omega) (by decide), a1, Option.bind_some, tk, Option.bind_some]
  dsimp only
  rw [if_neg (by decide), nI_1]
theorem cf_shut (hL : ltR c n lt) (r0 : (c 1) 0 0 = 1) (r1 : (c 1) 0 1 = 0) (hpn : p < n) (hm : f_X3_mayOpen NN (c 1) (c 3) (nI (lt p)) = some 0) (fuel : Nat) : ∃ c', RDC sd (fuel + 1) c p = some (nI p, c') ∧ kC c c' := by
  obtain ⟨hn, l0, l1⟩ := hL
  obtain ⟨a1, a2⟩ := l1 p hpn
  have tk : f_X3_takes NN (c 1) (c 3) (nI (lt p)) = some (0, mk_put (mk_put (c 1) 0 1 0) 0 2 0, c 3) := by
    unfold f_X3_takes g_X3_takes_49 mk_nm
    dsimp only
    rw [if_neg (by rw [r0]; decide), if_pos r1, hm, Option.bind_some, if_pos rfl, show mk_put (mk_put (c 1) 0 1 0) 0 2 0 0 1 = 0 from rfl, if_pos rfl]
  refine ⟨mk_set3 (mk_set3 c 1 (mk_put (mk_put (c 1) 0 1 0) 0 2 0)) 3 (c 3), ?_, kC_set _ _ _⟩
  unfold RDC
  rw [show lq2 (g_X6_readText_13 NN sd) (fuel + 1) c (nI p) = g_X6_readText_13 NN sd (lq2 (g_X6_readText_13 NN sd) fuel) c (nI p) from rfl]
  generalize lq2 (g_X6_readText_13 NN sd) fuel = rec
  unfold g_X6_readText_13 mk_nm
  dsimp only
  rw [l0, if_neg (nI_ge hpn (by omega)), px_rd (by omega) (by decide), a1, Option.bind_some, tk, Option.bind_some, if_pos rfl]
end READER
/-! a town with a part more -/
def aT (T : NT) (f : Nat → Nat) : NT := fun k j => if k = 0 then (if j = 0 then T 0 0 + 1 else T 0 j) else if k ≤ 5 ∧ j = T 0 0 then f (k - 1) else T k j
def aA (T : NT) (f : Nat → Nat) : NT := fun k j => if k = 0 then (if j = 1 then T 0 1 + 1 else T 0 j) else if (k = 6 ∨ k = 7) ∧ j = T 0 1 then f (k - 6) else T k j
def aL (T : NT) (f : Nat → Nat) : NT := fun k j => if k = 0 then (if j = 2 then T 0 2 + 1 else T 0 j) else if (k = 8 ∨ k = 9) ∧ j = T 0 2 then f (k - 8) else T k j
section ADD
variable {T : NT} {f : Nat → Nat} {v : TU} {N : Nat}
theorem aT_n {k : Nat} (h1 : 1 ≤ k) (h5 : k ≤ 5) : aT T f k (T 0 0) = f (k - 1) := by unfold aT; rw [if_neg (by omega), if_pos ⟨h5, rfl⟩]
theorem aT_o {k j : Nat} (h1 : 1 ≤ k) (hj : j ≠ T 0 0) : aT T f k j = T k j := by unfold aT; rw [if_neg (by omega), if_neg (fun q => hj q.2)]
theorem aT_h {k j : Nat} (h1 : 6 ≤ k) : aT T f k j = T k j := by unfold aT; rw [if_neg (by omega), if_neg (fun q => by omega)]
theorem aT_0 : aT T f 0 0 = T 0 0 + 1 := rfl
theorem aT_1 : aT T f 0 1 = T 0 1 := rfl
theorem aT_2 : aT T f 0 2 = T 0 2 := rfl
theorem aT_wf (hT : wfT T) (h : T 0 0 < 4) (f0 : 1 ≤ f 0) (f1 : f 0 < f 1) (f19 : f 1 ≤ 9) (f2 : f 2 ≤ 9) (f3 : 1 ≤ f 3) (f39 : f 3 ≤ 9) (f4 : f 4 ≤ 1) : wfT (aT T f) := by
  obtain ⟨h1, h2, h3, h4, h5, h6⟩ := hT
  refine ⟨by rw [aT_0]; omega, by rw [aT_1]; exact h2, by rw [aT_2]; exact h3, fun i hi => ?_, fun a ha => ?_, fun j hj => ?_⟩
  · rw [aT_0] at hi
    by_cases e : i = T 0 0
    · subst e
      rw [aT_n (by decide) (by decide), aT_n (by decide) (by decide), aT_n (by decide) (by decide), aT_n (by decide) (by decide), aT_n (by decide) (by decide)]
      exact ⟨f0, f1, f19, f2, f3, f39, f4⟩
    · rw [aT_o (by decide) e, aT_o (by decide) e, aT_o (by decide) e, aT_o (by decide) e, aT_o (by decide) e]
      exact h4 i (by omega)
  · rw [aT_h (k := 6) (by decide), aT_h (k := 7) (by decide), aT_0]
    have := h5 a ha
    omega
  · rw [aT_h (k := 8) (by decide), aT_h (k := 9) (by decide), aT_0]
    have := h6 j hj
    omega
theorem aT_trm : trm (aT T f) = trm T ||| (if f 4 = 1 then 2 ^ T 0 0 else 0) := by
  unfold trm
  rw [aT_0, ← mkm_or]
  congr 1
  · exact mkm_congr (fun i hi => by rw [aT_o (by decide) (by omega)])
  · rw [aT_n (by decide) (by decide)]
    by_cases h : f 4 = 1 <;> simp [h]
theorem ct_addThing (hT : wfT T) (hC : CT0 v T) (h : T 0 0 < 4) {F : Nat → Int32} (hF : ∀ j, j < 5 → F j = nI (f j)) (f4 : f 4 ≤ 1) : ∃ v', f_X5_addThing N v (fun _ => F) = some v' ∧ CT0 v' (aT T f) := by
  obtain ⟨h1, h2, h3, h4, h5, h6, h7⟩ := hC
  refine ⟨mk_put (mk_put (mk_put (mk_put (mk_put (mk_put v 1 (T 0 0) (nI (f 0))) 2 (T 0 0) (nI (f 1))) 3 (T 0 0) (nI (f 2))) 4 (T 0 0) (nI (f 3))) 0 1 (nI (trm (aT T f)))) 0 0 (nI (T 0 0 + 1)), ?_, ?_⟩
  · unfold f_X5_addThing f_X5_isRoomForThing mk_nm
    dsimp only
    rw [h1, show (4 : Int32) = nI 4 from rfl, if_neg (nI_ge h (by decide)), Option.bind_some, if_neg (by decide), if_pos (Int32.le_refl _), px_rd0 (by decide) (by decide), Option.bind_some, px_ix h (by decide), Option.bind_some, nI_clamp (by omega), hF 0 (by decide)]
    rw [px_rd1 (by decide) (by decide), Option.bind_some, show mk_put v 1 (T 0 0) (nI (f 0)) 0 0 = nI (T 0 0) from h1, px_ix h (by decide), Option.bind_some, nI_clamp (by omega), hF 1 (by decide)]
    rw [show (2 : Int32) = nI 2 from rfl, px_rd (by decide) (by decide), Option.bind_some, show mk_put (mk_put v 1 (T 0 0) (nI (f 0))) 2 (T 0 0) (nI (f 1)) 0 0 = nI (T 0 0) from h1, px_ix h (by decide), Option.bind_some, nI_clamp (by omega), hF 2 (by decide)]
    rw [show (3 : Int32) = nI 3 from rfl, px_rd (by decide) (by decide), Option.bind_some, show mk_put (mk_put (mk_put v 1 (T 0 0) (nI (f 0))) 2 (T 0 0) (nI (f 1))) 3 (T 0 0) (nI (f 2)) 0 0 = nI (T 0 0) from h1, px_ix h (by decide), Option.bind_some, nI_clamp (by omega), hF 3 (by decide)]
    rw [px_rd (by decide) (by decide), Option.bind_some, show mk_put (mk_put (mk_put (mk_put v 1 (T 0 0) (nI (f 0))) 2 (T 0 0) (nI (f 1))) 3 (T 0 0) (nI (f 2))) 4 (T 0 0) (nI (f 3)) 0 0 = nI (T 0 0) from h1, show mk_put (mk_put (mk_put (mk_put v 1 (T 0 0) (nI (f 0))) 2 (T 0 0) (nI (f 1))) 3 (T 0 0) (nI (f 2))) 4 (T 0 0) (nI (f 3)) 0 1 = nI (trm T) from h2, hF 4 (by decide)]
    have e : nI (trm T) ||| nI (f 4) <<< (nI (T 0 0) &&& 31) = nI (trm (aT T f)) := by
      rw [aT_trm]
      rcases (show f 4 = 0 ∨ f 4 = 1 by omega) with g | g
      · rw [g, if_neg (by omega), Nat.or_zero, (by decide +kernel : ∀ t, t < 4 → nI 0 <<< (nI t &&& 31) = nI 0) _ h, px_or, Nat.or_zero]
      · rw [g, if_pos rfl, show nI 1 = 1 from rfl, px_sh (by omega), px_or]
    rw [e]
    show some (mk_put _ 0 0 (v 0 0 + 1)) = _
    rw [h1, nI_1]
  · refine ⟨rfl, rfl, h3, h4, fun i hi => ?_, fun a ha => ?_, fun j hj => ?_⟩
    · rw [aT_0] at hi
      show upd (v 1) (T 0 0) _ i = _ ∧ upd (v 2) (T 0 0) _ i = _ ∧ upd (v 3) (T 0 0) _ i = _ ∧ upd (v 4) (T 0 0) _ i = _
      by_cases e : i = T 0 0
      · subst e
        rw [aT_n (by decide) (by decide), aT_n (by decide) (by decide), aT_n (by decide) (by decide), aT_n (by decide) (by decide), upd_s, upd_s, upd_s, upd_s]
        exact ⟨rfl, rfl, rfl, rfl⟩
      · rw [aT_o (by decide) e, aT_o (by decide) e, aT_o (by decide) e, aT_o (by decide) e, upd_n _ e, upd_n _ e, upd_n _ e, upd_n _ e]
        exact h5 i (by omega)
    · rw [aT_h (by decide), aT_h (by decide)]; exact h6 a ha
    · rw [aT_h (by decide), aT_h (by decide)]; exact h7 j hj
theorem aA_6 : aA T f 6 (T 0 1) = f 0 := by unfold aA; rw [if_neg (by decide), if_pos ⟨Or.inl rfl, rfl⟩]
theorem aA_7 : aA T f 7 (T 0 1) = f 1 := by unfold aA; rw [if_neg (by decide), if_pos ⟨Or.inr rfl, rfl⟩]
theorem aA_o {k j : Nat} (h : k ≠ 0) (hj : j ≠ T 0 1) : aA T f k j = T k j := by unfold aA; rw [if_neg h, if_neg (fun q => hj q.2)]
theorem aL_8 : aL T f 8 (T 0 2) = f 0 := by unfold aL; rw [if_neg (by decide), if_pos ⟨Or.inl rfl, rfl⟩]
theorem aL_9 : aL T f 9 (T 0 2) = f 1 := by unfold aL; rw [if_neg (by decide), if_pos ⟨Or.inr rfl, rfl⟩]
theorem aL_o {k j : Nat} (h : k ≠ 0) (hj : j ≠ T 0 2) : aL T f k j = T k j := by unfold aL; rw [if_neg h, if_neg (fun q => hj q.2)]
theorem aA_wf (hT : wfT T) (h : T 0 1 < 4) (f0 : f 0 ≤ f 1) (f1 : f 1 < T 0 0) : wfT (aA T f) := by
  obtain ⟨h1, h2, h3, h4, h5, h6⟩ := hT
  have e : ∀ k j, k ≠ 0 → k ≠ 6 → k ≠ 7 → aA T f k j = T k j := fun k j g0 g6 g7 => by unfold aA; rw [if_neg g0, if_neg (fun q => by omega)]
  refine ⟨h1, ?_, h3, fun i hi => ?_, fun a ha => ?_, fun j hj => ?_⟩
  · show T 0 1 + 1 ≤ 4; omega
  · rw [e 1 _ (by decide) (by decide) (by decide), e 2 _ (by decide) (by decide) (by decide), e 3 _ (by decide) (by decide) (by decide), e 4 _ (by decide) (by decide) (by decide), e 5 _ (by decide) (by decide) (by decide)]; exact h4 i hi
  · have ha' : a < T 0 1 + 1 := ha
    show aA T f 6 a ≤ aA T f 7 a ∧ aA T f 7 a < T 0 0
    by_cases g : a = T 0 1
    · rw [g, aA_6, aA_7]; exact ⟨f0, f1⟩
    · rw [aA_o (by decide) g, aA_o (by decide) g]; exact h5 a (by omega)
  · rw [e 8 _ (by decide) (by decide) (by decide), e 9 _ (by decide) (by decide) (by decide)]; exact h6 j hj
theorem ct_addAsker (hC : CT0 v T) (h : T 0 1 < 4) : ∃ v', f_X5_addAsker N v (nI (f 0)) (nI (f 1)) = some v' ∧ CT0 v' (aA T f) := by
  obtain ⟨h1, h2, h3, h4, h5, h6, h7⟩ := hC
  have e : ∀ k j, k ≠ 0 → k ≠ 6 → k ≠ 7 → aA T f k j = T k j := fun k j g0 g6 g7 => by unfold aA; rw [if_neg g0, if_neg (fun q => by omega)]
  refine ⟨mk_put (mk_put (mk_put v 5 (T 0 1) (nI (f 0))) 6 (T 0 1) (nI (f 1))) 0 2 (nI (T 0 1 + 1)), ?_, h1, ?_, rfl, h4, fun i hi => ?_, fun a ha => ?_, fun j hj => ?_⟩
  · unfold f_X5_addAsker mk_nm
    dsimp only
    rw [h3, show (4 : Int32) = nI 4 from rfl, if_neg (nI_ge h (by decide)), px_ix h (by decide), Option.bind_some, nI_clamp (by omega), show mk_put v 5 (T 0 1) (nI (f 0)) 0 2 = nI (T 0 1) from h3, px_ix h (by decide), Option.bind_some, nI_clamp (by omega), show mk_put (mk_put v 5 (T 0 1) (nI (f 0))) 6 (T 0 1) (nI (f 1)) 0 2 = nI (T 0 1) from h3, nI_1]
  · refine (show _ = _ from h2).trans ?_
    unfold trm
    rw [show aA T f 0 0 = T 0 0 from rfl, mkm_congr (q := fun i => aA T f 5 i == 1) (fun i _ => by rw [e 5 _ (by decide) (by decide) (by decide)])]
  · rw [e 1 _ (by decide) (by decide) (by decide), e 2 _ (by decide) (by decide) (by decide), e 3 _ (by decide) (by decide) (by decide), e 4 _ (by decide) (by decide) (by decide)]; exact h5 i hi
  · have ha' : a < T 0 1 + 1 := ha
    show upd (v 5) (T 0 1) _ a = nI (aA T f 6 a) ∧ upd (v 6) (T 0 1) _ a = nI (aA T f 7 a)
    by_cases g : a = T 0 1
    · rw [g, aA_6, aA_7, upd_s, upd_s]; exact ⟨rfl, rfl⟩
    · rw [aA_o (by decide) g, aA_o (by decide) g, upd_n _ g, upd_n _ g]; exact h6 a (by omega)
  · rw [e 8 _ (by decide) (by decide) (by decide), e 9 _ (by decide) (by decide) (by decide)]; exact h7 j hj
theorem aL_wf (hT : wfT T) (h : T 0 2 < 3) (f0 : f 0 < T 0 0) (f1 : f 1 < T 0 0) : wfT (aL T f) := by
  obtain ⟨h1, h2, h3, h4, h5, h6⟩ := hT
  have e : ∀ k j, k ≠ 0 → k ≠ 8 → k ≠ 9 → aL T f k j = T k j := fun k j g0 g6 g7 => by unfold aL; rw [if_neg g0, if_neg (fun q => by omega)]
  refine ⟨h1, h2, ?_, fun i hi => ?_, fun a ha => ?_, fun j hj => ?_⟩
  · show T 0 2 + 1 ≤ 3; omega
  · rw [e 1 _ (by decide) (by decide) (by decide), e 2 _ (by decide) (by decide) (by decide), e 3 _ (by decide) (by decide) (by decide), e 4 _ (by decide) (by decide) (by decide), e 5 _ (by decide) (by decide) (by decide)]; exact h4 i hi
  · rw [e 6 _ (by decide) (by decide) (by decide), e 7 _ (by decide) (by decide) (by decide)]; exact h5 a ha
  · have hj' : j < T 0 2 + 1 := hj
    show aL T f 8 j < T 0 0 ∧ aL T f 9 j < T 0 0
    by_cases g : j = T 0 2
    · rw [g, aL_8, aL_9]; exact ⟨f0, f1⟩
    · rw [aL_o (by decide) g, aL_o (by decide) g]; exact h6 j (by omega)
theorem ct_addLink (hC : CT0 v T) (h : T 0 2 < 3) : ∃ v', f_X5_addLink N v (nI (f 0)) (nI (f 1)) = some v' ∧ CT0 v' (aL T f) := by
  obtain ⟨h1, h2, h3, h4, h5, h6, h7⟩ := hC
  have e : ∀ k j, k ≠ 0 → k ≠ 8 → k ≠ 9 → aL T f k j = T k j := fun k j g0 g6 g7 => by unfold aL; rw [if_neg g0, if_neg (fun q => by omega)]
  refine ⟨mk_put (mk_put (mk_put v 7 (T 0 2) (nI (f 0))) 8 (T 0 2) (nI (f 1))) 0 3 (nI (T 0 2 + 1)), ?_, h1, ?_, h3, rfl, fun i hi => ?_, fun a ha => ?_, fun j hj => ?_⟩
  · unfold f_X5_addLink mk_nm
    dsimp only
    rw [h4, show (3 : Int32) = nI 3 from rfl, if_neg (nI_ge h (by decide)), px_ix h (by decide), Option.bind_some, nI_clamp (by omega), show mk_put v 7 (T 0 2) (nI (f 0)) 0 3 = nI (T 0 2) from h4, px_ix h (by decide), Option.bind_some, nI_clamp (by omega), show mk_put (mk_put v 7 (T 0 2) (nI (f 0))) 8 (T 0 2) (nI (f 1)) 0 3 = nI (T 0 2) from h4, nI_1]
  · refine (show _ = _ from h2).trans ?_
    unfold trm
    rw [show aL T f 0 0 = T 0 0 from rfl, mkm_congr (q := fun i => aL T f 5 i == 1) (fun i _ => by rw [e 5 _ (by decide) (by decide) (by decide)])]
  · rw [e 1 _ (by decide) (by decide) (by decide), e 2 _ (by decide) (by decide) (by decide), e 3 _ (by decide) (by decide) (by decide), e 4 _ (by decide) (by decide) (by decide)]; exact h5 i hi
  · rw [e 6 _ (by decide) (by decide) (by decide), e 7 _ (by decide) (by decide) (by decide)]; exact h6 a ha
  · have hj' : j < T 0 2 + 1 := hj
    show upd (v 7) (T 0 2) _ j = nI (aL T f 8 j) ∧ upd (v 8) (T 0 2) _ j = nI (aL T f 9 j)
    by_cases g : j = T 0 2
    · rw [g, aL_8, aL_9, upd_s, upd_s]; exact ⟨rfl, rfl⟩
    · rw [aL_o (by decide) g, aL_o (by decide) g, upd_n _ g, upd_n _ g]; exact h7 j (by omega)
end ADD
