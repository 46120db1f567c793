/-! the whole text; steps: fault, town -/
section READALL
variable {T : NT} {u w : TU} {c : CU} {sd se : Int64} {n p : Nat} {lt : Nat → Nat}
def opn (T : NT) (b : Nat) : Bool := (b == 84 && decide (T 0 0 < 4)) || (b == 65 && decide (0 < T 0 0) && decide (T 0 1 < 4)) || (b == 76 && decide (T 0 2 < 3) && !(mkm (cF T) (T 0 0) == 0))
theorem shut_C (hT : wfT T) (hC : CT0 (c 3) T) {b : Nat} (hb : b ≤ 255) (h : opn T b = false) : f_X3_mayOpen NN (c 1) (c 3) (nI b) = some 0 := by
  have h4 := hT.1
  have hk := hT.2.1
  unfold opn at h
  unfold f_X3_mayOpen
  by_cases c65 : b = 65
  · subst c65
    rw [if_pos (show nI 65 = 65 from rfl)]
    unfold f_X5_isRoomForAsker
    rw [hC.1, hC.2.2.1]
    by_cases d1 : 0 < T 0 0
    · have d2 : ¬ T 0 1 < 4 := by intro d; simp [d1, d] at h
      rw [if_neg (nI_nle d1 (by omega)), show (4 : Int32) = nI 4 from rfl, if_pos (nI_le (by omega) (by omega))]; rfl
    · rw [if_pos (show nI (T 0 0) ≤ 0 by rw [show T 0 0 = 0 by omega]; decide)]; rfl
  · rw [if_neg (show ¬ nI b = 65 from fun q => c65 ((nI_eq (b := 65) (by omega) (by decide)).mp q))]
    by_cases c76 : b = 76
    · subst c76
      rw [if_pos (show nI 76 = 76 from rfl), ct_roomL hT hC (by decide)]
      have : (decide (T 0 2 < 3) && !allB (fun i => !cF T i) (T 0 0)) = false := by
        by_cases d1 : T 0 2 < 3
        · have d2 : mkm (cF T) (T 0 0) = 0 := by
            rcases Nat.eq_zero_or_pos (mkm (cF T) (T 0 0)) with e | e
            · exact e
            · have : (mkm (cF T) (T 0 0) == 0) = false := beq_eq_false_iff_ne.mpr (by omega)
              simp [d1, this] at h
          rw [begins_z.mp d2]; simp
        · rw [decide_eq_false d1]; rfl
      rw [this]; rfl
    · rw [if_neg (show ¬ nI b = 76 from fun q => c76 ((nI_eq (b := 76) (by omega) (by decide)).mp q))]
      by_cases c84 : b = 84
      · subst c84
        have d1 : ¬ T 0 0 < 4 := by intro d; simp [d] at h
        unfold f_X5_isRoomForThing
        rw [if_pos (show nI 84 = 84 from rfl), hC.1, show (4 : Int32) = nI 4 from rfl, if_pos (nI_le (by omega) (by omega))]; rfl
      · rw [if_neg (show ¬ nI b = 84 from fun q => c84 ((nI_eq (b := 84) (by omega) (by decide)).mp q))]
theorem shut_R (hT : wfT T) (hR : RDT u T) {b : Nat} (hb : b ≤ 255) (h : opn T b = false) : f_X7_readPart NN u se (nI b) = some (mk_put u 0 8 (u 0 7)) := by
  have h4 := hT.1
  have hk := hT.2.1
  have h31 := mkm_31 (cF T) (k := T 0 0) (by omega)
  unfold opn at h
  unfold f_X7_readPart
  have f298 : g_X7_readPart_298 NN u se = some (mk_put u 0 8 (u 0 7)) := rfl
  have f215 : (b = 76 → ¬ T 0 2 < 3 ∨ mkm (cF T) (T 0 0) = 0) → g_X7_readPart_215 NN u se (nI b) = some (mk_put u 0 8 (u 0 7)) := by
    intro hc
    unfold g_X7_readPart_215
    by_cases c76 : b = 76
    · rw [if_pos (by rw [c76]; rfl), hR.2.2.1]
      by_cases d1 : T 0 2 < 3
      · rw [if_neg (show ¬ (3 : Int32) ≤ nI (T 0 2) from nI_ge d1 (by decide)), rf_begins hT hR (by decide), Option.bind_some, if_pos ((nI_z h31).mpr ((hc c76).resolve_left (fun q => q d1)))]
        exact f298
      · rw [show (3 : Int32) = nI 3 from rfl, if_pos (show nI 3 ≤ nI (T 0 2) from nI_le (by omega) (by have := hT.2.2.1; omega))]
        exact f298
    · rw [if_neg (show ¬ nI b = 76 from fun q => c76 ((nI_eq (b := 76) (by omega) (by decide)).mp q))]
      exact f298
  have c76 : b = 76 → ¬ T 0 2 < 3 ∨ mkm (cF T) (T 0 0) = 0 := by
    intro e
    subst e
    by_cases d1 : T 0 2 < 3
    · right
      rcases Nat.eq_zero_or_pos (mkm (cF T) (T 0 0)) with e | e
      · exact e
      · have : (mkm (cF T) (T 0 0) == 0) = false := beq_eq_false_iff_ne.mpr (by omega)
        simp [d1, this] at h
    · exact Or.inl d1
  have f123 : g_X7_readPart_123 NN u se (nI b) = some (mk_put u 0 8 (u 0 7)) := by
    unfold g_X7_readPart_123
    by_cases c65 : b = 65
    · rw [if_pos (by rw [c65]; rfl), hR.2.1, hR.1]
      by_cases d2 : T 0 1 < 4
      · have d1 : ¬ 0 < T 0 0 := by intro d; subst c65; simp [d, d2] at h
        rw [if_neg (show ¬ (4 : Int32) ≤ nI (T 0 1) from nI_ge d2 (by decide)), if_pos (show nI (T 0 0) ≤ 0 by rw [show T 0 0 = 0 by omega]; decide)]
        exact f215 c76
      · rw [show (4 : Int32) = nI 4 from rfl, if_pos (show nI 4 ≤ nI (T 0 1) from nI_le (by omega) (by omega))]
        exact f215 c76
    · rw [if_neg (show ¬ nI b = 65 from fun q => c65 ((nI_eq (b := 65) (by omega) (by decide)).mp q))]
      exact f215 c76
  by_cases c84 : b = 84
  · have d1 : ¬ T 0 0 < 4 := by intro d; subst c84; simp [d] at h
    rw [if_pos (by rw [c84]; rfl), hR.1, show (4 : Int32) = nI 4 from rfl, if_pos (show nI 4 ≤ nI (T 0 0) from nI_le (by omega) (by omega))]
    exact f123
  · rw [if_neg (show ¬ nI b = 84 from fun q => c84 ((nI_eq (b := 84) (by omega) (by decide)).mp q))]
    exact f123
theorem part_any (hB : BND c u T n lt p) (hL : ltR c n lt) (hpn : p < n) (fuel : Nat) (hf : n - p < fuel) : OUT sd n lt p fuel c u (f_X7_readPart NN u se (nI (lt p))) := by
  cases ho : opn T (lt p)
  · obtain ⟨f1, rfl⟩ : ∃ f1, fuel = f1 + 1 := ⟨fuel - 1, by omega⟩
    have hb := (hL.2.2 p hpn).2
    obtain ⟨hT, hC, hR, r0, r1, hA⟩ := hB
    obtain ⟨c', x1, x2⟩ := cf_shut (sd := sd) hL r0 r1 hpn (shut_C hT hC hb ho) f1
    rw [shut_R hT hR hb ho, hA.2.2.2.2.2]
    exact Or.inl ⟨p, c', _, by omega, x1, rfl, rfl, x2, kR_0 (kR_rf u) (by decide) (by decide) (by decide) _⟩
  · unfold opn at ho
    rw [Bool.or_eq_true, Bool.or_eq_true] at ho
    rcases ho with (h | h) | h
    · rw [Bool.and_eq_true] at h
      have e := beq_iff_eq.mp h.1
      rw [e]; exact part_T hB hL hpn e (of_decide_eq_true h.2) fuel hf
    · rw [Bool.and_eq_true, Bool.and_eq_true] at h
      have e := beq_iff_eq.mp h.1.1
      rw [e]; exact part_A hB hL hpn e (of_decide_eq_true h.1.2) (of_decide_eq_true h.2) fuel hf
    · rw [Bool.and_eq_true, Bool.and_eq_true] at h
      have e := beq_iff_eq.mp h.1.1
      rw [e]; exact part_L hB hL hpn e (of_decide_eq_true h.1.2) (by have := h.2; simpa using this) fuel hf
theorem read_all : ∀ m p fuel rf (c : CU) (u : TU) (T : NT), n - p ≤ m → BND c u T n lt p → ltR c n lt → n - p < fuel → n - p < rf → ∃ r c' u', RDC sd fuel c p = some (r, c') ∧ lq1 (g_X7_readText_51 NN se) rf u = some (r, u') ∧ kC c c' ∧ kR u u' ∧ ((∃ q, q ≤ n ∧ r = nI q) ∨ (r = -9 ∧ ∃ T', wfT T' ∧ CT0 (c' 3) T' ∧ RDT u' T')) := by
  intro m
  induction m with
  | zero =>
    intro p fuel rf c u T hm hB hL hf hr
    obtain ⟨hT, hC, hR, r0, r1, hA⟩ := hB
    obtain ⟨f1, rfl⟩ : ∃ f1, fuel = f1 + 1 := ⟨fuel - 1, by omega⟩
    obtain ⟨g1, rfl⟩ : ∃ g1, rf = g1 + 1 := ⟨rf - 1, by omega⟩
    have hn := hL.1
    have : p = n := by have := hA.2.1; omega
    subst this
    refine ⟨-9, c, u, ?_, ?_, fun _ _ _ => rfl, kR_rf u, Or.inr ⟨rfl, T, hT, hC, hR⟩⟩
    · unfold RDC
      simp only [lq2]
      unfold g_X6_readText_13 f_X3_isAtEnd
      rw [hL.2.1, if_pos (Int32.le_refl _), if_neg (by rw [r0]; decide), if_pos r1, Option.bind_some, if_neg (by decide)]
    · simp only [lq1]
      unfold g_X7_readText_51
      rw [hA.2.2.2.2.1, if_pos rfl, hA.2.2.1, hA.2.2.2.2.2, if_pos (Int32.le_refl _)]
  | succ m ih =>
    intro p fuel rf c u T hm hB hL hf hr
    by_cases hpn : p < n
    · have hA := hB.2.2.2.2.2
      have hn := hL.1
      obtain ⟨g1, rfl⟩ : ∃ g1, rf = g1 + 1 := ⟨rf - 1, by omega⟩
      have stepR : ∀ u', f_X7_readPart NN u se (nI (lt p)) = some u' → lq1 (g_X7_readText_51 NN se) (g1 + 1) u = lq1 (g_X7_readText_51 NN se) g1 u' := by
        intro u' h
        rw [show lq1 (g_X7_readText_51 NN se) (g1 + 1) u = g_X7_readText_51 NN se (lq1 (g_X7_readText_51 NN se) g1) u from rfl]
        generalize lq1 (g_X7_readText_51 NN se) g1 = rec
        unfold g_X7_readText_51
        rw [hA.2.2.2.2.1, if_pos rfl, hA.2.2.1, hA.2.2.2.2.2, if_neg (nI_ge hpn (by omega)), px_rd (by omega) (by decide), (hA.2.2.2.1 p hpn).1, Option.bind_some, h, Option.bind_some]
      rcases part_any (sd := sd) (se := se) hB hL hpn fuel hf with ⟨q, c', u', h1, h2, h3, h4, h5, h6⟩ | ⟨c', u', T', e, g, h1, h2, h3, h4, h5, h6, h7⟩
      · refine ⟨nI q, c', u', h2, ?_, h5, h6, Or.inl ⟨q, h1, rfl⟩⟩
        rw [stepR u' h3]
        obtain ⟨g2, rfl⟩ : ∃ g2, g1 = g2 + 1 := ⟨g1 - 1, by omega⟩
        simp only [lq1]
        unfold g_X7_readText_51
        rw [h4, if_neg (nI_m9 (by omega))]
      · have he := h5.2.2.2.2.2.2.1
        obtain ⟨r, c2, u2, a1, a2, a3, a4, a5⟩ := ih e g g1 c' u' T' (by omega) h5 (ltR_of hL h6) (by omega) (by omega)
        refine ⟨r, c2, u2, by rw [h3]; exact a1, by rw [stepR u' h4]; exact a2, kC_tr h6 a3, kR_tr h7 a4, a5⟩
    · have : n - p ≤ m := by omega
      exact ih p fuel rf c u T this hB hL hf hr
theorem read_text (hTx : TxA (c 0) u n lt) : ∃ r c' u', f_X6_readText NN c sd = some (r, c') ∧ f_X7_readText NN u se = some (r, u') ∧ kC c c' ∧ kR u u' ∧ ((∃ q, q ≤ n ∧ r = nI q) ∨ (r = -9 ∧ ∃ T', wfT T' ∧ CT0 (c' 3) T' ∧ RDT u' T')) := by
  have hNN : NN = 1000 := rfl
  obtain ⟨hn, t1, t2, t3⟩ := hTx
  obtain ⟨R0, hR0⟩ : ∃ R0, R0 = mk_put (mk_put (c 1) 0 0 0) 0 1 0 := ⟨_, rfl⟩
  obtain ⟨D0, hD0⟩ : ∃ D0, D0 = mk_put (mk_put (mk_put (mk_put (c 3) 0 0 0) 0 1 0) 0 2 0) 0 3 0 := ⟨_, rfl⟩
  obtain ⟨u5, hu5⟩ : ∃ u5, u5 = mk_put (mk_put (mk_put (mk_put (mk_put u 0 7 0) 0 8 (-9)) 0 3 0) 0 4 0) 0 5 0 := ⟨_, rfl⟩
  have eC : f_X6_readText NN c sd = RDC sd NN (mk_set3 (mk_set3 c 1 R0) 3 D0) 0 := by
    rw [hR0, hD0]; rfl
  have eR : f_X7_readText NN u se = if u5 0 6 = 0 then some (0, u5) else (mk_rd (u5 12) 48 0).bind fun v_6 => if v_6 = (67 : Int32) then lq1 (g_X7_readText_51 NN se) NN (mk_put u5 0 7 1) else some (0, u5) := by
    rw [hu5]; rfl
  have K5 : kR u u5 := by
    rw [hu5]
    exact kR_0 (kR_0 (kR_0 (kR_0 (kR_0 (kR_rf u) (by decide) (by decide) (by decide) _) (by decide) (by decide) (by decide) _) (by decide) (by decide) (by decide) _) (by decide) (by decide) (by decide) _) (by decide) (by decide) (by decide) _
  have L0 : ltR (mk_set3 (mk_set3 c 1 R0) 3 D0) n lt := ⟨hn, t1, fun j hj => ⟨(t3 j hj).1, (t3 j hj).2.2⟩⟩
  have k0 : kC c (mk_set3 (mk_set3 c 1 R0) 3 D0) := kC_set _ _ _
  have r0 : (mk_set3 (mk_set3 c 1 R0) 3 D0) 1 0 0 = 0 := by rw [hR0]; rfl
  have e6 : u5 0 6 = nI n := by rw [hu5]; exact t2
  have e12 : u5 12 = u 12 := by rw [hu5]; rfl
  rw [eC, eR, e6]
  rcases Nat.eq_zero_or_pos n with h0 | h0
  · subst h0
    refine ⟨0, mk_set3 (mk_set3 c 1 R0) 3 D0, u5, ?_, by rw [if_pos (by rfl)], k0, K5, Or.inl ⟨0, by omega, rfl⟩⟩
    unfold RDC
    rw [show lq2 (g_X6_readText_13 NN sd) NN (mk_set3 (mk_set3 c 1 R0) 3 D0) (nI 0) = g_X6_readText_13 NN sd (lq2 (g_X6_readText_13 NN sd) 999) (mk_set3 (mk_set3 c 1 R0) 3 D0) (nI 0) from rfl]
    generalize lq2 (g_X6_readText_13 NN sd) 999 = rec
    unfold g_X6_readText_13 f_X3_isAtEnd
    rw [show (mk_set3 (mk_set3 c 1 R0) 3 D0) 0 0 0 = nI 0 from t1, if_pos (Int32.le_refl _), if_pos r0, Option.bind_some, if_pos rfl]
    rfl
  · obtain ⟨b1, b2, b3⟩ := t3 0 h0
    rw [if_neg (nI_ne0 h0 (by omega)), px_rd0 (by decide) (by decide), e12, b2, Option.bind_some]
    by_cases c67 : lt 0 = 67
    · have tk : f_X3_takes NN ((mk_set3 (mk_set3 c 1 R0) 3 D0) 1) ((mk_set3 (mk_set3 c 1 R0) 3 D0) 3) (nI (lt 0)) = some (1, mk_put R0 0 0 1, D0) := by
        unfold f_X3_takes
        rw [if_pos r0, if_pos (by rw [c67]; rfl)]
        rfl
      have go : RDC sd NN (mk_set3 (mk_set3 c 1 R0) 3 D0) 0 = RDC sd 999 (mk_set3 (mk_set3 (mk_set3 (mk_set3 c 1 R0) 3 D0) 1 (mk_put R0 0 0 1)) 3 D0) 1 := by
        unfold RDC
        rw [show lq2 (g_X6_readText_13 NN sd) NN (mk_set3 (mk_set3 c 1 R0) 3 D0) (nI 0) = g_X6_readText_13 NN sd (lq2 (g_X6_readText_13 NN sd) 999) (mk_set3 (mk_set3 c 1 R0) 3 D0) (nI 0) from rfl]
        generalize lq2 (g_X6_readText_13 NN sd) 999 = rec
        unfold g_X6_readText_13 mk_nm
        dsimp only
        rw [L0.2.1, if_neg (nI_ge h0 (by omega)), px_rd (by omega) (by decide), (L0.2.2 0 h0).1, Option.bind_some, tk, Option.bind_some]
        dsimp only
        rw [if_neg (by decide), nI_1]
      rw [go, if_pos (by rw [c67]; rfl)]
      obtain ⟨TE, hTE⟩ : ∃ TE : NT, TE = fun _ _ => 0 := ⟨_, rfl⟩
      have z : ∀ k j, TE k j = 0 := fun _ _ => by rw [hTE]
      have wf : wfT TE := by
        refine ⟨?_, ?_, ?_, fun i hi => ?_, fun a ha => ?_, fun j hj => ?_⟩
        · rw [z]; omega
        · rw [z]; omega
        · rw [z]; omega
        · rw [z] at hi; omega
        · rw [z] at ha; omega
        · rw [z] at hj; omega
      have ct : CT0 D0 TE := by
        refine ⟨?_, ?_, ?_, ?_, fun i hi => ?_, fun a ha => ?_, fun j hj => ?_⟩
        · rw [z, hD0]; rfl
        · unfold trm; rw [z, hD0]; rfl
        · rw [z, hD0]; rfl
        · rw [z, hD0]; rfl
        · rw [z] at hi; omega
        · rw [z] at ha; omega
        · rw [z] at hj; omega
      have rd : RDT (mk_put u5 0 7 1) TE := by
        refine ⟨?_, ?_, ?_, fun i hi => ?_, fun a ha => ?_, fun j hj => ?_⟩
        · rw [z, hu5]; rfl
        · rw [z, hu5]; rfl
        · rw [z, hu5]; rfl
        · rw [z] at hi; omega
        · rw [z] at ha; omega
        · rw [z] at hj; omega
      have at1 : atP (mk_put u5 0 7 1) n lt 1 := by
        refine ⟨hn, h0, e6, fun j hj => ?_, ?_, rfl⟩
        · rw [show (mk_put u5 0 7 1) 12 = u 12 from e12]; exact (t3 j hj).2
        · rw [hu5]; rfl
      obtain ⟨r, c', u', a1, a2, a3, a4, a5⟩ := read_all (sd := sd) (se := se) (n := n) (lt := lt) (n - 1) 1 999 NN (mk_set3 (mk_set3 (mk_set3 (mk_set3 c 1 R0) 3 D0) 1 (mk_put R0 0 0 1)) 3 D0) (mk_put u5 0 7 1) TE (by omega) ⟨wf, ct, rd, rfl, by rw [hR0]; rfl, at1⟩ L0 (by omega) (by omega)
      exact ⟨r, c', u', a1, a2, kC_tr k0 (kC_tr (kC_set _ _ _) a3), kR_tr K5 (kR_tr (kR_0 (kR_rf u5) (by decide) (by decide) (by decide) _) a4), a5⟩
    · have tk : f_X3_takes NN ((mk_set3 (mk_set3 c 1 R0) 3 D0) 1) ((mk_set3 (mk_set3 c 1 R0) 3 D0) 3) (nI (lt 0)) = some (0, mk_put R0 0 0 0, D0) := by
        unfold f_X3_takes
        rw [if_pos r0, if_neg (show ¬ nI (lt 0) = 67 from fun q => c67 ((nI_eq (b := 67) (by omega) (by decide)).mp q))]
        rfl
      refine ⟨0, mk_set3 (mk_set3 (mk_set3 (mk_set3 c 1 R0) 3 D0) 1 (mk_put R0 0 0 0)) 3 D0, u5, ?_, by rw [if_neg (show ¬ nI (lt 0) = 67 from fun q => c67 ((nI_eq (b := 67) (by omega) (by decide)).mp q))], kC_tr k0 (kC_set _ _ _), K5, Or.inl ⟨0, by omega, rfl⟩⟩
      unfold RDC
      rw [show lq2 (g_X6_readText_13 NN sd) NN (mk_set3 (mk_set3 c 1 R0) 3 D0) (nI 0) = g_X6_readText_13 NN sd (lq2 (g_X6_readText_13 NN sd) 999) (mk_set3 (mk_set3 c 1 R0) 3 D0) (nI 0) from rfl]
      generalize lq2 (g_X6_readText_13 NN sd) 999 = rec
      unfold g_X6_readText_13 mk_nm
      dsimp only
      rw [L0.2.1, if_neg (nI_ge h0 (by omega)), px_rd (by omega) (by decide), (L0.2.2 0 h0).1, Option.bind_some, tk, Option.bind_some]
      dsimp only
      rw [if_pos rfl]
      rfl
theorem kk_rel {A : Nat → Int32} {c' : CU} {u' : TU} (hc : kC c c') (hu : kR u u') (h : RelA T A c u) : RelA T A c' u' := by
  obtain ⟨hT, hC, hM, hA, hL, hW, hTx, hAc, h6, h7, hSe⟩ := h
  unfold RelA
  rw [hc 2 (by decide) (by decide), hc 4 (by decide) (by decide), hc 0 (by decide) (by decide), hc 5 (by decide) (by decide), hc 6 (by decide) (by decide), hc 7 (by decide) (by decide), hc 8 (by decide) (by decide)]
  exact ⟨hT, hC, RT_of (fun j hj => hu.2 j (by omega)) (fun k h1 h2 => hu.1 k (by omega) (by omega)) hM, hA, hL, now_of (fun j _ => by rw [hu.1 11 (by decide) (by decide)]) hW, Text_of (hu.2 6 (by decide)) (hu.1 12 (by decide) (by decide)) hTx, Acts_of (hu.2 9 (by decide)) (hu.2 10 (by decide)) (hu.1 13 (by decide) (by decide)) hAc, Slot_of (by rw [hu.1 18 (by decide) (by decide)]) (fun j _ => by rw [hu.1 19 (by decide) (by decide)]) h6, Slot_of (by rw [hu.1 18 (by decide) (by decide)]) (fun j _ => by rw [hu.1 19 (by decide) (by decide)]) h7, Seen_of (hu.2 12 (by decide)) (hu.1 15 (by decide) (by decide)) (hu.1 16 (by decide) (by decide)) hSe⟩
end READALL
theorem st_fault (c0 : CU) (sd : Int64) (u0 : TU) (se : Int64) (hR : Rel c0 sd u0 se) : ∃ (r : Int32) (c1 : CU) (mu1 : TU), f_X6_fault NN c0 sd = some (r, c1) ∧ f_X7_fault NN u0 se = some (r, mu1) ∧ Rel c1 sd mu1 se := by
  obtain ⟨e0, T, A, hA0⟩ := hR
  obtain ⟨n, lt, hTx⟩ := TxA_of hA0.2.2.2.2.2.2.1
  obtain ⟨r, c', u', a1, a2, a3, a4, -⟩ := read_text (sd := sd) (se := se) hTx
  refine ⟨r, c', u', ?_, ?_, e0, T, A, kk_rel a3 a4 hA0⟩
  · unfold f_X6_fault; rw [a1]; rfl
  · unfold f_X7_fault; rw [a2]; rfl
