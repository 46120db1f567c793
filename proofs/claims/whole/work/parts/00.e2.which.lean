/-! step: which -/
theorem lq3_inv {A B w : Type} {b : (A → B → Int32 → Option w) → A → B → Int32 → Option w} (i0 e N : Nat) (I : Nat → A → B → Prop) (fin : A → B → Option w) (hx : ∀ rec a c, I e a c → b rec a c (nI e) = fin a c) (hs : ∀ rec a c i, i0 ≤ i → i < e → I i a c → ∃ a' c', I (i + 1) a' c' ∧ b rec a c (nI i) = rec a' c' (nI (i + 1))) (a0 : A) (c0 : B) (h0 : I i0 a0 c0) (hi : i0 ≤ e) (hN : e - i0 < N) : ∃ a c, I e a c ∧ lq3 b N a0 c0 (nI i0) = fin a c := by
  obtain ⟨k, rfl⟩ : ∃ k, e = i0 + k := ⟨e - i0, by omega⟩
  induction N generalizing i0 k a0 c0 with
  | zero => omega
  | succ N ih =>
    simp only [lq3]
    cases k with
    | zero => exact ⟨a0, c0, h0, hx _ _ _ h0⟩
    | succ k =>
      obtain ⟨a', c', h1, h2⟩ := hs (lq3 b N) a0 c0 i0 (Nat.le_refl _) (by omega) h0
      rw [h2]
      have e1 : i0 + (k + 1) = i0 + 1 + k := by omega
      rw [e1] at hx ⊢
      exact ih (i0 + 1) a' c' h1 k hx (fun rec a c i g1 g2 g3 => hs rec a c i (by omega) (by omega) g3) (by omega) (by omega)
def stW (T : NT) (h w : Nat) : Bool := okW T w && (((w ^^^ trm T) &&& h) == 0)
theorem stW_0 (T : NT) : stW T 0 = okW T := by funext w; unfold stW; simp
def fitB (T : NT) (th dy : Nat → Nat) (P : Nat → Bool) (k : Nat) : Bool := if th k < T 0 0 then wsd T P (th k) 0 == dy k else true
def seenAt (v u : TU) (q : Nat) (th dy : Nat → Nat) : Prop := q ≤ 6 ∧ v 0 0 = nI q ∧ u 0 12 = nI q ∧ ∀ j, j < q → th j < 4 ∧ dy j ≤ 9 ∧ v 1 j = nI (th j) ∧ v 2 j = nI (dy j) ∧ u 15 j = nI (th j) ∧ u 16 j = nI (dy j)
theorem seen_at {v u : TU} (h : SeenR v u) : ∃ q th dy, seenAt v u q th dy := by
  obtain ⟨q, hq, e1, e2, h⟩ := h
  refine ⟨q, fun j => (v 1 j).toNatClampNeg, fun j => (v 2 j).toNatClampNeg, hq, e1, e2, fun j hj => ?_⟩
  obtain ⟨⟨t, t1, t2, t3⟩, d, d1, d2, d3⟩ := h j hj
  dsimp only
  rw [t2, t3, d2, d3, nI_clamp (by omega), nI_clamp (by omega)]
  exact ⟨t1, d1, rfl, rfl, rfl, rfl⟩
section WHICH
variable {T : NT} {u v s : TU} {A : Nat → Int32} {N : Nat} {sd : Int64} {q : Nat} {th dy : Nat → Nat}
theorem ct_wise0 (hT : wfT T) (hC : CT v T) (hN : 700 ≤ N) (P : Nat → Bool) {i : Nat} (hi : i < T 0 0) : f_X5_wiseDay N v (nI (mkm P (2 ^ T 0 0))) (nI i) 0 = some (nI (wsd T P i 0)) := ct_wise (d := 0) hT hC hN P hi (by omega)
theorem rf_wise0 (hT : wfT T) (hR : RT u T) (hN : 700 ≤ N) (P : Nat → Bool) (hP : u 0 11 = nI (mkm (fun x => P (cw T x)) (2 ^ T 0 0))) {i : Nat} (hi : i < T 0 0) : f_X7_wiseBy N u sd (nI i) 0 = some (nI (wsd T P i 0)) := rf_wiseBy (d := 0) hT hR hN P hP hi (by omega)
theorem ct_fits (hT : wfT T) (hC : CT v T) (hN : 700 ≤ N) (hS : seenAt s u q th dy) (P : Nat → Bool) : f_X4_fits N s v (nI (mkm P (2 ^ T 0 0))) = some (if allB (fitB T th dy P) q then 1 else 0) := by
  obtain ⟨hq, e1, -, hj⟩ := hS
  rw [show (some (if allB (fitB T th dy P) q then (1 : Int32) else 0)) = (if allB (fitB T th dy P) q then some 1 else some 0) by split <;> rfl]
  unfold f_X4_fits
  refine lq1_all q N _ _ _ (by omega) (by omega) _ e1 _ _ (fun _ _ => rfl) rfl (fun rec k hk => ?_)
  try dsimp only
  obtain ⟨t4, d9, a1, a2, -, -⟩ := hj k hk
  rw [px_rd (by omega) (by decide), a1, Option.bind_some, Option.bind_some, px_rd (by omega) (by decide), a2]
  unfold fitB
  by_cases ht : th k < T 0 0
  · rw [ct_thing_t hT hC.1 ht, Option.bind_some, if_neg (by decide), ct_wise0 hT hC hN P ht, Option.bind_some, Option.bind_some, if_pos ht]
    have hw := wsd_le (T := T) (P := P) (i := th k) (d := 0) (by omega)
    by_cases c : wsd T P (th k) 0 = dy k
    · rw [if_pos (by rw [c]), if_pos (by rw [c]; exact beq_self_eq_true _)]
    · rw [if_neg (fun z => c ((nI_eq (by omega) (by omega)).mp z)), if_neg (by rw [beq_iff_eq]; exact c)]
  · rw [ct_thing_f hC.1 (Or.inr (nI_le (by omega) (by omega))), Option.bind_some, if_pos rfl, if_neg ht, if_pos rfl]
theorem rf_layStart (hT : wfT T) (hR : RT u T) (hN : 700 ≤ N) {h : Nat} (hh : h < 2 ^ 31) : f_X7_layStart N u sd (nI h) = some (mk_put u 0 11 (nI (mkm (fun x => stW T h (cw T x)) (2 ^ T 0 0)))) := by
  have h4 := hT.1
  have h16 := px_sh16 h4
  unfold f_X7_layStart mk_nm
  refine lq2_for 0 (2 ^ T 0 0) N (fun i => mk_put u 0 11 (nI (mkm (fun x => stW T h (cw T x)) i))) _ (fun rec => ?_) (fun rec i _ hi => ?_) (Nat.zero_le _) (by omega)
  · unfold g_X7_layStart_7
    rw [show (mk_put u 0 11 (nI (mkm (fun x => stW T h (cw T x)) (2 ^ T 0 0)))) 0 0 = nI (T 0 0) from hR.1, px_sh (by omega), if_pos (Int32.le_refl _)]
  · unfold g_X7_layStart_7 g_X7_layStart_47 mk_nm
    dsimp only
    rw [show (mk_put u 0 11 (nI (mkm (fun x => stW T h (cw T x)) i))) 0 0 = nI (T 0 0) from hR.1, px_sh (by omega), if_neg (nI_ge hi (by omega)), rf_isWorld hT (RT_put11 hR _) hN hi, Option.bind_some, rf_truth hT (RT_put11 hR _) hN, Option.bind_some, px_sh (by omega), nI_1]
    rw [show ∀ y, mk_put u 0 11 y 0 11 = y from fun _ => rfl, put_put, put_put, px_or, show (0 : Int32) = nI 0 from rfl, px_or, Nat.or_zero, px_xor, px_and]
    have hz : nI ((i ^^^ cw T (trm T)) &&& h) = nI 0 ↔ ((cw T i ^^^ trm T) &&& h) = 0 := by
      rw [nI_eq (Nat.lt_of_le_of_lt Nat.and_le_right hh) (by decide), ← cw_xor (T := T) i (cw T (trm T)), cw_cw]
    cases c1 : okW T (cw T i)
    · rw [if_pos (by rfl), show mkm (fun x => stW T h (cw T x)) (i + 1) = mkm (fun x => stW T h (cw T x)) i by simp [mkm, stW, c1]]
    · rw [if_neg (by decide)]
      by_cases c2 : ((cw T i ^^^ trm T) &&& h) = 0
      · rw [if_pos (hz.mpr c2), show mkm (fun x => stW T h (cw T x)) i ||| 2 ^ i = mkm (fun x => stW T h (cw T x)) (i + 1) by rw [← mkm_or]; simp [stW, c1, c2]]
      · rw [if_neg (fun z => c2 (hz.mp z)), show mkm (fun x => stW T h (cw T x)) (i + 1) = mkm (fun x => stW T h (cw T x)) i by simp [mkm, stW, c1, c2]]
theorem rf_canBe (hT : wfT T) (hR : RT u T) (hN : 700 ≤ N) (hS : seenAt s u q th dy) {h : Nat} (hh : h < 2 ^ 31) : ∃ y, g_X7_canBe_12 N u sd (nI h) = some (if 0 < prt T (stW T h) ∧ allB (fitB T th dy (stW T h)) q = true then 1 else 0, mk_put u 0 11 y) := by
  have h4 := hT.1
  have h16 := px_sh16 h4
  obtain ⟨hq, -, e2, hj⟩ := hS
  refine ⟨nI (mkm (fun x => stW T h (cw T x)) (2 ^ T 0 0)), ?_⟩
  unfold g_X7_canBe_12
  rw [rf_layStart hT hR hN hh, Option.bind_some]
  have hR' := RT_put11 hR (nI (mkm (fun x => stW T h (cw T x)) (2 ^ T 0 0)))
  have s12 : (mk_put u 0 11 (nI (mkm (fun x => stW T h (cw T x)) (2 ^ T 0 0)))) 0 12 = nI q := e2
  have s15 : (mk_put u 0 11 (nI (mkm (fun x => stW T h (cw T x)) (2 ^ T 0 0)))) 15 = u 15 := rfl
  have s16 : (mk_put u 0 11 (nI (mkm (fun x => stW T h (cw T x)) (2 ^ T 0 0)))) 16 = u 16 := rfl
  have s11 : (mk_put u 0 11 (nI (mkm (fun x => stW T h (cw T x)) (2 ^ T 0 0)))) 0 11 = nI (mkm (fun x => stW T h (cw T x)) (2 ^ T 0 0)) := rfl
  generalize mk_put u 0 11 (nI (mkm (fun x => stW T h (cw T x)) (2 ^ T 0 0))) = w at *
  obtain ⟨f1, f0⟩ := lq2_flag (b := g_X7_canBe_79 N w sd) q N (fitB T th dy (stW T h)) (fun x4 => (mk_z x4).bind fun _ => some (x4, w)) (by omega) (by omega) _ s12 (fun rec79 _ x5 => (mk_rd (w 15) 6 x5).bind fun v_1 => (f_X7_isThing N w sd v_1).bind fun r_2 => if r_2 = 0 then (g_X7_canBe_129 N w sd rec79 x5) else (mk_rd (w 15) 6 x5).bind fun v_3 => (f_X7_wiseBy N w sd v_3 (0 : Int32)).bind fun r_4 => (mk_rd (w 16) 6 x5).bind fun v_5 => if r_4 = v_5 then (g_X7_canBe_129 N w sd rec79 x5) else rec79 (0 : Int32) (x5 + (1 : Int32))) (fun _ _ _ => rfl) (fun rec79 k hk => by
    obtain ⟨t4, d9, -, -, a1, a2⟩ := hj k hk
    unfold g_X7_canBe_129
    rw [s15, s16, px_rd (by omega) (by decide), a1, Option.bind_some, Option.bind_some, px_rd (by omega) (by decide), a2]
    unfold fitB
    by_cases ht : th k < T 0 0
    · rw [rf_thing_t hT hR' ht, Option.bind_some, if_neg (by decide), rf_wise0 hT hR' hN (stW T h) s11 ht, Option.bind_some, Option.bind_some, if_pos ht]
      have hw := wsd_le (T := T) (P := stW T h) (i := th k) (d := 0) (by omega)
      by_cases c : wsd T (stW T h) (th k) 0 = dy k
      · rw [if_pos (by rw [c]), if_pos (by rw [c]; exact beq_self_eq_true _)]
      · rw [if_neg (fun z => c ((nI_eq (by omega) (by omega)).mp z)), if_neg (by rw [beq_iff_eq]; exact c)]
    · rw [rf_thing_f hT hR' (Or.inr (nI_le (by omega) (by omega))), Option.bind_some, if_pos rfl, if_neg ht, if_pos rfl])
  have hp := prt_le hT (stW T h)
  have e : prt T (stW T h) = sm (fun x => if stW T h (cw T x) then wt T (cw T x) else 0) (2 ^ T 0 0) := by
    unfold prt; rw [← sm_cw hT]
  refine lq2_up (2 ^ T 0 0) N (fun j => nI (sm (fun x => if stW T h (cw T x) then wt T (cw T x) else 0) j)) _ (by omega) (by omega) _ (by rw [hR'.1, px_sh (by omega)]) _ _ (fun _ _ _ => rfl) ?_ (fun rec j hjj => ?_)
  · try dsimp only
    rw [← e, f1, f0]
    by_cases c : 0 < prt T (stW T h)
    · rw [if_neg (show ¬ nI (prt T (stW T h)) ≤ 0 from nI_nle c (by omega))]
      by_cases c2 : allB (fitB T th dy (stW T h)) q = true
      · rw [if_pos c2, if_pos ⟨c, c2⟩]; rfl
      · rw [if_neg c2, if_neg (fun z => c2 z.2)]; rfl
    · rw [if_pos (show nI (prt T (stW T h)) ≤ 0 by rw [show prt T (stW T h) = 0 by omega]; decide), if_neg (fun z => c z.1)]; rfl
  · try dsimp only
    rw [s11, rf_has (mkm_31 _ (by omega)) (by omega), Option.bind_some, mkm_bit, rf_partsOf hT hR' hN hjj, Option.bind_some]
    simp only [sm, decide_eq_true hjj, Bool.true_and]
    cases stW T h (cw T j)
    · rw [if_pos (by rfl)]; rw [px_0, nI_add]; rfl
    · rw [if_neg (by decide), nI_add]; rfl
theorem okW_full (hT : wfT T) : okW T (2 ^ T 0 0 - 1) = true := by
  have key : ∀ j, j ≤ T 0 2 → okL T (2 ^ T 0 0 - 1) j = true := by
    intro j
    induction j with
    | zero => intro _; rfl
    | succ j ih =>
      intro hj
      obtain ⟨l1, l2⟩ := hT.2.2.2.2.2 j (by omega)
      simp only [okL]
      rw [ih (by omega), full_bit, decide_eq_true l1]; rfl
  exact key _ (Nat.le_refl _)
theorem wt_full (hT : wfT T) : 0 < wt T (2 ^ T 0 0 - 1) := by
  have key : ∀ i, i ≤ T 0 0 → 0 < wtL T (2 ^ T 0 0 - 1) i := by
    intro i
    induction i with
    | zero => intro _; simp [wtL]
    | succ i ih =>
      intro hi
      have h3 := (hT.2.2.2.1 i (by omega)).2.2.2.1
      simp only [wtL]
      rw [full_bit, decide_eq_true (by omega : i < T 0 0)]
      exact Nat.mul_pos (ih (by omega)) (by simp; omega)
  exact key _ (Nat.le_refl _)
theorem prt_ok (hT : wfT T) : 0 < prt T (okW T) := by
  have h1 : 1 ≤ 2 ^ T 0 0 := Nat.two_pow_pos _
  have key : ∀ (g : Nat → Nat) K i, i < K → g i ≤ sm g K := by
    intro g K i hi
    induction K with
    | zero => omega
    | succ K ih =>
      simp only [sm]
      rcases (show i < K ∨ i = K by omega) with h | rfl
      · have := ih h; omega
      · omega
  have := key (fun w => if okW T w then wt T w else 0) (2 ^ T 0 0) (2 ^ T 0 0 - 1) (by omega)
  simp only [okW_full hT, if_true] at this
  have := wt_full hT
  unfold prt
  omega
end WHICH
theorem st_which (c0 : CU) (sd : Int64) (u0 : TU) (se : Int64) (hR : Rel c0 sd u0 se) : ∃ (r : Int32) (mu1 : TU), f_X6_which NN c0 sd = some r ∧ f_X7_which NN u0 se = some (r, mu1) ∧ Rel c0 sd mu1 se := by
  have hNN : NN = 1000 := rfl
  obtain ⟨e0, T, A, hA0⟩ := id hR
  obtain ⟨hT, hC, hM, hA, hL, hW, hTx, hAc, h6, h7, hSe⟩ := id hA0
  have h4 := hT.1
  have h16 := px_sh16 h4
  obtain ⟨q, th, dy, hS⟩ := seen_at hSe
  obtain ⟨f0, hf0⟩ : ∃ f0 : Bool, f0 = allB (fitB T th dy (okW T)) q := ⟨_, rfl⟩
  obtain ⟨pt, hpt⟩ : ∃ pt : Nat → Bool, pt = fun t => decide (0 < prt T (stW T (2 ^ t))) && allB (fitB T th dy (stW T (2 ^ t))) q := ⟨_, rfl⟩
  obtain ⟨pp, hpp⟩ : ∃ pp : Nat → Bool, pp = fun t => if t = 4 then f0 else decide (t < T 0 0) && pt t := ⟨_, rfl⟩
  have efin : (if f0 then 16 else 0) ||| mkm pt (T 0 0) = mkm pp 5 := by
    apply Nat.eq_of_testBit_eq
    intro i
    rw [Nat.testBit_or, mkm_bit, mkm_bit, hpp]
    dsimp only
    by_cases hi : i = 4
    · subst hi
      rw [if_pos rfl, decide_eq_false (show ¬ 4 < T 0 0 by omega)]
      cases f0 <;> rfl
    · rw [if_neg hi, show Nat.testBit (if f0 = true then 16 else 0) i = false by
        cases f0
        · simp
        · rw [if_pos rfl, show 16 = 2 ^ 4 from rfl, Nat.testBit_two_pow]; exact decide_eq_false (fun z => hi z.symm)]
      by_cases h5 : i < T 0 0
      · rw [decide_eq_true h5, decide_eq_true (show i < 5 by omega)]; simp
      · rw [decide_eq_false h5]; simp
  have rI : ∀ w, scr u0 w → seenAt (c0 8) w q th dy := fun w hw => ⟨hS.1, hS.2.1, by rw [hw.2 12 (by decide)]; exact hS.2.2.1, fun j hj => by rw [hw.1 15 (by decide) (by decide), hw.1 16 (by decide) (by decide)]; exact hS.2.2.2 j hj⟩
  have ref : ∃ w, scr u0 w ∧ f_X7_which NN u0 se = some (nI (mkm pp 5), w) := by
    unfold f_X7_which
    obtain ⟨w, x, ⟨hw, hx⟩, h2⟩ := lq3_inv (b := g_X7_which_4 NN se) 0 5 NN (fun i w x => scr u0 w ∧ x = nI (mkm pp i)) (fun w x => some (x, w)) (fun rec w x _ => by
      unfold g_X7_which_4
      rw [if_pos (by decide)]) (fun rec w x i _ hi ⟨hw, hx⟩ => by
      have hR' := scr_RT hw hM
      have go : ∀ h, h < 2 ^ 31 → (0 < prt T (stW T h) ∧ allB (fitB T th dy (stW T h)) q = true ↔ pp i = true) → (f_X7_canBe NN w se (nI i) = g_X7_canBe_12 NN w se (nI h)) → ∃ a' c', (scr u0 a' ∧ c' = nI (mkm pp (i + 1))) ∧ g_X7_which_23 NN w se rec (nI i) x = rec a' c' (nI (i + 1)) := by
        intro h hh hb hc
        obtain ⟨y, hy⟩ := rf_canBe (sd := se) (N := NN) hT hR' (by decide) (rI w hw) hh
        refine ⟨mk_put w 0 11 y, nI (mkm pp (i + 1)), ⟨scr_put hw y, rfl⟩, ?_⟩
        unfold g_X7_which_23 g_X7_which_37
        rw [hc, hy, Option.bind_some]
        dsimp only
        rw [hx, px_sh (by omega), px_or, show nI (mkm pp i) ||| (0 : Int32) = nI (mkm pp i) by rw [px_0, px_or, Nat.or_zero], nI_1]
        by_cases c : pp i = true
        · rw [if_pos (hb.mpr c), if_neg (by decide), show mkm pp i ||| 2 ^ i = mkm pp (i + 1) by rw [← mkm_or, if_pos c]]
        · rw [if_neg (fun z => c (hb.mp z)), if_pos rfl, show mkm pp (i + 1) = mkm pp i by simp [mkm, c]]
      unfold g_X7_which_4
      rw [show (5 : Int32) = nI 5 from rfl, if_neg (nI_ge hi (by decide))]
      by_cases h44 : i = 4
      · subst h44
        rw [if_pos (by rfl)]
        refine go 0 (by decide) ?_ ?_
        · rw [stW_0, hpp]
          dsimp only
          rw [if_pos rfl, hf0]
          exact ⟨fun z => z.2, fun z => ⟨prt_ok hT, z⟩⟩
        · unfold f_X7_canBe
          rw [if_pos (by rfl)]; rfl
      · have i4 : i < 4 := by omega
        rw [if_neg (show ¬ nI i = 4 from fun z => h44 ((nI_eq (b := 4) (by omega) (by decide)).mp z))]
        by_cases ht : i < T 0 0
        · rw [rf_thing_t hT hR' ht, Option.bind_some, if_neg (by decide)]
          refine go (2 ^ i) (Nat.pow_lt_pow_right (by decide) (by omega)) ?_ ?_
          · rw [hpp]
            dsimp only
            rw [if_neg h44, decide_eq_true ht, hpt]
            simp
          · unfold f_X7_canBe
            rw [if_neg (show ¬ nI i = 4 from fun z => h44 ((nI_eq (b := 4) (by omega) (by decide)).mp z)), px_sh (by omega)]
        · rw [rf_thing_f hT hR' (Or.inr (nI_le (by omega) (by omega))), Option.bind_some, if_pos rfl]
          refine ⟨w, nI (mkm pp (i + 1)), ⟨hw, rfl⟩, ?_⟩
          unfold g_X7_which_37
          rw [hx, px_0, px_or, Nat.or_zero, nI_1, show mkm pp (i + 1) = mkm pp i by simp only [mkm]; rw [hpp]; simp [h44, ht]]) u0 0 ⟨⟨fun _ _ _ => rfl, fun _ _ => rfl⟩, rfl⟩ (by omega) (by omega)
    exact ⟨w, hw, by rw [← hx]; exact h2⟩
  obtain ⟨w, hw, ref⟩ := ref
  have lp : ∀ b : Nat, lq2 (g_X6_which_30 NN c0 sd) NN (nI b) (nI 0) = some (nI (b ||| mkm pt (T 0 0))) := by
    intro b
    have key := lq2_up (b := g_X6_which_30 NN c0 sd) (T 0 0) NN (fun i => nI (b ||| mkm pt i)) (some (nI (b ||| mkm pt (T 0 0)))) (by omega) (by omega) _ hC.1.1 _ _ (fun _ _ _ => rfl) rfl (fun rec i hi => by
      try dsimp only
      have hp := prt_le hT (stW T (2 ^ i))
      have e1 : mkm (fun w => okW T w && (((w ^^^ trm T) &&& 2 ^ i) == 0)) (2 ^ T 0 0) = mkm (stW T (2 ^ i)) (2 ^ T 0 0) := rfl
      rw [hC.2.1, hC.1.2.1, px_sh (by omega), ct_like hT hC.1 (by decide) _ (Nat.pow_lt_pow_right (by decide) (by omega)), Option.bind_some, e1, ct_prt hT hC (by decide), Option.bind_some, ct_fits hT hC (by decide) hS, Option.bind_some, px_or]
      have ep : pt i = (decide (0 < prt T (stW T (2 ^ i))) && allB (fitB T th dy (stW T (2 ^ i))) q) := by rw [hpt]
      by_cases c1 : prt T (stW T (2 ^ i)) = 0
      · rw [if_pos (by rw [c1]; rfl), show mkm pt (i + 1) = mkm pt i by simp [mkm, ep, c1]]
      · rw [if_neg (fun z => c1 ((nI_z (by omega)).mp z))]
        cases c2 : allB (fitB T th dy (stW T (2 ^ i))) q
        · rw [if_pos (by rfl), show mkm pt (i + 1) = mkm pt i by simp [mkm, ep, c2]]
        · rw [if_neg (by decide), Nat.or_assoc, show mkm pt i ||| 2 ^ i = mkm pt (i + 1) by rw [← mkm_or, ep, c2, decide_eq_true (show 0 < prt T (stW T (2 ^ i)) by omega)]; rfl])
    have e0 : b ||| mkm pt 0 = b := Nat.or_zero b
    try dsimp only at key
    rw [e0] at key
    exact key
  refine ⟨nI (mkm pp 5), w, ?_, ref, e0, T, A, scr_rel hw hA0⟩
  unfold f_X6_which
  rw [hC.2.1, ct_fits hT hC (by decide) hS, Option.bind_some, ← hf0, ← efin]
  cases f0
  · rw [if_pos (by rfl)]; exact lp 0
  · rw [if_neg (by decide)]; exact lp 16
