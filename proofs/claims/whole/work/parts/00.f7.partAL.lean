/-! an asker's part, a link's part -/
def rA2 (N : Nat) (sd : Int64) (w : TU) : Option TU := (mk_rd (w 7) 4 (w 0 4)).bind fun v => rS N sd w v ((w 0 3) - 1) (w 0 4) 4 8 (fun w6 => some (mk_put w6 0 4 (w6 0 4 + 1)))
def rA1 (N : Nat) (sd : Int64) (w : TU) : Option TU := rS N sd w (nI 0) ((w 0 3) - 1) (w 0 4) 4 7 (rA2 N sd)
def mA (t f0 i f : Nat) : Bool := if i = 0 then decide (0 ≤ f) && decide (f ≤ t - 1) else decide (f0 ≤ f) && decide (f ≤ t - 1)
section PARTA
variable {T : NT} {u w : TU} {c : CU} {sd se : Int64} {n p i a q t : Nat} {lt : Nat → Nat} {N : Nat}
theorem rp_A (h4 : u 0 4 = nI a) (ha : a < 4) (h3 : u 0 3 = nI t) (ht : 0 < t) (ht4 : t ≤ 4) : f_X7_readPart N u sd (nI 65) = rA1 N sd (mk_put u 0 7 (u 0 7 + 1)) := by
  unfold f_X7_readPart g_X7_readPart_123
  rw [if_neg (show ¬ nI 65 = 84 by decide), if_pos (show nI 65 = 65 from rfl), h4, if_neg (show ¬ (4 : Int32) ≤ nI a from nI_ge ha (by decide)), h3, if_neg (nI_nle ht (by omega))]
  rfl
theorem rA2_F (h : w 0 8 = nI q) (hq : q < 2 ^ 31) (h4 : w 0 4 = nI a) (ha : a < 4) {x : Nat} (hx : w 7 a = nI x) (hx2 : x < 100) : ∃ w', rA2 N sd w = some w' ∧ w' 0 8 = nI q ∧ kR w w' := by
  unfold rA2
  rw [h4, px_rd ha (by decide), hx, Option.bind_some, rS_F h hq (by omega) _ ha (by decide)]
  exact ⟨_, rfl, h, kR_0 (kR_p (kR_rf w) (by decide) (by decide) _ _) (by decide) (by decide) (by decide) _⟩
theorem mf_A {R D : TU} {f0 : Nat} (hT : wfT T) (hC : CT0 D T) (ht : 0 < T 0 0) (hI : inP R 65 i) (hf : 0 < i → R 1 0 = nI f0) (hf9 : f0 ≤ 9) : ∀ f, f ≤ 9 → f_X3_mayFollow NN R D (nI f) = some (if mA (T 0 0) f0 i f then 1 else 0) := by
  intro f f9
  have h4 := hT.1
  obtain ⟨r0, r1, r2, i5, -, -⟩ := hI
  unfold f_X3_mayFollow
  rw [r1, if_pos (show nI 65 = 65 from rfl), r2]
  by_cases c1 : f < T 0 0
  · rw [ct_thing_t hT hC c1, Option.bind_some, if_neg (show ¬ (1 : Int32) = 0 by decide)]
    by_cases hi : i = 0
    · subst hi
      rw [show mA (T 0 0) f0 0 f = (decide (0 ≤ f) && decide (f ≤ T 0 0 - 1)) from rfl, if_pos (show nI 0 = 0 from rfl), decide_eq_true (Nat.zero_le f), decide_eq_true (show f ≤ T 0 0 - 1 by omega)]; rfl
    · rw [if_neg (nI_ne0 (by omega) (by omega)), px_rd0 (by decide) (by decide), hf (by omega), Option.bind_some]
      unfold mA
      rw [if_neg hi, decide_eq_true (show f ≤ T 0 0 - 1 by omega)]
      by_cases c2 : f0 ≤ f
      · rw [if_neg (nI_nlt c2 (by omega)), decide_eq_true c2]; rfl
      · rw [if_pos (nI_lt (by omega) (by omega)), decide_eq_false c2]; rfl
  · rw [ct_thing_f hC (Or.inr (nI_le (by omega) (by omega))), Option.bind_some, if_pos rfl]
    unfold mA
    rw [decide_eq_false (show ¬ f ≤ T 0 0 - 1 by omega)]
    simp
theorem RDT_A {g : Nat → Nat} (hR : RDT u T) (h3 : w 0 3 = u 0 3) (h4 : w 0 4 = nI (T 0 1 + 1)) (h5 : w 0 5 = u 0 5) (h6 : w 6 = u 6) (h7 : w 7 = upd (u 7) (T 0 1) (nI (g 0))) (h8 : w 8 = upd (u 8) (T 0 1) (nI (g 1))) (h9 : w 9 = u 9) (h10 : w 10 = u 10) : RDT w (aA T g) := by
  obtain ⟨e1, e2, e3, e4, e5, e6⟩ := hR
  have e : ∀ k j, k ≠ 0 → k ≠ 6 → k ≠ 7 → aA T g k j = T k j := fun k j g0 g6 g7 => by unfold aA; rw [if_neg g0, if_neg (fun q => by omega)]
  refine ⟨by rw [h3]; exact e1, h4, by rw [h5]; exact e3, fun i hi => ?_, fun b hb => ?_, fun j hj => ?_⟩
  · rw [h6, e 1 _ (by decide) (by decide) (by decide), e 2 _ (by decide) (by decide) (by decide), e 3 _ (by decide) (by decide) (by decide), e 4 _ (by decide) (by decide) (by decide), e 5 _ (by decide) (by decide) (by decide)]; exact e4 i hi
  · have hb' : b < T 0 1 + 1 := hb
    rw [h7, h8]
    by_cases g : b = T 0 1
    · rw [g, aA_6, aA_7, upd_s, upd_s]; exact ⟨rfl, rfl⟩
    · rw [aA_o (by decide) g, aA_o (by decide) g, upd_n _ g, upd_n _ g]; exact e5 b (by omega)
  · rw [h9, h10, e 8 _ (by decide) (by decide) (by decide), e 9 _ (by decide) (by decide) (by decide)]; exact e6 j hj
theorem part_A (hB : BND c u T n lt p) (hL : ltR c n lt) (hpn : p < n) (h65 : lt p = 65) (ht : 0 < T 0 0) (ha : T 0 1 < 4) (fuel : Nat) (hf : n - p < fuel) : OUT sd n lt p fuel c u (f_X7_readPart NN u se (nI 65)) := by
  obtain ⟨hT, hC, hR, r0, r1, hA⟩ := hB
  have hn := hL.1
  have t4 := hT.1
  obtain ⟨f1, rfl⟩ : ∃ f1, fuel = f1 + 1 := ⟨fuel - 1, by omega⟩
  have op := cf_open (sd := sd) hL r0 r1 hpn (by omega) (by
    unfold f_X3_mayOpen f_X5_isRoomForAsker
    rw [h65, if_pos (show nI 65 = 65 from rfl), hC.1, if_neg (nI_nle ht (by omega)), hC.2.2.1, show (4 : Int32) = nI 4 from rfl, if_neg (nI_ge ha (by decide))]; rfl) f1
  rw [h65] at op
  have k0 : kC c (mk_set3 (mk_set3 c 1 (mk_put (mk_put (c 1) 0 1 (nI 65)) 0 2 0)) 3 (c 3)) := kC_set _ _ _
  have I0 : inP ((mk_set3 (mk_set3 c 1 (mk_put (mk_put (c 1) 0 1 (nI 65)) 0 2 0)) 3 (c 3)) 1) 65 0 := ⟨r0, rfl, rfl, by decide, by decide, by decide⟩
  have D0 : (mk_set3 (mk_set3 c 1 (mk_put (mk_put (c 1) 0 1 (nI 65)) 0 2 0)) 3 (c 3)) 3 = c 3 := rfl
  generalize mk_set3 (mk_set3 c 1 (mk_put (mk_put (c 1) 0 1 (nI 65)) 0 2 0)) 3 (c 3) = c1 at *
  rw [rp_A hR.2.1 ha hR.1 ht t4, hA.2.2.2.2.2, nI_1]
  have A0 := atP_7 hA (by omega)
  have K0 : kR u (mk_put u 0 7 (nI (p + 1))) := kR_0 (kR_rf u) (by decide) (by decide) (by decide) _
  have U3 : (mk_put u 0 7 (nI (p + 1))) 0 3 = nI (T 0 0) := hR.1
  have U4 : (mk_put u 0 7 (nI (p + 1))) 0 4 = nI (T 0 1) := hR.2.1
  have U5 : (mk_put u 0 7 (nI (p + 1))) 0 5 = u 0 5 := rfl
  have U6 : ∀ k, 6 ≤ k → k ≤ 10 → (mk_put u 0 7 (nI (p + 1))) k = u k := fun k h1 _ => by unfold mk_put; rw [if_neg (by omega)]
  generalize mk_put u 0 7 (nI (p + 1)) = u1 at *
  obtain ⟨f2, rfl⟩ : ∃ f2, f1 = f2 + 1 := ⟨f1 - 1, by omega⟩
  have M0 := mf_A (f0 := 0) hT (show CT0 (c1 3) T by rw [D0]; exact hC) ht I0 (fun q => absurd q (by decide)) (by omega)
  have em : nI (T 0 0) - 1 = nI (T 0 0 - 1) := by rw [px_1, pk_sub ht]
  unfold rA1
  rw [U3, U4, em]
  cases h0 : acc n lt (mA (T 0 0) 0 0) (p + 1) with
  | none =>
    obtain ⟨c', x1, x2⟩ := cf_none (sd := sd) (ltR_of hL k0) I0 M0 (by omega) h0 f2
    refine OUT_F (by omega) (op.trans x1) k0 x2 K0 ?_
    rw [rS_no A0 (lo := 0) (hi := T 0 0 - 1) (by decide) (by omega) h0 ha (by decide)]
    obtain ⟨w', a, b, d⟩ := rA2_F (N := NN) (sd := se) (w := mk_put (mk_put u1 0 8 (nI (p + 1))) 7 (T 0 1) (nI 0)) (q := p + 1) rfl (by omega) U4 ha (x := 0) (upd_s _ _ _) (by decide)
    exact ⟨w', a, b, kR_tr (kR_p (kR_0 (kR_rf u1) (by decide) (by decide) (by decide) _) (by decide) (by decide) _ _) d⟩
  | some a0 =>
    obtain ⟨q0, -, a09, ok0⟩ := acc_some h0
    obtain ⟨c2, x1, I1, D1, k1, g0, -⟩ := cf_mid (sd := sd) (ltR_of hL k0) I0 M0 h0 (by decide) f2
    have op1 := op.trans x1
    have kk1 := kC_tr k0 k1
    rw [rS_ok A0 (lo := 0) (hi := T 0 0 - 1) (by decide) (by omega) h0 ha (by decide)]
    have A1 := atP_p (atP_7 A0 (by omega)) (c := 7) (by decide) (by decide) (T 0 1) (nI a0)
    have K1 := kR_p (kR_0 K0 (j := 7) (by decide) (by decide) (by decide) (nI (p + 1 + 1))) (c := 7) (by decide) (by decide) (T 0 1) (nI a0)
    obtain ⟨f3, rfl⟩ : ∃ f3, f2 = f3 + 1 := ⟨f2 - 1, by omega⟩
    have C2 : c2 3 = c 3 := D1.trans D0
    have M1 := mf_A hT (show CT0 (c2 3) T by rw [C2]; exact hC) ht I1 (fun _ => g0) a09
    unfold rA2
    rw [show (mk_put (mk_put u1 0 7 (nI (p + 1 + 1))) 7 (T 0 1) (nI a0)) 0 4 = nI (T 0 1) from U4, px_rd ha (by decide), show (mk_put (mk_put u1 0 7 (nI (p + 1 + 1))) 7 (T 0 1) (nI a0)) 7 (T 0 1) = nI a0 from upd_s _ _ _, Option.bind_some, show (mk_put (mk_put u1 0 7 (nI (p + 1 + 1))) 7 (T 0 1) (nI a0)) 0 3 = nI (T 0 0) from U3, em]
    cases h1 : acc n lt (mA (T 0 0) a0 1) (p + 1 + 1) with
    | none =>
      obtain ⟨c', y1, y2⟩ := cf_none (sd := sd) (ltR_of hL kk1) I1 M1 (by omega) h1 f3
      refine OUT_F (by omega) (op1.trans y1) kk1 y2 K1 ?_
      rw [rS_no A1 (lo := a0) (hi := T 0 0 - 1) (by omega) (by omega) h1 ha (by decide)]
      exact ⟨_, rfl, rfl, kR_0 (kR_p (kR_0 (kR_rf _) (by decide) (by decide) (by decide) _) (by decide) (by decide) _ _) (by decide) (by decide) (by decide) _⟩
    | some a1 =>
      obtain ⟨q1, -, a19, ok1⟩ := acc_some h1
      have b1 : a0 ≤ a1 ∧ a1 ≤ T 0 0 - 1 := by simpa [mA] using ok1
      obtain ⟨g, hg⟩ : ∃ g : Nat → Nat, g = fun j => if j = 0 then a0 else a1 := ⟨_, rfl⟩
      obtain ⟨e0, e1⟩ : g 0 = a0 ∧ g 1 = a1 := by rw [hg]; exact ⟨rfl, rfl⟩
      obtain ⟨c3, s1, s2, s3, s4, k5⟩ := cf_lastA (sd := sd) (show CT0 (c2 3) T by rw [C2]; exact hC) ha (ltR_of hL kk1) I1 M1 (g := g) (by rw [e1]; exact h1) (by rw [e0]; exact g0) f3
      rw [rS_ok A1 (lo := a0) (hi := T 0 0 - 1) (by omega) (by omega) h1 ha (by decide)]
      have A2 := atP_p (atP_7 A1 (by omega)) (c := 8) (by decide) (by decide) (T 0 1) (nI a1)
      have K2 := kR_p (kR_0 K1 (j := 7) (by decide) (by decide) (by decide) (nI (p + 1 + 1 + 1))) (c := 8) (by decide) (by decide) (T 0 1) (nI a1)
      refine Or.inr ⟨c3, _, aA T g, p + 1 + 1 + 1, f3, by omega, by omega, op1.trans s1, rfl, ⟨aA_wf hT ha (by omega) (by omega), s4, ?_, s2, s3, atP_c A2 (by decide) _⟩, kC_tr kk1 k5, kR_0 K2 (by decide) (by decide) (by decide) _⟩
      refine RDT_A hR ?_ ?_ U5 (U6 6 (by decide) (by decide)) ?_ ?_ (U6 9 (by decide) (by decide)) (U6 10 (by decide) (by decide))
      · exact U3.trans hR.1.symm
      · show u1 0 4 + 1 = _; rw [U4, nI_1]
      · show upd (u1 7) (T 0 1) (nI a0) = _; rw [U6 7 (by decide) (by decide), e0]
      · show upd (u1 8) (T 0 1) (nI a1) = _; rw [U6 8 (by decide) (by decide), e1]
end PARTA
def rL3 (x y : Int32) (w : TU) : Option TU := (mk_ix 3 (w 0 5)).bind fun _ => (mk_ix 3 (mk_put w 9 ((w 0 5).toNatClampNeg) x 0 5)).bind fun _ => some (mk_put (mk_put (mk_put w 9 ((w 0 5).toNatClampNeg) x) 10 ((mk_put w 9 ((w 0 5).toNatClampNeg) x 0 5).toNatClampNeg) y) 0 5 ((mk_put (mk_put w 9 ((w 0 5).toNatClampNeg) x) 10 ((mk_put w 9 ((w 0 5).toNatClampNeg) x 0 5).toNatClampNeg) y 0 5) + 1))
def rL1 (N : Nat) (sd : Int64) (w : TU) : Option TU := (f_X7_begins N w sd).bind fun r_3 => (f_X7_figureOf N w sd r_3).bind fun r_4 => (f_X7_mayLink N r_4.2 sd r_4.1).bind fun r_5 => (f_X7_figureOf N r_4.2 sd r_5).bind fun r_6 => rL3 r_4.1 r_6.1 r_6.2
section PARTL
variable {T : NT} {u w : TU} {c : CU} {sd se : Int64} {n p i a q t : Nat} {lt : Nat → Nat} {N : Nat}
theorem rL3_s {x y : Int32} {l : Nat} (h5 : w 0 5 = nI l) (hl : l < 3) : rL3 x y w = some (mk_put (mk_put (mk_put w 9 l x) 10 l y) 0 5 (nI (l + 1))) := by
  unfold rL3
  rw [h5, px_ix hl (by decide), Option.bind_some, nI_clamp (by omega), show mk_put w 9 l x 0 5 = nI l from h5, px_ix hl (by decide), Option.bind_some, nI_clamp (by omega), show mk_put (mk_put w 9 l x) 10 l y 0 5 = nI l from h5, nI_1]
theorem rp_L (hT : wfT T) (hR : RDT u T) (hN : 700 ≤ N) (hl : T 0 2 < 3) (hb : mkm (cF T) (T 0 0) ≠ 0) : f_X7_readPart N u sd (nI 76) = rL1 N sd (mk_put u 0 7 (u 0 7 + 1)) := by
  have h31 := mkm_31 (cF T) (k := T 0 0) (by have := hT.1; omega)
  unfold f_X7_readPart g_X7_readPart_123 g_X7_readPart_215
  rw [if_neg (show ¬ nI 76 = 84 by decide), if_neg (show ¬ nI 76 = 65 by decide), if_pos (show nI 76 = 76 from rfl), hR.2.2.1, if_neg (show ¬ (3 : Int32) ≤ nI (T 0 2) from nI_ge hl (by decide)), rf_begins hT hR hN, Option.bind_some, if_neg (fun q => hb ((nI_z h31).mp q))]
  rfl
theorem mf_L0 {R D : TU} (hT : wfT T) (hC : CT0 D T) (hI : inP R 76 0) : ∀ f, f ≤ 9 → f_X3_mayFollow NN R D (nI f) = some (if (mkm (cF T) (T 0 0)).testBit f then 1 else 0) := by
  intro f f9
  obtain ⟨r0, r1, r2, i5, -, -⟩ := hI
  unfold f_X3_mayFollow
  rw [r1, if_neg (show ¬ nI 76 = 65 by decide), if_neg (show ¬ nI 76 = 84 by decide), r2, if_pos (show nI 0 = 0 from rfl), ct_canFrom hT hC (by decide) f9, Option.bind_some, mkm_bit]
  have e : cF T f = (decide (f < T 0 0) && cF T f) := by
    by_cases h : f < T 0 0
    · rw [decide_eq_true h]; rfl
    · rw [cF_ge (by omega)]; simp
  rw [← e]
  cases cF T f <;> rfl
theorem mf_L1 {R D : TU} {f0 : Nat} (hT : wfT T) (hC : CT0 D T) (hI : inP R 76 1) (hf : R 1 0 = nI f0) (hf0 : f0 ≤ 9) : ∀ f, f ≤ 9 → f_X3_mayFollow NN R D (nI f) = some (if (mkm (cL T f0) (T 0 0)).testBit f then 1 else 0) := by
  intro f f9
  obtain ⟨r0, r1, r2, i5, -, -⟩ := hI
  unfold f_X3_mayFollow
  rw [r1, if_neg (show ¬ nI 76 = 65 by decide), if_neg (show ¬ nI 76 = 84 by decide), r2, if_neg (show ¬ nI 1 = 0 by decide), px_rd0 (by decide) (by decide), hf, Option.bind_some, ct_canLink hT hC (by decide) hf0 f9, Option.bind_some, mkm_bit]
  have e : cL T f0 f = (decide (f < T 0 0) && cL T f0 f) := by
    by_cases h : f < T 0 0
    · rw [decide_eq_true h]; rfl
    · unfold cL; rw [decide_eq_false h]; simp
  rw [← e]
  cases cL T f0 f <;> rfl
theorem RDT_L {g : Nat → Nat} (hR : RDT u T) (h3 : w 0 3 = u 0 3) (h4 : w 0 4 = u 0 4) (h5 : w 0 5 = nI (T 0 2 + 1)) (h6 : w 6 = u 6) (h7 : w 7 = u 7) (h8 : w 8 = u 8) (h9 : w 9 = upd (u 9) (T 0 2) (nI (g 0))) (h10 : w 10 = upd (u 10) (T 0 2) (nI (g 1))) : RDT w (aL T g) := by
  obtain ⟨e1, e2, e3, e4, e5, e6⟩ := hR
  have e : ∀ k j, k ≠ 0 → k ≠ 8 → k ≠ 9 → aL T g k j = T k j := fun k j g0 g6 g7 => by unfold aL; rw [if_neg g0, if_neg (fun q => by omega)]
  refine ⟨by rw [h3]; exact e1, by rw [h4]; exact e2, h5, fun i hi => ?_, fun b hb => ?_, fun j hj => ?_⟩
  · rw [h6, e 1 _ (by decide) (by decide) (by decide), e 2 _ (by decide) (by decide) (by decide), e 3 _ (by decide) (by decide) (by decide), e 4 _ (by decide) (by decide) (by decide), e 5 _ (by decide) (by decide) (by decide)]; exact e4 i hi
  · rw [h7, h8, e 6 _ (by decide) (by decide) (by decide), e 7 _ (by decide) (by decide) (by decide)]; exact e5 b hb
  · have hj' : j < T 0 2 + 1 := hj
    rw [h9, h10]
    by_cases g : j = T 0 2
    · rw [g, aL_8, aL_9, upd_s, upd_s]; exact ⟨rfl, rfl⟩
    · rw [aL_o (by decide) g, aL_o (by decide) g, upd_n _ g, upd_n _ g]; exact e6 j (by omega)
theorem part_L (hB : BND c u T n lt p) (hL : ltR c n lt) (hpn : p < n) (h76 : lt p = 76) (hl : T 0 2 < 3) (hb : mkm (cF T) (T 0 0) ≠ 0) (fuel : Nat) (hf : n - p < fuel) : OUT sd n lt p fuel c u (f_X7_readPart NN u se (nI 76)) := by
  obtain ⟨hT, hC, hR, r0, r1, hA⟩ := hB
  have hn := hL.1
  have t4 := hT.1
  have h31 := mkm_31 (cF T) (k := T 0 0) (by omega)
  have ht : 0 < T 0 0 := by
    rcases Nat.eq_zero_or_pos (T 0 0) with h | h
    · exact absurd (by rw [h]; rfl) hb
    · exact h
  obtain ⟨f1, rfl⟩ : ∃ f1, fuel = f1 + 1 := ⟨fuel - 1, by omega⟩
  have op := cf_open (sd := sd) hL r0 r1 hpn (by omega) (by
    unfold f_X3_mayOpen
    rw [h76, if_neg (show ¬ nI 76 = 65 by decide), if_pos (show nI 76 = 76 from rfl), ct_roomL hT hC (by decide), decide_eq_true hl, show (!allB (fun i => !cF T i) (T 0 0)) = true by
      cases h : allB (fun i => !cF T i) (T 0 0)
      · rfl
      · exact absurd (begins_z.mpr h) hb]; rfl) f1
  rw [h76] at op
  have k0 : kC c (mk_set3 (mk_set3 c 1 (mk_put (mk_put (c 1) 0 1 (nI 76)) 0 2 0)) 3 (c 3)) := kC_set _ _ _
  have I0 : inP ((mk_set3 (mk_set3 c 1 (mk_put (mk_put (c 1) 0 1 (nI 76)) 0 2 0)) 3 (c 3)) 1) 76 0 := ⟨r0, rfl, rfl, by decide, by decide, by decide⟩
  have D0 : (mk_set3 (mk_set3 c 1 (mk_put (mk_put (c 1) 0 1 (nI 76)) 0 2 0)) 3 (c 3)) 3 = c 3 := rfl
  generalize mk_set3 (mk_set3 c 1 (mk_put (mk_put (c 1) 0 1 (nI 76)) 0 2 0)) 3 (c 3) = c1 at *
  rw [rp_L hT hR (by decide) hl hb, hA.2.2.2.2.2, nI_1]
  have A0 := atP_7 hA (by omega)
  have K0 : kR u (mk_put u 0 7 (nI (p + 1))) := kR_0 (kR_rf u) (by decide) (by decide) (by decide) _
  have R0 : RDT (mk_put u 0 7 (nI (p + 1))) T := hR
  have U3 : (mk_put u 0 7 (nI (p + 1))) 0 3 = u 0 3 := rfl
  have U4 : (mk_put u 0 7 (nI (p + 1))) 0 4 = u 0 4 := rfl
  have U6 : ∀ k, 6 ≤ k → k ≤ 10 → (mk_put u 0 7 (nI (p + 1))) k = u k := fun k h1 _ => by unfold mk_put; rw [if_neg (by omega)]
  generalize mk_put u 0 7 (nI (p + 1)) = u1 at *
  obtain ⟨f2, rfl⟩ : ∃ f2, f1 = f2 + 1 := ⟨f1 - 1, by omega⟩
  have M0 := mf_L0 hT (show CT0 (c1 3) T by rw [D0]; exact hC) I0
  unfold rL1
  rw [rf_begins hT R0 (by decide), Option.bind_some, fo37 A0 h31]
  cases h0 : acc n lt (fun f => (mkm (cF T) (T 0 0)).testBit f) (p + 1) with
  | none =>
    obtain ⟨c', x1, x2⟩ := cf_none (sd := sd) (ltR_of hL k0) I0 M0 (by omega) h0 f2
    refine OUT_F (by omega) (op.trans x1) k0 x2 K0 ?_
    dsimp only
    have R1 : RDT (mk_put u1 0 8 (nI (p + 1))) T := R0
    rw [Option.bind_some]
    dsimp only
    rw [show f_X7_mayLink NN (mk_put u1 0 8 (nI (p + 1))) se 0 = _ from rf_mayLink (i := 0) hT R1 (by decide) ht, Option.bind_some, foF (q := p + 1) (u := mk_put u1 0 8 (nI (p + 1))) rfl (by omega), Option.bind_some]
    dsimp only
    rw [rL3_s (w := mk_put u1 0 8 (nI (p + 1))) (l := T 0 2) R0.2.2.1 hl]
    exact ⟨_, rfl, rfl, kR_0 (kR_p (kR_p (kR_0 (kR_rf u1) (by decide) (by decide) (by decide) _) (by decide) (by decide) _ _) (by decide) (by decide) _ _) (by decide) (by decide) (by decide) _⟩
  | some a0 =>
    obtain ⟨q0, -, a09, ok0⟩ := acc_some h0
    have a0t : a0 < T 0 0 := by
      rw [mkm_bit, Bool.and_eq_true] at ok0
      exact of_decide_eq_true ok0.1
    obtain ⟨c2, x1, I1, D1, k1, g0, -⟩ := cf_mid (sd := sd) (ltR_of hL k0) I0 M0 h0 (by decide) f2
    have op1 := op.trans x1
    have kk1 := kC_tr k0 k1
    dsimp only
    rw [Option.bind_some]
    dsimp only
    have A1 := atP_7 A0 (by omega)
    have K1 := kR_0 K0 (j := 7) (by decide) (by decide) (by decide) (nI (p + 1 + 1))
    have R1 : RDT (mk_put u1 0 7 (nI (p + 1 + 1))) T := R0
    have l31 := mkm_31 (cL T a0) (k := T 0 0) (by omega)
    obtain ⟨f3, rfl⟩ : ∃ f3, f2 = f3 + 1 := ⟨f2 - 1, by omega⟩
    have C2 : c2 3 = c 3 := D1.trans D0
    have M1 := mf_L1 hT (show CT0 (c2 3) T by rw [C2]; exact hC) I1 g0 a09
    rw [rf_mayLink hT R1 (by decide) a0t, Option.bind_some, fo37 A1 l31]
    cases h1 : acc n lt (fun f => (mkm (cL T a0) (T 0 0)).testBit f) (p + 1 + 1) with
    | none =>
      obtain ⟨c', y1, y2⟩ := cf_none (sd := sd) (ltR_of hL kk1) I1 M1 (by omega) h1 f3
      refine OUT_F (by omega) (op1.trans y1) kk1 y2 K1 ?_
      dsimp only
      rw [Option.bind_some]
      dsimp only
      rw [rL3_s (w := mk_put (mk_put u1 0 7 (nI (p + 1 + 1))) 0 8 (nI (p + 1 + 1))) (l := T 0 2) R0.2.2.1 hl]
      exact ⟨_, rfl, rfl, kR_0 (kR_p (kR_p (kR_0 (kR_rf _) (by decide) (by decide) (by decide) _) (by decide) (by decide) _ _) (by decide) (by decide) _ _) (by decide) (by decide) (by decide) _⟩
    | some a1 =>
      obtain ⟨q1, -, a19, ok1⟩ := acc_some h1
      have a1t : a1 < T 0 0 := by
        rw [mkm_bit, Bool.and_eq_true] at ok1
        exact of_decide_eq_true ok1.1
      obtain ⟨g, hg⟩ : ∃ g : Nat → Nat, g = fun j => if j = 0 then a0 else a1 := ⟨_, rfl⟩
      obtain ⟨e0, e1⟩ : g 0 = a0 ∧ g 1 = a1 := by rw [hg]; exact ⟨rfl, rfl⟩
      obtain ⟨c3, s1, s2, s3, s4, k5⟩ := cf_lastL (sd := sd) (show CT0 (c2 3) T by rw [C2]; exact hC) hl (ltR_of hL kk1) I1 M1 (g := g) (by rw [e1]; exact h1) (by rw [e0]; exact g0) f3
      dsimp only
      rw [Option.bind_some]
      dsimp only
      rw [rL3_s (w := mk_put (mk_put u1 0 7 (nI (p + 1 + 1))) 0 7 (nI (p + 1 + 1 + 1))) (l := T 0 2) R0.2.2.1 hl]
      have A2 := atP_p (atP_p (atP_7 A1 (by omega)) (c := 9) (by decide) (by decide) (T 0 2) (nI a0)) (c := 10) (by decide) (by decide) (T 0 2) (nI a1)
      have K2 := kR_p (kR_p (kR_0 K1 (j := 7) (by decide) (by decide) (by decide) (nI (p + 1 + 1 + 1))) (c := 9) (by decide) (by decide) (T 0 2) (nI a0)) (c := 10) (by decide) (by decide) (T 0 2) (nI a1)
      refine Or.inr ⟨c3, _, aL T g, p + 1 + 1 + 1, f3, by omega, by omega, op1.trans s1, rfl, ⟨aL_wf hT hl (by omega) (by omega), s4, ?_, s2, s3, atP_c A2 (by decide) _⟩, kC_tr kk1 k5, kR_0 K2 (by decide) (by decide) (by decide) _⟩
      refine RDT_L hR U3 U4 rfl (U6 6 (by decide) (by decide)) (U6 7 (by decide) (by decide)) (U6 8 (by decide) (by decide)) ?_ ?_
      · show upd (u1 9) (T 0 2) (nI a0) = _; rw [U6 9 (by decide) (by decide), e0]
      · show upd (u1 10) (T 0 2) (nI a1) = _; rw [U6 10 (by decide) (by decide), e1]
end PARTL
