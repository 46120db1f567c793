/-! a thing's part -/
section CMID
variable {T : NT} {u : TU} {c : CU} {sd : Int64} {n p i pt : Nat} {lt : Nat → Nat} {ok : Nat → Bool} {f : Nat}
theorem cf_mid (hL : ltR c n lt) (hI : inP (c 1) pt i) (hm : ∀ f, f ≤ 9 → f_X3_mayFollow NN (c 1) (c 3) (nI f) = some (if ok f then 1 else 0)) (ha : acc n lt ok p = some f) (hk : i + 1 < (if pt = 84 then 5 else 2)) (fuel : Nat) : ∃ c', RDC sd (fuel + 1) c p = RDC sd fuel c' (p + 1) ∧ inP (c' 1) pt (i + 1) ∧ c' 3 = c 3 ∧ kC c c' ∧ (c' 1) 1 i = nI f ∧ ∀ j, j ≠ i → (c' 1) 1 j = (c 1) 1 j := by
  have h5 : i + 1 < 5 := by revert hk; split <;> omega
  refine ⟨mk_set3 (mk_set3 c 1 (mk_put (mk_put (c 1) 1 i (nI f)) 0 2 (nI (i + 1)))) 3 (c 3), cf_ok hL hI hm ha ?_ fuel, ⟨hI.1, hI.2.1, rfl, h5, hI.2.2.2.2.1, hI.2.2.2.2.2⟩, rfl, kC_set _ _ _, ?_, fun j hj => ?_⟩
  · unfold g_X3_takesFigure_74
    rw [if_neg]
    by_cases h84 : pt = 84
    · rw [if_pos h84] at hk ⊢
      exact fun q => by have := (nI_eq (a := i + 1) (b := 5) (by omega) (by decide)).mp q; omega
    · rw [if_neg h84] at hk ⊢
      exact fun q => by have := (nI_eq (a := i + 1) (b := 2) (by omega) (by decide)).mp q; omega
  · show upd ((c 1) 1) i (nI f) i = _; rw [upd_s]
  · show upd ((c 1) 1) i (nI f) j = _; rw [upd_n _ hj]
theorem cf_lastT (hT : wfT T) (hC : CT0 (c 3) T) (h4 : T 0 0 < 4) (hL : ltR c n lt) (hI : inP (c 1) 84 4) (hm : ∀ f, f ≤ 9 → f_X3_mayFollow NN (c 1) (c 3) (nI f) = some (if ok f then 1 else 0)) {g : Nat → Nat} (ha : acc n lt ok p = some (g 4)) (hg : ∀ j, j < 4 → (c 1) 1 j = nI (g j)) (g4 : g 4 ≤ 1) (fuel : Nat) : ∃ c', RDC sd (fuel + 1) c p = RDC sd fuel c' (p + 1) ∧ (c' 1) 0 0 = 1 ∧ (c' 1) 0 1 = 0 ∧ CT0 (c' 3) (aT T g) ∧ kC c c' := by
  obtain ⟨D, d1, d2⟩ := ct_addThing (N := NN) hT hC h4 (F := mk_put (mk_put (c 1) 1 4 (nI (g 4))) 0 2 (nI (4 + 1)) 1) (fun j hj => by
    show upd ((c 1) 1) 4 (nI (g 4)) j = _
    by_cases e : j = 4
    · subst e; rw [upd_s]
    · rw [upd_n _ e]; exact hg j (by omega)) g4
  refine ⟨mk_set3 (mk_set3 c 1 (mk_put (mk_put (mk_put (c 1) 1 4 (nI (g 4))) 0 2 (nI (4 + 1))) 0 1 0)) 3 D, cf_ok hL hI hm ha ?_ fuel, hI.1, rfl, d2, kC_set _ _ _⟩
  unfold g_X3_takesFigure_74 f_X3_closePart mk_nm
  rw [if_pos rfl, if_pos (by rfl), if_pos (show mk_put (mk_put (c 1) 1 4 (nI (g 4))) 0 2 (nI (4 + 1)) 0 1 = 84 from hI.2.1), d1]
  rfl
theorem cf_lastA (hC : CT0 (c 3) T) (h4 : T 0 1 < 4) (hL : ltR c n lt) (hI : inP (c 1) 65 1) (hm : ∀ f, f ≤ 9 → f_X3_mayFollow NN (c 1) (c 3) (nI f) = some (if ok f then 1 else 0)) {g : Nat → Nat} (ha : acc n lt ok p = some (g 1)) (hg : (c 1) 1 0 = nI (g 0)) (fuel : Nat) : ∃ c', RDC sd (fuel + 1) c p = RDC sd fuel c' (p + 1) ∧ (c' 1) 0 0 = 1 ∧ (c' 1) 0 1 = 0 ∧ CT0 (c' 3) (aA T g) ∧ kC c c' := by
  obtain ⟨D, d1, d2⟩ := ct_addAsker (N := NN) (f := g) hC h4
  refine ⟨mk_set3 (mk_set3 c 1 (mk_put (mk_put (mk_put (c 1) 1 1 (nI (g 1))) 0 2 (nI (1 + 1))) 0 1 0)) 3 D, cf_ok hL hI hm ha ?_ fuel, hI.1, rfl, d2, kC_set _ _ _⟩
  unfold g_X3_takesFigure_74 f_X3_closePart mk_nm
  rw [if_pos (show nI (1 + 1) = (if 65 = 84 then 5 else 2) by decide), show mk_put (mk_put (c 1) 1 1 (nI (g 1))) 0 2 (nI (1 + 1)) 0 1 = nI 65 from hI.2.1, if_neg (by decide), if_pos (by rfl), px_rd0 (by decide) (by decide), Option.bind_some, px_rd1 (by decide) (by decide), Option.bind_some, show mk_put (mk_put (c 1) 1 1 (nI (g 1))) 0 2 (nI (1 + 1)) 1 0 = nI (g 0) from hg, show mk_put (mk_put (c 1) 1 1 (nI (g 1))) 0 2 (nI (1 + 1)) 1 1 = nI (g 1) from rfl, d1]
  rfl
theorem cf_lastL (hC : CT0 (c 3) T) (h4 : T 0 2 < 3) (hL : ltR c n lt) (hI : inP (c 1) 76 1) (hm : ∀ f, f ≤ 9 → f_X3_mayFollow NN (c 1) (c 3) (nI f) = some (if ok f then 1 else 0)) {g : Nat → Nat} (ha : acc n lt ok p = some (g 1)) (hg : (c 1) 1 0 = nI (g 0)) (fuel : Nat) : ∃ c', RDC sd (fuel + 1) c p = RDC sd fuel c' (p + 1) ∧ (c' 1) 0 0 = 1 ∧ (c' 1) 0 1 = 0 ∧ CT0 (c' 3) (aL T g) ∧ kC c c' := by
  obtain ⟨D, d1, d2⟩ := ct_addLink (N := NN) (f := g) hC h4
  refine ⟨mk_set3 (mk_set3 c 1 (mk_put (mk_put (mk_put (c 1) 1 1 (nI (g 1))) 0 2 (nI (1 + 1))) 0 1 0)) 3 D, cf_ok hL hI hm ha ?_ fuel, hI.1, rfl, d2, kC_set _ _ _⟩
  unfold g_X3_takesFigure_74 f_X3_closePart mk_nm
  rw [if_pos (show nI (1 + 1) = (if 76 = 84 then 5 else 2) by decide), show mk_put (mk_put (c 1) 1 1 (nI (g 1))) 0 2 (nI (1 + 1)) 0 1 = nI 76 from hI.2.1, if_neg (by decide), if_neg (by decide), px_rd0 (by decide) (by decide), Option.bind_some, px_rd1 (by decide) (by decide), Option.bind_some, show mk_put (mk_put (c 1) 1 1 (nI (g 1))) 0 2 (nI (1 + 1)) 1 0 = nI (g 0) from hg, show mk_put (mk_put (c 1) 1 1 (nI (g 1))) 0 2 (nI (1 + 1)) 1 1 = nI (g 1) from rfl, d1]
  rfl
/-- which figures may tell a thing -/
def mT (f0 i f : Nat) : Bool := if i = 0 then decide (1 ≤ f) && decide (f ≤ 8) else if i = 1 then decide (f0 + 1 ≤ f) && decide (f ≤ 9) else if i = 2 then decide (0 ≤ f) && decide (f ≤ 9) else if i = 3 then decide (1 ≤ f) && decide (f ≤ 9) else decide (0 ≤ f) && decide (f ≤ 1)
theorem mf_T {R D : TU} {f0 : Nat} (hI : inP R 84 i) (hf : 0 < i → R 1 0 = nI f0) (hf9 : f0 ≤ 9) : ∀ f, f ≤ 9 → f_X3_mayFollow NN R D (nI f) = some (if mT f0 i f then 1 else 0) := by
  intro f f9
  obtain ⟨r0, r1, r2, i5, -, -⟩ := hI
  unfold f_X3_mayFollow f_X3_mayTellThing
  rw [r1, if_neg (by decide), if_pos (by rfl), r2]
  rcases (show i = 0 ∨ i = 1 ∨ i = 2 ∨ i = 3 ∨ i = 4 by omega) with rfl | rfl | rfl | rfl | rfl
  · rw [show mT f0 0 f = (decide (1 ≤ f) && decide (f ≤ 8)) from rfl, if_pos (show nI 0 = 0 from rfl)]
    by_cases c1 : 1 ≤ f
    · rw [px_1, if_neg (nI_nlt c1 (by omega)), decide_eq_true c1]
      by_cases c2 : f ≤ 8
      · rw [show (8 : Int32) = nI 8 from rfl, if_neg (nI_nlt c2 (by omega)), decide_eq_true c2]; rfl
      · rw [show (8 : Int32) = nI 8 from rfl, if_pos (nI_lt (by omega) (by omega)), decide_eq_false c2]; rfl
    · rw [px_1, if_pos (nI_lt (by omega) (by omega)), decide_eq_false c1]; rfl
  · rw [show mT f0 1 f = (decide (f0 + 1 ≤ f) && decide (f ≤ 9)) from rfl, if_neg (show ¬ nI 1 = 0 by decide), if_pos (show nI 1 = 1 from rfl), px_rd0 (by decide) (by decide), hf (by decide), Option.bind_some, decide_eq_true f9]
    by_cases c1 : f0 + 1 ≤ f
    · rw [if_neg (nI_ge (by omega) (by omega)), decide_eq_true c1]; rfl
    · rw [if_pos (nI_le (by omega) (by omega)), decide_eq_false c1]; rfl
  · rw [show mT f0 2 f = (decide (0 ≤ f) && decide (f ≤ 9)) from rfl, if_neg (show ¬ nI 2 = 0 by decide), if_neg (show ¬ nI 2 = 1 by decide), if_pos (show nI 2 = 2 from rfl), decide_eq_true f9, decide_eq_true (Nat.zero_le f)]; rfl
  · rw [show mT f0 3 f = (decide (1 ≤ f) && decide (f ≤ 9)) from rfl, if_neg (show ¬ nI 3 = 0 by decide), if_neg (show ¬ nI 3 = 1 by decide), if_neg (show ¬ nI 3 = 2 by decide), if_pos (show nI 3 = 3 from rfl), decide_eq_true f9]
    by_cases c1 : 1 ≤ f
    · rw [px_1, if_neg (nI_nlt c1 (by omega)), decide_eq_true c1]; rfl
    · rw [px_1, if_pos (nI_lt (by omega) (by omega)), decide_eq_false c1]; rfl
  · rw [show mT f0 4 f = (decide (0 ≤ f) && decide (f ≤ 1)) from rfl, if_neg (show ¬ nI 4 = 0 by decide), if_neg (show ¬ nI 4 = 1 by decide), if_neg (show ¬ nI 4 = 2 by decide), if_neg (show ¬ nI 4 = 3 by decide), decide_eq_true (Nat.zero_le f)]
    by_cases c1 : f ≤ 1
    · rw [px_1, if_neg (nI_nlt c1 (by omega)), decide_eq_true c1]; rfl
    · rw [px_1, if_pos (nI_lt (by omega) (by omega)), decide_eq_false c1]; rfl
end CMID
def BND (c : CU) (u : TU) (T : NT) (n : Nat) (lt : Nat → Nat) (e : Nat) : Prop := wfT T ∧ CT0 (c 3) T ∧ RDT u T ∧ (c 1) 0 0 = 1 ∧ (c 1) 0 1 = 0 ∧ atP u n lt e
def OUT (sd : Int64) (n : Nat) (lt : Nat → Nat) (p fuel : Nat) (c : CU) (u : TU) (Y : Option TU) : Prop :=
  (∃ q c' u', q ≤ n ∧ RDC sd fuel c p = some (nI q, c') ∧ Y = some u' ∧ u' 0 8 = nI q ∧ kC c c' ∧ kR u u') ∨ (∃ c' u' T' e g, p < e ∧ fuel + p = g + e ∧ RDC sd fuel c p = RDC sd g c' e ∧ Y = some u' ∧ BND c' u' T' n lt e ∧ kC c c' ∧ kR u u')
/-- a fault at q -/
theorem OUT_F {sd : Int64} {n p fuel q : Nat} {lt : Nat → Nat} {c c' ci : CU} {u ui : TU} {Y : Option TU} (hq : q ≤ n) (hX : RDC sd fuel c p = some (nI q, c')) (hk : kC c ci) (hk2 : kC ci c') (hu : kR u ui) (hY : ∃ w', Y = some w' ∧ w' 0 8 = nI q ∧ kR ui w') : OUT sd n lt p fuel c u Y := by
  obtain ⟨w', a, b, d⟩ := hY
  exact Or.inl ⟨q, c', w', hq, hX, a, b, kC_tr hk hk2, kR_tr hu d⟩
theorem RDT_T {T : NT} {u w : TU} {g : Nat → Nat} (hR : RDT u T) (h3 : w 0 3 = nI (T 0 0 + 1)) (h4 : w 0 4 = u 0 4) (h5 : w 0 5 = u 0 5) (h6 : ∀ j, w 6 j = if 5 * T 0 0 ≤ j ∧ j < 5 * T 0 0 + 5 then nI (g (j - 5 * T 0 0)) else u 6 j) (hk : ∀ k, 7 ≤ k → k ≤ 10 → w k = u k) : RDT w (aT T g) := by
  obtain ⟨-, e2, e3, e4, e5, e6⟩ := hR
  refine ⟨h3, by rw [h4]; exact e2, by rw [h5]; exact e3, fun i hi => ?_, fun a ha => ?_, fun j hj => ?_⟩
  · rw [aT_0] at hi
    by_cases e : i = T 0 0
    · subst e
      rw [aT_n (by decide) (by decide), aT_n (by decide) (by decide), aT_n (by decide) (by decide), aT_n (by decide) (by decide), aT_n (by decide) (by decide), h6, h6, h6, h6, h6, if_pos (by omega), if_pos (by omega), if_pos (by omega), if_pos (by omega), if_pos (by omega), show 5 * T 0 0 - 5 * T 0 0 = 0 by omega, show 5 * T 0 0 + 1 - 5 * T 0 0 = 1 by omega, show 5 * T 0 0 + 2 - 5 * T 0 0 = 2 by omega, show 5 * T 0 0 + 3 - 5 * T 0 0 = 3 by omega, show 5 * T 0 0 + 4 - 5 * T 0 0 = 4 by omega]
      exact ⟨rfl, rfl, rfl, rfl, rfl⟩
    · rw [aT_o (by decide) e, aT_o (by decide) e, aT_o (by decide) e, aT_o (by decide) e, aT_o (by decide) e, h6, h6, h6, h6, h6, if_neg (by omega), if_neg (by omega), if_neg (by omega), if_neg (by omega), if_neg (by omega)]
      exact e4 i (by omega)
  · rw [aT_h (k := 6) (by decide), aT_h (k := 7) (by decide), hk 7 (by decide) (by decide), hk 8 (by decide) (by decide)]; exact e5 a ha
  · rw [aT_h (k := 8) (by decide), aT_h (k := 9) (by decide), hk 9 (by decide) (by decide), hk 10 (by decide) (by decide)]; exact e6 j hj
theorem part_T {sd se : Int64} {n p : Nat} {lt : Nat → Nat} {c : CU} {u : TU} {T : NT} (hB : BND c u T n lt p) (hL : ltR c n lt) (hpn : p < n) (h84 : lt p = 84) (ht : T 0 0 < 4) (fuel : Nat) (hf : n - p < fuel) : OUT sd n lt p fuel c u (f_X7_readPart NN u se (nI 84)) := by
  obtain ⟨hT, hC, hR, r0, r1, hA⟩ := hB
  have hn := hL.1
  obtain ⟨f1, rfl⟩ : ∃ f1, fuel = f1 + 1 := ⟨fuel - 1, by omega⟩
  have op := cf_open (sd := sd) hL r0 r1 hpn (by omega) (by
    unfold f_X3_mayOpen f_X5_isRoomForThing
    rw [h84, if_neg (by decide), if_neg (by decide), if_pos (by rfl), hC.1, show (4 : Int32) = nI 4 from rfl, if_neg (nI_ge ht (by decide))]; rfl) f1
  rw [h84] at op
  have k0 : kC c (mk_set3 (mk_set3 c 1 (mk_put (mk_put (c 1) 0 1 (nI 84)) 0 2 0)) 3 (c 3)) := kC_set _ _ _
  have I0 : inP ((mk_set3 (mk_set3 c 1 (mk_put (mk_put (c 1) 0 1 (nI 84)) 0 2 0)) 3 (c 3)) 1) 84 0 := ⟨r0, rfl, rfl, by decide, by decide, by decide⟩
  have D0 : (mk_set3 (mk_set3 c 1 (mk_put (mk_put (c 1) 0 1 (nI 84)) 0 2 0)) 3 (c 3)) 3 = c 3 := rfl
  generalize mk_set3 (mk_set3 c 1 (mk_put (mk_put (c 1) 0 1 (nI 84)) 0 2 0)) 3 (c 3) = c1 at *
  rw [rp_T hR.1 ht, hA.2.2.2.2.2, nI_1]
  have A0 := atP_7 hA (by omega)
  have K0 : kR u (mk_put u 0 7 (nI (p + 1))) := kR_0 (kR_rf u) (by decide) (by decide) (by decide) _
  have U3 : (mk_put u 0 7 (nI (p + 1))) 0 3 = nI (T 0 0) := hR.1
  have U4 : (mk_put u 0 7 (nI (p + 1))) 0 4 = u 0 4 := rfl
  have U5 : (mk_put u 0 7 (nI (p + 1))) 0 5 = u 0 5 := rfl
  have U6 : ∀ k, 6 ≤ k → k ≤ 10 → (mk_put u 0 7 (nI (p + 1))) k = u k := fun k h1 _ => by unfold mk_put; rw [if_neg (by omega)]
  generalize mk_put u 0 7 (nI (p + 1)) = u1 at *
  obtain ⟨f2, rfl⟩ : ∃ f2, f1 = f2 + 1 := ⟨f1 - 1, by omega⟩
  -- first figure
  cases h0 : acc n lt (mT 0 0) (p + 1) with
  | none =>
    obtain ⟨c', x1, x2⟩ := cf_none (sd := sd) (ltR_of hL k0) I0 (mf_T I0 (fun q => absurd q (by decide)) (f0 := 0) (by omega)) (by omega) h0 f2
    refine OUT_F (by omega) (op.trans x1) k0 x2 K0 ?_
    unfold rT1
    rw [rS_no A0 (by decide) (by decide) (lo := 1) (hi := 8) h0 (by omega) (by decide)]
    obtain ⟨w', a, b, d⟩ := rT2_F (N := NN) (sd := se) (w := mk_put (mk_put u1 0 8 (nI (p + 1))) 6 (5 * T 0 0) (nI 1)) (q := p + 1) rfl (by omega) ht (x := 1) (upd_s _ _ _) (by decide)
    exact ⟨w', a, b, kR_tr (kR_p (kR_0 (kR_rf u1) (by decide) (by decide) (by decide) _) (by decide) (by decide) _ _) d⟩
  | some a0 =>
    obtain ⟨q0, -, a09, ok0⟩ := acc_some h0
    have b0 : 1 ≤ a0 ∧ a0 ≤ 8 := by simpa [mT] using ok0
    obtain ⟨c2, x1, I1, D1, k1, g0, -⟩ := cf_mid (sd := sd) (ltR_of hL k0) I0 (mf_T I0 (fun q => absurd q (by decide)) (f0 := 0) (by omega)) h0 (by decide) f2
    have op1 := op.trans x1
    have kk1 := kC_tr k0 k1
    unfold rT1
    rw [rS_ok A0 (by decide) (by decide) (lo := 1) (hi := 8) h0 (by omega) (by decide)]
    have A1 := atP_p (atP_7 A0 (by omega)) (c := 6) (by decide) (by decide) (5 * T 0 0) (nI a0)
    have K1 := kR_p (kR_0 K0 (j := 7) (by decide) (by decide) (by decide) (nI (p + 1 + 1))) (c := 6) (by decide) (by decide) (5 * T 0 0) (nI a0)
    have V0 : (mk_put (mk_put u1 0 7 (nI (p + 1 + 1))) 6 (5 * T 0 0) (nI a0)) 6 (5 * T 0 0) = nI a0 := upd_s _ _ _
    obtain ⟨f3, rfl⟩ : ∃ f3, f2 = f3 + 1 := ⟨f2 - 1, by omega⟩
    have M1 := mf_T (D := c2 3) I1 (fun _ => g0) a09
    unfold rT2
    rw [px_rd (by omega) (by decide), V0, Option.bind_some, nI_1]
    cases h1 : acc n lt (mT a0 1) (p + 1 + 1) with
    | none =>
      obtain ⟨c', y1, y2⟩ := cf_none (sd := sd) (ltR_of hL kk1) I1 M1 (by omega) h1 f3
      refine OUT_F (by omega) (op1.trans y1) kk1 y2 K1 ?_
      rw [rS_no A1 (by omega) (by decide) (lo := a0 + 1) (hi := 9) h1 (by omega) (by decide)]
      obtain ⟨w', a, b, d⟩ := rT3_F (N := NN) (sd := se) (w := mk_put (mk_put (mk_put (mk_put u1 0 7 (nI (p + 1 + 1))) 6 (5 * T 0 0) (nI a0)) 0 8 (nI (p + 1 + 1))) 6 (5 * T 0 0 + 1) (nI (a0 + 1))) (q := p + 1 + 1) rfl (by omega) ht
      exact ⟨w', a, b, kR_tr (kR_p (kR_0 (kR_rf _) (by decide) (by decide) (by decide) _) (by decide) (by decide) _ _) d⟩
    | some a1 =>
      obtain ⟨q1, -, a19, ok1⟩ := acc_some h1
      have b1 : a0 + 1 ≤ a1 := by have : a0 + 1 ≤ a1 ∧ a1 ≤ 9 := by simpa [mT] using ok1
                                  exact this.1
      obtain ⟨c3, y1, I2, D2, k2, g1, g1'⟩ := cf_mid (sd := sd) (ltR_of hL kk1) I1 M1 h1 (by decide) f3
      have op2 := op1.trans y1
      have kk2 := kC_tr kk1 k2
      rw [rS_ok A1 (by omega) (by decide) (lo := a0 + 1) (hi := 9) h1 (by omega) (by decide)]
      have A2 := atP_p (atP_7 A1 (by omega)) (c := 6) (by decide) (by decide) (5 * T 0 0 + 1) (nI a1)
      have K2 := kR_p (kR_0 K1 (j := 7) (by decide) (by decide) (by decide) (nI (p + 1 + 1 + 1))) (c := 6) (by decide) (by decide) (5 * T 0 0 + 1) (nI a1)
      obtain ⟨f4, rfl⟩ : ∃ f4, f3 = f4 + 1 := ⟨f3 - 1, by omega⟩
      have M2 := mf_T (D := c3 3) I2 (fun _ => (g1' 0 (by decide)).trans g0) a09
      unfold rT3
      cases h2 : acc n lt (mT a0 2) (p + 1 + 1 + 1) with
      | none =>
        obtain ⟨c', z1, z2⟩ := cf_none (sd := sd) (ltR_of hL kk2) I2 M2 (by omega) h2 f4
        refine OUT_F (by omega) (op2.trans z1) kk2 z2 K2 ?_
        rw [rS_no A2 (by decide) (by decide) (lo := 0) (hi := 9) h2 (by omega) (by decide)]
        obtain ⟨w', a, b, d⟩ := rT4_F (N := NN) (sd := se) (w := mk_put (mk_put (mk_put (mk_put (mk_put (mk_put u1 0 7 (nI (p + 1 + 1))) 6 (5 * T 0 0) (nI a0)) 0 7 (nI (p + 1 + 1 + 1))) 6 (5 * T 0 0 + 1) (nI a1)) 0 8 (nI (p + 1 + 1 + 1))) 6 (5 * T 0 0 + 2) (nI 0)) (q := p + 1 + 1 + 1) rfl (by omega) ht
        exact ⟨w', a, b, kR_tr (kR_p (kR_0 (kR_rf _) (by decide) (by decide) (by decide) _) (by decide) (by decide) _ _) d⟩
      | some a2 =>
        obtain ⟨q2, -, a29, ok2⟩ := acc_some h2
        obtain ⟨c4, z1, I3, D3, k3, g2, g2'⟩ := cf_mid (sd := sd) (ltR_of hL kk2) I2 M2 h2 (by decide) f4
        have op3 := op2.trans z1
        have kk3 := kC_tr kk2 k3
        rw [rS_ok A2 (by decide) (by decide) (lo := 0) (hi := 9) h2 (by omega) (by decide)]
        have A3 := atP_p (atP_7 A2 (by omega)) (c := 6) (by decide) (by decide) (5 * T 0 0 + 2) (nI a2)
        have K3 := kR_p (kR_0 K2 (j := 7) (by decide) (by decide) (by decide) (nI (p + 1 + 1 + 1 + 1))) (c := 6) (by decide) (by decide) (5 * T 0 0 + 2) (nI a2)
        obtain ⟨f5, rfl⟩ : ∃ f5, f4 = f5 + 1 := ⟨f4 - 1, by omega⟩
        have G3 : (c4 1) 1 0 = nI a0 := (g2' 0 (by decide)).trans ((g1' 0 (by decide)).trans g0)
        have M3 := mf_T (D := c4 3) I3 (fun _ => G3) a09
        unfold rT4
        cases h3 : acc n lt (mT a0 3) (p + 1 + 1 + 1 + 1) with
        | none =>
          obtain ⟨c', t1, t2⟩ := cf_none (sd := sd) (ltR_of hL kk3) I3 M3 (by omega) h3 f5
          refine OUT_F (by omega) (op3.trans t1) kk3 t2 K3 ?_
          rw [rS_no A3 (by decide) (by decide) (lo := 1) (hi := 9) h3 (by omega) (by decide)]
          obtain ⟨w', a, b, d⟩ := rT5_F (N := NN) (sd := se) (w := mk_put (mk_put (mk_put (mk_put (mk_put (mk_put (mk_put (mk_put u1 0 7 (nI (p + 1 + 1))) 6 (5 * T 0 0) (nI a0)) 0 7 (nI (p + 1 + 1 + 1))) 6 (5 * T 0 0 + 1) (nI a1)) 0 7 (nI (p + 1 + 1 + 1 + 1))) 6 (5 * T 0 0 + 2) (nI a2)) 0 8 (nI (p + 1 + 1 + 1 + 1))) 6 (5 * T 0 0 + 3) (nI 1)) (q := p + 1 + 1 + 1 + 1) rfl (by omega) ht
          exact ⟨w', a, b, kR_tr (kR_p (kR_0 (kR_rf _) (by decide) (by decide) (by decide) _) (by decide) (by decide) _ _) d⟩
        | some a3 =>
          obtain ⟨q3, -, a39, ok3⟩ := acc_some h3
          have b3 : 1 ≤ a3 := by have : 1 ≤ a3 ∧ a3 ≤ 9 := by simpa [mT] using ok3
                                 exact this.1
          obtain ⟨c5, t1, I4, D4, k4, g3, g3'⟩ := cf_mid (sd := sd) (ltR_of hL kk3) I3 M3 h3 (by decide) f5
          have op4 := op3.trans t1
          have kk4 := kC_tr kk3 k4
          rw [rS_ok A3 (by decide) (by decide) (lo := 1) (hi := 9) h3 (by omega) (by decide)]
          have A4 := atP_p (atP_7 A3 (by omega)) (c := 6) (by decide) (by decide) (5 * T 0 0 + 3) (nI a3)
          have K4 := kR_p (kR_0 K3 (j := 7) (by decide) (by decide) (by decide) (nI (p + 1 + 1 + 1 + 1 + 1))) (c := 6) (by decide) (by decide) (5 * T 0 0 + 3) (nI a3)
          obtain ⟨f6, rfl⟩ : ∃ f6, f5 = f6 + 1 := ⟨f5 - 1, by omega⟩
          have G4 : (c5 1) 1 0 = nI a0 := (g3' 0 (by decide)).trans G3
          have M4 := mf_T (D := c5 3) I4 (fun _ => G4) a09
          have C5 : c5 3 = c 3 := D4.trans (D3.trans (D2.trans (D1.trans D0)))
          unfold rT5
          cases h4 : acc n lt (mT a0 4) (p + 1 + 1 + 1 + 1 + 1) with
          | none =>
            obtain ⟨c', s1, s2⟩ := cf_none (sd := sd) (ltR_of hL kk4) I4 M4 (by omega) h4 f6
            refine OUT_F (by omega) (op4.trans s1) kk4 s2 K4 ?_
            rw [rS_no A4 (by decide) (by decide) (lo := 0) (hi := 1) h4 (by omega) (by decide)]
            exact ⟨_, rfl, rfl, kR_0 (kR_p (kR_0 (kR_rf _) (by decide) (by decide) (by decide) _) (by decide) (by decide) _ _) (by decide) (by decide) (by decide) _⟩
          | some a4 =>
            obtain ⟨q4, -, a49, ok4⟩ := acc_some h4
            have b4 : a4 ≤ 1 := by simpa [mT] using ok4
            obtain ⟨g, hg⟩ : ∃ g : Nat → Nat, g = fun j => if j = 0 then a0 else if j = 1 then a1 else if j = 2 then a2 else if j = 3 then a3 else a4 := ⟨_, rfl⟩
            obtain ⟨e0, e1, e2, e3, e4⟩ : g 0 = a0 ∧ g 1 = a1 ∧ g 2 = a2 ∧ g 3 = a3 ∧ g 4 = a4 := by rw [hg]; exact ⟨rfl, rfl, rfl, rfl, rfl⟩
            obtain ⟨c6, s1, s2, s3, s4, k5⟩ := cf_lastT (sd := sd) hT (by rw [C5]; exact hC) ht (ltR_of hL kk4) I4 M4 (g := g) (by rw [e4]; exact h4) (fun j hj => by
              rcases (show j = 0 ∨ j = 1 ∨ j = 2 ∨ j = 3 by omega) with rfl | rfl | rfl | rfl
              · rw [e0]; exact G4
              · rw [e1]; exact (g3' 1 (by decide)).trans ((g2' 1 (by decide)).trans g1)
              · rw [e2]; exact (g3' 2 (by decide)).trans g2
              · rw [e3]; exact g3) (by omega) f6
            rw [rS_ok A4 (by decide) (by decide) (lo := 0) (hi := 1) h4 (by omega) (by decide)]
            have A5 := atP_p (atP_7 A4 (by omega)) (c := 6) (by decide) (by decide) (5 * T 0 0 + 4) (nI a4)
            have K5 := kR_p (kR_0 K4 (j := 7) (by decide) (by decide) (by decide) (nI (p + 1 + 1 + 1 + 1 + 1 + 1))) (c := 6) (by decide) (by decide) (5 * T 0 0 + 4) (nI a4)
            refine Or.inr ⟨c6, _, aT T g, p + 1 + 1 + 1 + 1 + 1 + 1, f6, by omega, by omega, op4.trans s1, rfl, ⟨aT_wf hT ht (by omega) (by omega) (by omega) (by omega) (by omega) (by omega) (by omega), s4, ?_, s2, s3, atP_c A5 (by decide) _⟩, kC_tr kk4 k5, kR_0 K5 (by decide) (by decide) (by decide) _⟩
            refine RDT_T hR ?_ U4 U5 (fun j => ?_) (fun k h1 h2 => ?_)
            · show u1 0 3 + 1 = _; rw [U3, nI_1]
            · show upd (upd (upd (upd (upd (u1 6) (5 * T 0 0) (nI a0)) (5 * T 0 0 + 1) (nI a1)) (5 * T 0 0 + 2) (nI a2)) (5 * T 0 0 + 3) (nI a3)) (5 * T 0 0 + 4) (nI a4) j = _
              by_cases hj : 5 * T 0 0 ≤ j ∧ j < 5 * T 0 0 + 5
              · rw [if_pos hj]
                rcases (show j = 5 * T 0 0 ∨ j = 5 * T 0 0 + 1 ∨ j = 5 * T 0 0 + 2 ∨ j = 5 * T 0 0 + 3 ∨ j = 5 * T 0 0 + 4 by omega) with h | h | h | h | h
                · rw [upd_n _ (by omega), upd_n _ (by omega), upd_n _ (by omega), upd_n _ (by omega), h, upd_s, Nat.sub_self, e0]
                · rw [upd_n _ (by omega), upd_n _ (by omega), upd_n _ (by omega), h, upd_s, Nat.add_sub_cancel_left, e1]
                · rw [upd_n _ (by omega), upd_n _ (by omega), h, upd_s, Nat.add_sub_cancel_left, e2]
                · rw [upd_n _ (by omega), h, upd_s, Nat.add_sub_cancel_left, e3]
                · rw [h, upd_s, Nat.add_sub_cancel_left, e4]
              · rw [if_neg hj, upd_n _ (by omega), upd_n _ (by omega), upd_n _ (by omega), upd_n _ (by omega), upd_n _ (by omega), U6 6 (by decide) (by decide)]
            · show mk_put (mk_put _ 6 _ _) 0 3 _ k = _
              unfold mk_put
              rw [if_neg (by omega), if_neg (by omega), if_neg (by omega), if_neg (by omega), if_neg (by omega), if_neg (by omega), if_neg (by omega), if_neg (by omega), if_neg (by omega), if_neg (by omega), if_neg (by omega)]
              exact U6 k (by omega) h2
