/-! what all is worth, if the ends of a set are known -/
def thn (T : NT) (A : Nat → Int32) (d : Nat) (P : Nat → Bool) : Nat := sm (fun i => if A (2 + i) = -9 then gn T P i d (wsd T P i d) else 0) (T 0 0)
def Qs (T : NT) (d s m w : Nat) : Bool := seenW T d w && ((w &&& s) == m)
def wth (T : NT) (A : Nat → Int32) (d s : Nat) : Nat := sm (fun m => if m &&& s = m then thn T A d (Qs T d s m) else 0) (2 ^ T 0 0)
theorem gn_congr {T : NT} {P Q : Nat → Bool} (h : ∀ w, w < 2 ^ T 0 0 → P w = Q w) (i d k : Nat) : gn T P i d k = gn T Q i d k := sm_congr (fun w hw => by rw [h w hw])
theorem wsd_congr {T : NT} {P Q : Nat → Bool} (h : ∀ w, w < 2 ^ T 0 0 → P w = Q w) (i d : Nat) : wsd T P i d = wsd T Q i d := bst_congr (fun k _ _ => gn_congr h i d k)
theorem thn_congr {T : NT} {P Q : Nat → Bool} (h : ∀ w, w < 2 ^ T 0 0 → P w = Q w) (A : Nat → Int32) (d : Nat) : thn T A d P = thn T A d Q := sm_congr (fun i _ => by rw [wsd_congr h, gn_congr h])
theorem mkm_z {P : Nat → Bool} {k : Nat} (h : mkm P k = 0) : ∀ i, i < k → P i = false := by
  intro i hi
  have := mkm_bit P k i
  rw [h, Nat.zero_testBit] at this
  simpa [hi] using this.symm
theorem thn_z {T : NT} {P : Nat → Bool} (h : ∀ w, w < 2 ^ T 0 0 → P w = false) (A : Nat → Int32) (d : Nat) : thn T A d P = 0 := sm_0 (fun i _ => by
  rw [show gn T P i d (wsd T P i d) = 0 from sm_0 (fun w hw => by rw [h w hw]; rfl)]
  split <;> rfl)
theorem sub_i32 : ∀ m, m < 16 → ∀ s, s < 16 → ((nI m &&& (nI s ^^^ (-1 : Int32))) = 0 ↔ m &&& s = m) := by decide +kernel
theorem sub_i0 (m : Nat) (hm : m < 16) (s : Nat) (hs : s < 16) : ((nI m &&& (nI s ^^^ (-1 : Int32))) = nI 0 ↔ m &&& s = m) := sub_i32 m hm s hs
theorem qs_c : ∀ w, w < 16 → ∀ s, s < 16 → ∀ m, m < 16 → m &&& s = m → (((w ^^^ m) &&& s) == 0) = ((w &&& s) == m) := by decide +kernel
theorem qs_r : ∀ n, n < 5 → ∀ w, w < 2 ^ n → ∀ s, s < 2 ^ n → ∀ m, m < 2 ^ n → (((w ^^^ (2 ^ n - 1)) &&& s) == m) = ((w &&& s) == m ^^^ s) := by decide +kernel
theorem qs_s : ∀ m, m < 16 → ∀ s, s < 16 → ((m ^^^ s) &&& s = m ^^^ s ↔ m &&& s = m) := by decide +kernel
section WORTH
variable {T : NT} {u v l z : TU} {A : Nat → Int32} {N : Nat} {sd : Int64}
theorem cq_inner (hT : wfT T) (hC : CT v T) (hL : lifeR l A) (hN : 700 ≤ N) {d : Nat} (hd : d ≤ 9) (ed : A 0 = nI d) (P : Nat → Bool) (rec13 : Int32 → Int32 → Option Int32) (x3 x4 x7 : Int32) (b : Nat) : lq2 (g_X1_worthOf_52 N z v l rec13 x3 x4 (nI (mkm (sldB A) (T 0 0))) x7 (nI (mkm P (2 ^ T 0 0)))) N (nI b) (nI 0) = rec13 (nI (b + thn T A d P)) (x7 + 1) := by
  have h4 := hT.1
  have h16 := px_sh16 h4
  have hP := mkm_31 P (k := 2 ^ T 0 0) (by omega)
  by_cases hz : mkm P (2 ^ T 0 0) = 0
  · obtain ⟨n, rfl⟩ : ∃ n, N = n + 1 := ⟨N - 1, by omega⟩
    rw [thn_z (mkm_z hz), hz, Nat.add_zero]
    simp only [lq2]
    unfold g_X1_worthOf_52
    rw [hC.1.1, if_pos (show nI 0 = 0 from rfl)]
    split <;> rfl
  · refine lq2_up (T 0 0) N (fun i => nI (b + sm (fun i => if A (2 + i) = -9 then gn T P i d (wsd T P i d) else 0) i)) _ (by omega) (by omega) _ hC.1.1 _ _ (fun _ _ _ => rfl) rfl (fun rec i hi => ?_)
    try dsimp only
    have hs := mkm_31 (sldB A) (k := T 0 0) (by omega)
    rw [if_neg (fun q => hz ((nI_z hP).mp q)), hL.1, ed, ct_keptW hT hC hN P hi hd, Option.bind_some]
    simp only [sm]
    by_cases h : A (2 + i) = -9
    · rw [if_pos (by rw [px_bit0 hs (by omega), mkm_bit]; simp [hi, sldB, h]), if_pos h, nI_add, Nat.add_assoc]
    · rw [if_neg (by rw [px_bit0 hs (by omega), mkm_bit]; simp [hi, sldB, h]), if_neg h, Nat.add_zero]
theorem cq_worth (hT : wfT T) (hC : CT v T) (hL : lifeR l A) (hN : 700 ≤ N) {d s : Nat} (hd : d ≤ 9) (ed : A 0 = nI d) (hs : s < 2 ^ T 0 0) : f_X1_worthOf N z v l (nI (mkm (seenW T d) (2 ^ T 0 0))) (nI s) = some (nI (wth T A d s)) := by
  have h4 := hT.1
  have h16 := px_sh16 h4
  unfold f_X1_worthOf wth
  rw [cl_sold hT hC.1 hL hN, Option.bind_some]
  refine lq2_up (2 ^ T 0 0) N (fun i => nI (sm (fun m => if m &&& s = m then thn T A d (Qs T d s m) else 0) i)) _ (by omega) (by omega) _ (by rw [hC.1.1, px_sh (by omega)]) _ _ (fun _ _ _ => rfl) rfl (fun rec m hm => ?_)
  try dsimp only
  rw [ct_like hT hC.1 hN _ (by omega), Option.bind_some, px_0, cq_inner hT hC hL hN hd ed, show nI 0 = nI (mkm (fun _ => false) (2 ^ T 0 0)) by rw [show mkm (fun _ => false) (2 ^ T 0 0) = 0 from by generalize 2 ^ T 0 0 = K; induction K with | zero => rfl | succ K ih => simp [mkm, ih]]]
  rw [show nI (mkm (fun _ => false) (2 ^ T 0 0)) = nI 0 by rw [show mkm (fun _ => false) (2 ^ T 0 0) = 0 from by generalize 2 ^ T 0 0 = K; induction K with | zero => rfl | succ K ih => simp [mkm, ih]]]
  simp only [sm]
  by_cases h : m &&& s = m
  · rw [if_pos ((sub_i0 m (by omega) s (by omega)).mpr h), if_pos h, thn_congr (Q := Qs T d s m) (fun w hw => by unfold Qs; rw [qs_c w (by omega) s (by omega) m (by omega) h])]
  · rw [if_neg (fun q => h ((sub_i0 m (by omega) s (by omega)).mp q)), if_neg h]
    have e := cq_inner (z := z) hT hC hL hN hd ed (fun _ => false) rec (nI (mkm (seenW T d) (2 ^ T 0 0))) (nI s) (nI m) (sm (fun m => if m &&& s = m then thn T A d (Qs T d s m) else 0) m)
    rw [thn_z (fun _ _ => rfl), show mkm (fun _ => false) (2 ^ T 0 0) = 0 from by generalize 2 ^ T 0 0 = K; induction K with | zero => rfl | succ K ih => simp [mkm, ih]] at e
    exact e
theorem rq_inner (hT : wfT T) (hR : RT u T) (hW : nowR u A) (hN : 700 ≤ N) {d : Nat} (hd : d ≤ 9) (ed : A 0 = nI d) (P : Nat → Bool) (hP : u 0 11 = nI (mkm (fun x => P (cw T x)) (2 ^ T 0 0))) (rec21 : TU → Int32 → Int32 → Option (Int32 × TU)) (x1 x2 x4 : Int32) (b : Nat) : lq2 (g_X7_worthBy_104 N u sd rec21 x1 x2 x4) N (nI b) (nI 0) = rec21 u (nI (b + thn T A d P)) (x4 + 1) := by
  have h4 := hT.1
  refine lq2_up (T 0 0) N (fun i => nI (b + sm (fun i => if A (2 + i) = -9 then gn T P i d (wsd T P i d) else 0) i)) _ (by omega) (by omega) _ hR.1 _ _ (fun _ _ _ => rfl) rfl (fun rec i hi => ?_)
  try dsimp only
  rw [show (2 : Int32) = nI 2 from rfl, nI_add, px_rd (by omega) (by decide), hW (2 + i) (by omega), Option.bind_some, px_rd0 (by decide) (by decide), hW 0 (by decide), Option.bind_some, Option.bind_some, ed, rf_wiseBy hT hR hN P hP hi hd, Option.bind_some, rf_givesBy hT hR hN P hP hi hd (wsd_le hd).2, Option.bind_some]
  simp only [sm]
  by_cases h : A (2 + i) = -9
  · rw [if_pos h, if_pos h, nI_add, Nat.add_assoc]
  · rw [if_neg h, if_neg h, px_0, nI_add]; rfl
theorem rq_lay (hT : wfT T) (hR : RT u T) (hN : 700 ≤ N) (d s m : Nat) (hs : s < 2 ^ T 0 0) (hm : m < 2 ^ T 0 0) (rec21 : TU → Int32 → Int32 → Option (Int32 × TU)) (x3 : Int32) : lq2 (g_X7_worthBy_49 N sd rec21 (nI s) (nI (mkm (fun x => seenW T d (cw T x)) (2 ^ T 0 0))) x3 (nI m)) N (mk_put u 0 11 0) (nI 0) = lq2 (g_X7_worthBy_104 N (mk_put u 0 11 (nI (mkm (fun x => seenW T d (cw T x) && ((x &&& s) == m)) (2 ^ T 0 0)))) sd rec21 (nI s) (nI (mkm (fun x => seenW T d (cw T x)) (2 ^ T 0 0))) (nI m)) N x3 (nI 0) := by
  have h4 := hT.1
  have h16 := px_sh16 h4
  refine lq2_for 0 (2 ^ T 0 0) N (fun i => mk_put u 0 11 (nI (mkm (fun x => seenW T d (cw T x) && ((x &&& s) == m)) i))) _ (fun rec => ?_) (fun rec i _ hi => ?_) (Nat.zero_le _) (by omega)
  · unfold g_X7_worthBy_49
    try dsimp only
    rw [show ∀ y, mk_put u 0 11 y 0 0 = u 0 0 from fun _ => rfl, hR.1, px_sh (by omega), if_pos (Int32.le_refl _)]
    rfl
  · unfold g_X7_worthBy_49 g_X7_worthBy_90 mk_nm
    dsimp only
    rw [show ∀ y, mk_put u 0 11 y 0 0 = u 0 0 from fun _ => rfl, hR.1, px_sh (by omega), if_neg (nI_ge hi (by omega)), rf_has (mkm_31 _ (by omega)) (by omega), Option.bind_some, mkm_bit, px_sh (by omega), nI_1]
    rw [show ∀ y, mk_put u 0 11 y 0 11 = y from fun _ => rfl, put_put, put_put, px_or, px_0, px_or, Nat.or_zero, px_and]
    have hz : nI (i &&& s) = nI m ↔ i &&& s = m := nI_eq (Nat.lt_of_le_of_lt Nat.and_le_left (by omega)) (by omega)
    cases h1 : seenW T d (cw T i)
    · rw [if_pos (by simp [h1]), show mkm (fun x => seenW T d (cw T x) && ((x &&& s) == m)) (i + 1) = mkm (fun x => seenW T d (cw T x) && ((x &&& s) == m)) i by simp [mkm, h1]]
    · rw [if_neg (by rw [decide_eq_true hi]; decide)]
      by_cases h2 : i &&& s = m
      · rw [if_pos (hz.mpr h2), show mkm (fun x => seenW T d (cw T x) && ((x &&& s) == m)) i ||| 2 ^ i = mkm (fun x => seenW T d (cw T x) && ((x &&& s) == m)) (i + 1) by rw [← mkm_or]; simp [h1, h2]]
      · rw [if_neg (fun q => h2 (hz.mp q)), show mkm (fun x => seenW T d (cw T x) && ((x &&& s) == m)) (i + 1) = mkm (fun x => seenW T d (cw T x) && ((x &&& s) == m)) i by simp [mkm, h1, h2]]
theorem held_0 (T : NT) (d : Nat) : heldW T d 0 = seenW T d := by funext w; unfold heldW; simp
theorem rq_worth (hT : wfT T) (hR : RT u T) (hW : nowR u A) (hN : 700 ≤ N) {d s : Nat} (hd : d ≤ 9) (ed : A 0 = nI d) (hs : s < 2 ^ T 0 0) : ∃ y, f_X7_worthBy N u sd (nI s) = some (nI (wth T A d s), mk_put u 0 11 y) := by
  have h4 := hT.1
  have h16 := px_sh16 h4
  obtain ⟨Y, hY0, hY⟩ : ∃ Y : Nat → Int32, Y 0 = nI (mkm (fun x => seenW T d (cw T x)) (2 ^ T 0 0)) ∧ ∀ m, Y (m + 1) = if m &&& s = m then nI (mkm (fun x => seenW T d (cw T x) && ((x &&& s) == m)) (2 ^ T 0 0)) else Y m := ⟨fun i => Nat.rec (nI (mkm (fun x => seenW T d (cw T x)) (2 ^ T 0 0))) (fun m w => if m &&& s = m then nI (mkm (fun x => seenW T d (cw T x) && ((x &&& s) == m)) (2 ^ T 0 0)) else w) i, rfl, fun _ => rfl⟩
  have ew : wth T A d s = sm (fun m => if m &&& s = m then thn T A d (Qs T d s (m ^^^ s)) else 0) (2 ^ T 0 0) := by
    unfold wth
    rw [← sm_xor (T 0 0) h4 s hs]
    exact sm_congr (fun m hm => by simp only [qs_s m (by omega) s (by omega)])
  refine ⟨Y (2 ^ T 0 0), ?_⟩
  rw [ew]
  unfold f_X7_worthBy
  rw [px_rd0 (by decide) (by decide), hW 0 (by decide), Option.bind_some, ed, px_0, rf_layPossible hT hR hN hd (by decide), Option.bind_some, held_0, show ∀ y, mk_put u 0 11 y 0 11 = y from fun _ => rfl]
  rw [← hY0]
  refine lq3_for 0 (2 ^ T 0 0) N (fun m => mk_put u 0 11 (Y m)) (fun m => nI (sm (fun m => if m &&& s = m then thn T A d (Qs T d s (m ^^^ s)) else 0) m)) _ (fun rec => ?_) (fun rec m _ hm => ?_) (Nat.zero_le _) (by omega)
  · unfold g_X7_worthBy_21
    try dsimp only
    rw [show ∀ y, mk_put u 0 11 y 0 0 = u 0 0 from fun _ => rfl, hR.1, px_sh (by omega), if_pos (Int32.le_refl _)]
  · unfold g_X7_worthBy_21 mk_nm
    dsimp only
    rw [show ∀ y, mk_put u 0 11 y 0 0 = u 0 0 from fun _ => rfl, hR.1, px_sh (by omega), if_neg (nI_ge hm (by omega)), put_put, hY, nI_1]
    simp only [sm]
    by_cases h : m &&& s = m
    · rw [if_pos ((sub_i32 m (by omega) s (by omega)).mpr h), if_pos h, if_pos h, hY0, px_0, show (mk_put u 0 11 (nI 0)) = mk_put u 0 11 0 from rfl, rq_lay hT hR hN d s m hs hm]
      rw [rq_inner (A := A) hT (RT_put11 hR _) hW hN hd ed (Qs T d s (m ^^^ s))]
      · rw [nI_1]
      · show nI _ = nI _
        congr 1
        refine mkm_congr (fun x hx => ?_)
        unfold Qs
        rw [← qs_r (T 0 0) (by omega) (cw T x) (cw_lt hx) s hs m hm, show cw T x ^^^ (2 ^ T 0 0 - 1) = x from cw_cw]
    · rw [if_neg (fun q => h ((sub_i32 m (by omega) s (by omega)).mp q)), if_neg h, if_neg h]; rfl
end WORTH
