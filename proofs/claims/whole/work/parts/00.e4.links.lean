/-! links held: the least set of early things -/
theorem okL_all (T : NT) (w : Nat) : ∀ j, okL T w j = allB (fun l => w.testBit (T 8 l) || !w.testBit (T 9 l)) j := by
  intro j
  induction j with
  | zero => rfl
  | succ j ih => simp only [okL, allB]; rw [ih]
section LINKS
variable {T : NT} {u v : TU} {N : Nat} {sd : Int64}
theorem ct_isBroken {w i j : Nat} (hw : w < 2 ^ 31) (hi : i < 31) (hj : j < 31) : f_X5_isBroken N v (nI i) (nI j) (nI w) = some (if (w.testBit i || !w.testBit j) then 0 else 1) := by
  unfold f_X5_isBroken
  cases c1 : w.testBit i
  · rw [if_pos (by rw [px_bit0 hw hi, c1])]
    cases c2 : w.testBit j
    · rw [if_pos (by rw [px_bit0 hw hj, c2])]; rfl
    · rw [if_neg (by rw [px_bit0 hw hj, c2]; decide)]; rfl
  · rw [if_neg (by rw [px_bit0 hw hi, c1]; decide)]; rfl
theorem ct_first (hT : wfT T) (hC : CT0 v T) (hN : 700 ≤ N) {w : Nat} (hw : w < 2 ^ 31) : (okW T w = true ∧ f_X5_firstBrokenLink N v (nI w) = some (-9)) ∨ (okW T w = false ∧ ∃ l, l < T 0 2 ∧ w.testBit (T 8 l) = false ∧ w.testBit (T 9 l) = true ∧ f_X5_firstBrokenLink N v (nI w) = some (nI l)) := by
  have h4 := hT.1
  have h3 := hT.2.2.1
  have stepE : ∀ rec l, l < T 0 2 → g_X5_firstBrokenLink_2 N v (nI w) rec (nI l) = if (w.testBit (T 8 l) || !w.testBit (T 9 l)) then rec (nI (l + 1)) else some (nI l) := by
    intro rec l hl
    obtain ⟨l1, l2⟩ := hT.2.2.2.2.2 l hl
    obtain ⟨a1, a2⟩ := hC.2.2.2.2.2.2 l hl
    unfold g_X5_firstBrokenLink_2
    rw [hC.2.2.2.1, if_neg (nI_ge hl (by omega)), px_rd (by omega) (by decide), a1, Option.bind_some, px_rd (by omega) (by decide), a2, Option.bind_some, ct_isBroken hw (by omega) (by omega), Option.bind_some, nI_1]
    cases (w.testBit (T 8 l) || !w.testBit (T 9 l))
    · rw [if_neg (by decide)]; rfl
    · rw [if_pos (by rfl)]; rfl
  unfold okW f_X5_firstBrokenLink
  rw [okL_all]
  by_cases h : allB (fun l => w.testBit (T 8 l) || !w.testBit (T 9 l)) (T 0 2) = true
  · left
    refine ⟨h, lq1_for 0 (T 0 2) N _ (fun rec => ?_) (fun rec l _ hl => ?_) (Nat.zero_le _) (by omega)⟩
    · unfold g_X5_firstBrokenLink_2
      rw [hC.2.2.2.1, if_pos (Int32.le_refl _)]
    · rw [stepE rec l hl, if_pos (allB_iff.mp h l hl)]
  · right
    obtain ⟨j, hj, hp, ht⟩ := allB_no h
    have hp2 : w.testBit (T 8 j) = false ∧ w.testBit (T 9 j) = true := by
      revert hp
      try dsimp only
      cases w.testBit (T 8 j) <;> cases w.testBit (T 9 j) <;> simp
    refine ⟨by simpa using h, j, hj, hp2.1, hp2.2, lq1_for 0 j N _ (fun rec => ?_) (fun rec l _ hl => ?_) (Nat.zero_le _) (by omega)⟩
    · rw [stepE rec j hj, if_neg (by rw [hp]; decide)]
    · rw [stepE rec l (by omega), if_pos (ht l hl)]
/-- closed: whose link begins early ends early (x: early bits) -/
def cls (T : NT) (x : Nat) : Prop := ∀ l, l < T 0 2 → x.testBit (T 8 l) = true → x.testBit (T 9 l) = true
def sbs (x y : Nat) : Prop := ∀ i, x.testBit i = true → y.testBit i = true
def Clo (T : NT) (x0 x : Nat) : Prop := x < 2 ^ T 0 0 ∧ sbs x0 x ∧ cls T x ∧ ∀ c, cls T c → sbs x0 c → sbs x c
theorem Clo_u {x0 x y : Nat} (h1 : Clo T x0 x) (h2 : Clo T x0 y) : x = y := by
  apply Nat.eq_of_testBit_eq
  intro i
  have a := h1.2.2.2 y h2.2.2.1 h2.2.1 i
  have b := h2.2.2.2 x h1.2.2.1 h1.2.1 i
  revert a b
  cases x.testBit i <;> cases y.testBit i <;> simp
theorem ok_cls (hT : wfT T) {x : Nat} : okW T (cw T x) = true ↔ cls T x := by
  unfold okW cls
  rw [okL_all, allB_iff]
  constructor
  · intro h l hl hb
    obtain ⟨l1, l2⟩ := hT.2.2.2.2.2 l hl
    have := h l hl
    rw [cw_bit l1, cw_bit l2, hb] at this
    simpa using this
  · intro h l hl
    obtain ⟨l1, l2⟩ := hT.2.2.2.2.2 l hl
    have := h l hl
    rw [cw_bit l1, cw_bit l2]
    revert this
    cases x.testBit (T 8 l) <;> cases x.testBit (T 9 l) <;> simp
theorem on_or : ∀ x, x < 16 → ∀ t, t < 4 → x.testBit t = false → on (x ||| 2 ^ t) = on x + 1 := by decide +kernel
theorem on_pos : ∀ x, x < 16 → ∀ t, t < 4 → x.testBit t = true → 1 ≤ on x := by decide +kernel
theorem rm_cw (hT : wfT T) {x t : Nat} (hx : x < 2 ^ T 0 0) (ht : t < T 0 0) : rm (cw T x) t = cw T (x ||| 2 ^ t) := by
  have h4 := hT.1
  have h16 := px_sh16 h4
  have hc := cw_lt (T := T) hx
  have hx2 : x ||| 2 ^ t < 2 ^ T 0 0 := Nat.or_lt_two_pow hx (Nat.pow_lt_pow_right (by decide) ht)
  have hc2 := cw_lt (T := T) hx2
  apply Nat.eq_of_testBit_eq
  intro i
  rw [rm_bit (by omega)]
  by_cases hi : i < T 0 0
  · rw [cw_bit hi, cw_bit hi, Nat.testBit_or, Nat.testBit_two_pow]
    cases x.testBit i <;> cases decide (t = i) <;> rfl
  · rw [Nat.testBit_lt_two_pow (Nat.lt_of_lt_of_le hc (Nat.pow_le_pow_right (by decide) (by omega))), Nat.testBit_lt_two_pow (Nat.lt_of_lt_of_le hc2 (Nat.pow_le_pow_right (by decide) (by omega)))]; rfl
/-- between x0 and every closed set above it -/
def btw (T : NT) (x0 x : Nat) : Prop := x < 2 ^ T 0 0 ∧ sbs x0 x ∧ ∀ c, cls T c → sbs x0 c → sbs x c
theorem btw_add {x0 x l : Nat} (hT : wfT T) (h : btw T x0 x) (hl : l < T 0 2) (hb : x.testBit (T 8 l) = true) : btw T x0 (x ||| 2 ^ T 9 l) := by
  obtain ⟨l1, l2⟩ := hT.2.2.2.2.2 l hl
  refine ⟨Nat.or_lt_two_pow h.1 (Nat.pow_lt_pow_right (by decide) l2), fun i hi => by rw [Nat.testBit_or, h.2.1 i hi]; rfl, fun c hc hs i hi => ?_⟩
  rcases (bit_or1 i).mp hi with g | g
  · exact h.2.2 c hc hs i g
  · rw [g]; exact hc l hl (h.2.2 c hc hs _ hb)
theorem ct_held (hT : wfT T) (hC : CT0 v T) (hN : 700 ≤ N) {x0 : Nat} (hx : x0 < 2 ^ T 0 0) : ∃ x, Clo T x0 x ∧ f_X5_withLinksHeld N v (nI (cw T x0)) = some (nI (cw T x)) := by
  have h4 := hT.1
  have h16 := px_sh16 h4
  have h3 := hT.2.2.1
  have run : ∀ m k n x, k + m = 4 → m < n → btw T x0 x → (k = 0 ∨ k + 1 ≤ on x) → ∃ y, Clo T x0 y ∧ lq2 (g_X5_withLinksHeld_4 N v) n (nI (cw T x)) (nI k) = some (nI (cw T y)) := by
    intro m
    induction m with
    | zero =>
      intro k n x h1 h2 h5 h6
      have := on_le x
      omega
    | succ m ih =>
      intro k n x h1 h2 h5 h6
      obtain ⟨n, rfl⟩ : ∃ n', n = n' + 1 := ⟨n - 1, by omega⟩
      have hcx := cw_lt (T := T) h5.1
      have hx1 := h5.1
      simp only [lq2]
      rcases ct_first (N := N) hT hC hN (show cw T x < 2 ^ 31 by omega) with ⟨o1, o2⟩ | ⟨o1, l, hl, b1, b2, o2⟩
      · refine ⟨x, ⟨h5.1, h5.2.1, (ok_cls hT).mp o1, h5.2.2⟩, ?_⟩
        unfold g_X5_withLinksHeld_4
        rw [show (4 : Int32) = nI 4 from rfl, if_neg (nI_ge (by omega) (by decide)), o2, Option.bind_some, if_neg (by decide)]
      · obtain ⟨l1, l2⟩ := hT.2.2.2.2.2 l hl
        obtain ⟨a1, a2⟩ := hC.2.2.2.2.2.2 l hl
        rw [cw_bit l1] at b1
        rw [cw_bit l2] at b2
        have b1' : x.testBit (T 8 l) = true := by simpa using b1
        have b2' : x.testBit (T 9 l) = false := by simpa using b2
        have o3 := on_or x (by omega) (T 9 l) (by omega) b2'
        have o4 := on_pos x (by omega) (T 8 l) (by omega) b1'
        obtain ⟨y, y1, y2⟩ := ih (k + 1) n _ (by omega) (by omega) (btw_add hT h5 hl b1') (Or.inr (by omega))
        refine ⟨y, y1, ?_⟩
        rw [← y2]
        generalize lq2 (g_X5_withLinksHeld_4 N v) n = rec
        unfold g_X5_withLinksHeld_4
        rw [show (4 : Int32) = nI 4 from rfl, if_neg (nI_ge (by omega) (by decide)), o2, Option.bind_some, if_pos (nI_pos' (by omega)), px_rd (by omega) (by decide), a2, Option.bind_some, px_sh (by omega), rm_i (by omega) (by omega), rm_cw hT hx1 l2, nI_1]
  exact run 4 0 N x0 (by omega) (by omega) ⟨hx, fun _ h => h, fun _ _ h => h⟩ (Or.inl rfl)
/-- one pass of the reference over the links -/
def pas (T : NT) (x : Nat) : Nat → Nat
  | 0 => x
  | l + 1 => if (pas T x l).testBit (T 8 l) then pas T x l ||| 2 ^ T 9 l else pas T x l
theorem pas_btw (hT : wfT T) {x0 x : Nat} (h : btw T x0 x) : ∀ l, l ≤ T 0 2 → btw T x0 (pas T x l) ∧ (pas T x l = x ∨ on x + 1 ≤ on (pas T x l)) := by
  intro l
  have h16 := px_sh16 hT.1
  induction l with
  | zero => intro _; exact ⟨h, Or.inl rfl⟩
  | succ l ih =>
    intro hl
    obtain ⟨i1, i2⟩ := ih (by omega)
    obtain ⟨l1, l2⟩ := hT.2.2.2.2.2 l (by omega)
    have hlt := i1.1
    have h4 := hT.1
    simp only [pas]
    by_cases hb : (pas T x l).testBit (T 8 l) = true
    · rw [if_pos hb]
      refine ⟨btw_add hT i1 (by omega) hb, ?_⟩
      by_cases hc : (pas T x l).testBit (T 9 l) = true
      · rw [or_has hc]; exact i2
      · right
        have := on_or (pas T x l) (by omega) (T 9 l) (by omega) (by simpa using hc)
        rcases i2 with e | e
        · rw [e] at this ⊢; omega
        · omega
    · rw [if_neg hb]; exact ⟨i1, i2⟩
theorem pas_cls (hT : wfT T) {x : Nat} (hx : x < 2 ^ T 0 0) (h : pas T x (T 0 2) = x) : cls T x := by
  have h16 := px_sh16 hT.1
  have h4 := hT.1
  have hb : btw T x x := ⟨hx, fun _ h => h, fun _ _ h => h⟩
  have mono : ∀ m l, l + m ≤ T 0 2 → sbs (pas T x l) (pas T x (l + m)) := by
    intro m
    induction m with
    | zero => intro l _ i hi; exact hi
    | succ m ih =>
      intro l hl i hi
      have := ih l (by omega) i hi
      rw [← Nat.add_assoc]
      simp only [pas]
      split
      · rw [Nat.testBit_or, this]; rfl
      · exact this
  have eq : ∀ l, l ≤ T 0 2 → pas T x l = x := by
    intro l hl
    apply Nat.eq_of_testBit_eq
    intro i
    have a := (pas_btw hT hb l hl).1.2.1 i
    have b := mono (T 0 2 - l) l (by omega) i
    rw [show l + (T 0 2 - l) = T 0 2 by omega, h] at b
    revert a b
    cases x.testBit i <;> cases (pas T x l).testBit i <;> simp
  intro l hl hbl
  have e := eq (l + 1) (by omega)
  simp only [pas] at e
  rw [eq l (by omega), if_pos hbl] at e
  rw [← e, Nat.testBit_or, Nat.testBit_two_pow]; simp
theorem cls_pas (hT : wfT T) {x : Nat} (h : cls T x) : ∀ l, l ≤ T 0 2 → pas T x l = x := by
  intro l
  induction l with
  | zero => intro _; rfl
  | succ l ih =>
    intro hl
    simp only [pas]
    rw [ih (by omega)]
    by_cases hb : x.testBit (T 8 l) = true
    · rw [if_pos hb, or_has (h l (by omega) hb)]
    · rw [if_neg hb]
def pss (T : NT) (x : Nat) : Nat → Nat
  | 0 => x
  | k + 1 => pas T (pss T x k) (T 0 2)
theorem pss_clo (hT : wfT T) {x0 : Nat} (hx : x0 < 2 ^ T 0 0) : Clo T x0 (pss T x0 4) := by
  have h16 := px_sh16 hT.1
  have h4 := hT.1
  have hb : ∀ k, btw T x0 (pss T x0 k) := by
    intro k
    induction k with
    | zero => exact ⟨hx, fun _ h => h, fun _ _ h => h⟩
    | succ k ih => exact (pas_btw hT ih (T 0 2) (Nat.le_refl _)).1
  have stay : ∀ k, cls T (pss T x0 k) → cls T (pss T x0 (k + 1)) := fun k h => by
    simp only [pss]; rw [cls_pas hT h _ (Nat.le_refl _)]; exact h
  have grow : ∀ k, cls T (pss T x0 k) ∨ (k = 0 ∨ k + 1 ≤ on (pss T x0 k)) := by
    intro k
    induction k with
    | zero => exact Or.inr (Or.inl rfl)
    | succ k ih =>
      rcases ih with h | h
      · exact Or.inl (stay k h)
      · rcases (pas_btw hT (hb k) (T 0 2) (Nat.le_refl _)).2 with e | e
        · exact Or.inl (stay k (pas_cls hT (hb k).1 e))
        · right
          right
          simp only [pss]
          rcases h with rfl | h
          · by_cases hz : on (pss T x0 0) = 0
            · exfalso
              have hlt := (hb 0).1
              have z : ∀ t, t < 4 → (pss T x0 0).testBit t = false := fun t ht => by
                cases c : (pss T x0 0).testBit t
                · rfl
                · have := on_pos _ (by omega) t ht c; omega
              have : cls T (pss T x0 0) := fun l hl hbl => by
                obtain ⟨l1, l2⟩ := hT.2.2.2.2.2 l hl
                rw [z _ (by omega)] at hbl; cases hbl
              rw [cls_pas hT this _ (Nat.le_refl _)] at e
              omega
            · omega
          · omega
  have hc : cls T (pss T x0 4) := by
    rcases grow 4 with h | h | h
    · exact h
    · omega
    · have := on_le (pss T x0 4); omega
  exact ⟨(hb 4).1, (hb 4).2.1, hc, (hb 4).2.2⟩
theorem rf_pass (hT : wfT T) (hR : RT u T) (hN : 700 ≤ N) {x0 : Nat} (hx : x0 < 2 ^ T 0 0) : lq2 (g_X7_drawn_72 N u sd) N (nI x0) (nI 0) = some (nI (pss T x0 4), sd) := by
  have h16 := px_sh16 hT.1
  have h4 := hT.1
  have h3 := hT.2.2.1
  have hb : ∀ k, btw T x0 (pss T x0 k) := by
    intro k
    induction k with
    | zero => exact ⟨hx, fun _ h => h, fun _ _ h => h⟩
    | succ k ih => exact (pas_btw hT ih (T 0 2) (Nat.le_refl _)).1
  refine lq2_for 0 4 N (fun k => nI (pss T x0 k)) _ (fun rec => ?_) (fun rec k _ hk => ?_) (by omega) (by omega)
  · unfold g_X7_drawn_72
    rw [if_pos (by decide)]
  · unfold g_X7_drawn_72
    rw [show (4 : Int32) = nI 4 from rfl, if_neg (nI_ge hk (by decide))]
    have e : lq2 (g_X7_drawn_79 N u sd rec (nI k)) N (nI (pss T x0 k)) (nI 0) = rec (nI (pss T x0 (k + 1))) (nI k + 1) := by
      refine lq2_up (T 0 2) N (fun l => nI (pas T (pss T x0 k) l)) _ (by omega) (by omega) _ hR.2.2.1 _ _ (fun _ _ _ => rfl) rfl (fun rec2 l hl => ?_)
      try dsimp only
      obtain ⟨l1, l2⟩ := hT.2.2.2.2.2 l hl
      obtain ⟨a1, a2⟩ := hR.2.2.2.2.2 l hl
      have hlt := (pas_btw hT (hb k) l (by omega)).1.1
      rw [px_rd (by omega) (by decide), a1, Option.bind_some, rf_has (by omega) (by omega), Option.bind_some, px_rd (by omega) (by decide), a2, Option.bind_some, px_sh (by omega), px_or]
      simp only [pas]
      by_cases hbl : (pas T (pss T x0 k) l).testBit (T 8 l) = true
      · rw [if_neg (show ¬ (if (pas T (pss T x0 k) l).testBit (T 8 l) = true then (1 : Int32) else 0) = 0 by rw [if_pos hbl]; decide), if_pos hbl]
      · rw [if_pos (show (if (pas T (pss T x0 k) l).testBit (T 8 l) = true then (1 : Int32) else 0) = 0 by rw [if_neg hbl]), if_neg hbl, px_0, px_or, Nat.or_zero]
    rw [← nI_1]
    exact e
end LINKS
