/-! loops by what holds ahead of each turn; the worths of all sets on both sides -/
theorem lq2_inv {A w : Type} {b : (A → Int32 → Option w) → A → Int32 → Option w} (i0 e N : Nat) (I : Nat → A → Prop) (fin : A → Option w) (hx : ∀ rec a, I e a → b rec a (nI e) = fin a) (hs : ∀ rec a i, i0 ≤ i → i < e → I i a → ∃ a', I (i + 1) a' ∧ b rec a (nI i) = rec a' (nI (i + 1))) (a0 : A) (h0 : I i0 a0) (hi : i0 ≤ e) (hN : e - i0 < N) : ∃ a, I e a ∧ lq2 b N a0 (nI i0) = fin a := by
  obtain ⟨k, rfl⟩ : ∃ k, e = i0 + k := ⟨e - i0, by omega⟩
  induction N generalizing i0 k a0 with
  | zero => omega
  | succ N ih =>
    simp only [lq2]
    cases k with
    | zero => exact ⟨a0, h0, hx _ _ h0⟩
    | succ k =>
      obtain ⟨a', h1, h2⟩ := hs (lq2 b N) a0 i0 (Nat.le_refl _) (by omega) h0
      rw [h2]
      have e1 : i0 + (k + 1) = i0 + 1 + k := by omega
      rw [e1] at hx ⊢
      exact ih (i0 + 1) a' h1 k hx (fun rec a i g1 g2 g3 => hs rec a i (by omega) (by omega) g3) (by omega) (by omega)
section WORTHS
variable {T : NT} {u v l z : TU} {A : Nat → Int32} {N : Nat} {sd : Int64}
theorem cq_find (hT : wfT T) (hC : CT v T) (hL : lifeR l A) (hN : 700 ≤ N) {d : Nat} (hd : d ≤ 9) (ed : A 0 = nI d) : ∃ z', f_X1_findWorths N z v l = some z' ∧ ∀ s, s < 2 ^ T 0 0 → z' 1 s = nI (wth T A d s) := by
  have h4 := hT.1
  have h16 := px_sh16 h4
  unfold f_X1_findWorths
  rw [hL.1, ed, ct_seen hT hC hN hd, Option.bind_some]
  obtain ⟨z', h1, h2⟩ := lq2_inv (b := g_X1_findWorths_12 N v l (nI (mkm (seenW T d) (2 ^ T 0 0)))) 0 (2 ^ T 0 0) N (fun i z' => ∀ s, s < i → z' 1 s = nI (wth T A d s)) (fun z' => some z') (fun rec a _ => by
    unfold g_X1_findWorths_12
    rw [hC.1.1, px_sh (by omega), if_pos (Int32.le_refl _)]) (fun rec a i _ hi ha => by
    refine ⟨mk_put a 1 i (nI (wth T A d i)), fun s hs => ?_, ?_⟩
    · show upd (a 1) i _ s = _
      by_cases hsi : s = i
      · subst hsi; rw [upd_s]
      · rw [upd_n _ hsi]; exact ha s (by omega)
    · unfold g_X1_findWorths_12 mk_nm
      rw [hC.1.1, px_sh (by omega), if_neg (nI_ge hi (by omega)), cq_worth hT hC hL hN hd ed hi, Option.bind_some, px_ix (by omega) (by decide), Option.bind_some, nI_clamp (by omega), nI_1]) z (fun s hs => absurd hs (by omega)) (Nat.zero_le _) (by omega)
  exact ⟨z', h2, h1⟩
/-- the reference's scratch may differ -/
def scr (u w : TU) : Prop := (∀ k, k ≠ 0 → k ≠ 14 → w k = u k) ∧ (∀ j, j ≠ 11 → w 0 j = u 0 j)
theorem scr_RT {w : TU} (h : scr u w) (hR : RT u T) : RT w T := RT_of (fun j hj => h.2 j (by omega)) (fun k h1 h2 => h.1 k (by omega) (by omega)) hR
theorem scr_now {w : TU} (h : scr u w) (hR : nowR u A) : nowR w A := now_of (fun j _ => by rw [h.1 11 (by decide) (by decide)]) hR
theorem scr_put {w : TU} (h : scr u w) (y : Int32) : scr u (mk_put w 0 11 y) := ⟨fun k h1 h2 => by unfold mk_put; rw [if_neg h1]; exact h.1 k h1 h2, fun j hj => by show upd (w 0) 11 y j = _; rw [upd_n _ hj]; exact h.2 j hj⟩
theorem scr_rel {w : TU} {c : CU} (h : scr u w) (hR : RelA T A c u) : RelA T A c w := by
  obtain ⟨hT, hC, hM, hA, hL, hW, hTx, hAc, h6, h7, hSe⟩ := hR
  exact ⟨hT, hC, scr_RT h hM, hA, hL, scr_now h hW, Text_of (h.2 6 (by decide)) (h.1 12 (by decide) (by decide)) hTx, Acts_of (h.2 9 (by decide)) (h.2 10 (by decide)) (h.1 13 (by decide) (by decide)) hAc, Slot_of (by rw [h.1 18 (by decide) (by decide)]) (fun j _ => by rw [h.1 19 (by decide) (by decide)]) h6, Slot_of (by rw [h.1 18 (by decide) (by decide)]) (fun j _ => by rw [h.1 19 (by decide) (by decide)]) h7, Seen_of (h.2 12 (by decide)) (h.1 15 (by decide) (by decide)) (h.1 16 (by decide) (by decide)) hSe⟩
theorem rq_find (hT : wfT T) (hR : RT u T) (hW : nowR u A) (hN : 700 ≤ N) {d : Nat} (hd : d ≤ 9) (ed : A 0 = nI d) : ∃ w, f_X7_layWorths N u sd = some w ∧ scr u w ∧ ∀ s, s < 2 ^ T 0 0 → w 14 s = nI (wth T A d s) := by
  have h4 := hT.1
  have h16 := px_sh16 h4
  unfold f_X7_layWorths
  obtain ⟨w, h1, h2⟩ := lq2_inv (b := g_X7_layWorths_2 N sd) 0 (2 ^ T 0 0) N (fun i w => scr u w ∧ ∀ s, s < i → w 14 s = nI (wth T A d s)) (fun w => some w) (fun rec a ha => by
    unfold g_X7_layWorths_2
    rw [(scr_RT ha.1 hR).1, px_sh (by omega), if_pos (Int32.le_refl _)]) (fun rec a i _ hi ha => by
    obtain ⟨y, hy⟩ := rq_worth (sd := sd) hT (scr_RT ha.1 hR) (scr_now ha.1 hW) hN hd ed hi
    have p := scr_put ha.1 y
    refine ⟨mk_put (mk_put a 0 11 y) 14 i (nI (wth T A d i)), ⟨⟨fun k h1 h2 => ?_, fun j hj => p.2 j hj⟩, fun s hs => ?_⟩, ?_⟩
    · show mk_put (mk_put a 0 11 y) 14 i _ k = _
      unfold mk_put
      rw [if_neg h2]
      exact p.1 k h1 h2
    · show upd (a 14) i _ s = _
      by_cases hsi : s = i
      · subst hsi; rw [upd_s]
      · rw [upd_n _ hsi]; exact ha.2 s (by omega)
    · unfold g_X7_layWorths_2 mk_nm
      rw [(scr_RT ha.1 hR).1, px_sh (by omega), if_neg (nI_ge hi (by omega)), hy, Option.bind_some, px_ix (by omega) (by decide), Option.bind_some, nI_clamp (by omega), nI_1]) u ⟨⟨fun _ _ _ => rfl, fun _ _ => rfl⟩, fun s hs => absurd hs (by omega)⟩ (Nat.zero_le _) (by omega)
  exact ⟨w, h2, h1.1, h1.2⟩
end WORTHS
