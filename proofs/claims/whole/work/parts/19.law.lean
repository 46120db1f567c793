theorem law_cond {L k : Nat} (hL : L ≤ 2048) (hk : k ≤ 4096) : (nI L - (4 : Int32)) < nI k ↔ ¬ k + 4 ≤ L := by
  have e : (nI L - nI 4).toInt = (L : Int) - 4 := pk_sub_toInt (by omega) (by decide)
  rw [show (4 : Int32) = nI 4 from rfl, Int32.lt_iff_toInt_lt, e, nI_toInt (by omega)]
  omega
set_option maxHeartbeats 4000000 in
set_option maxRecDepth 100000 in
theorem law_loop {p : Program} {l : Launch} {e : Env} {s : State} {m : MethodId} {below : List Frame} {meth : Method} {c : Code} {D : va_G} {cI cZ cO : ClassId} {t b L : Nat} {xs : Nat → Int32} (hL : L ≤ 2048) (C0 : lw_At p s m meth c b L xs) (hK : va_K D vwCl (tyA cI cZ cO) s) (hZ : mk_Z cI t (fun q : Nat => s.heap.size ≤ q) s s.heap) :
    ∀ (n k : Nat), k ≤ L + 4 → L + 1 ≤ k + n → ∀ (a : Nat → Nat → Nat) (c0 : CU) (sd : Int64) (bm : Nat → Nat) (u0 : TU) (sm : Int64) (H : Heap) (locs : List Loc) (ls : Array Slot), Rel c0 sd u0 sm → va_P D vwCl (wX6 cI cO a c0 sd ++ wX7 cI cZ bm u0 sm) H → va_D (fun q : Nat => s.heap.size ≤ q) (wX6 cI cO a c0 sd ++ wX7 cI cZ bm u0 sm) → va_S (fun q : Nat => s.heap.size ≤ q) s.heap H locs → lv_has ls 4 [(0, .ref b), (1, .ref (a 0 0)), (2, .ref (bm 0)), (3, .int (nI k))] → W p l e room_1 s m #[Value.ref b] below meth c H locs 64 691 (lw_Z below #[Value.ref b] s) (F0 m 18 ls []) := by
  obtain ⟨hx, hb, hr, hml, hown, hts, hX, hbl, hlocks, hgv⟩ := id C0
  have hA : ∀ q : Nat, s.heap.size ≤ q → (fun q : Nat => s.heap.size ≤ q) q := fun _ h => h
  have hbA : ¬ (fun q : Nat => s.heap.size ≤ q) b := Nat.not_le.mpr hbl
  intro n
  induction n with
  | zero =>
    intro k hk1 hk2 a c0 sd bm u0 sm H locs ls hR hP hD hS hl
    refine lv_iload_n hx hb dL_law_18 rfl (lv_at hl 3 rfl) ?_
    refine lv_aload_n hx hb dL_law_19 rfl (lv_at hl 0 rfl) ?_
    refine va_slen hx hb hX hbl hbA hS dL_law_20 ?_
    refine lv_iconst (v := (4 : Int32)) hx hb dL_law_21 (by decide) ?_
    refine lv_isub hx hb dL_law_22 ?_
    refine lv_icmp_gt (tgt := 899) hx hb dL_law_23 (by decide) (fun _ => ?_) (fun q => absurd ((law_cond hL (by omega)).mpr (by omega)) q)
    refine lv_iconst (v := 1) hx hb dL_law_899 (by decide) ?_
    refine va_forget (fun q hq => hS.2.2 q hq) ?_
    refine W.widen (k := 600000) (n := 7302250) (by decide) (by decide) ?_
    exact lw_ret hx hb hr hlocks dL_law_900
  | succ n ih =>
    intro k hk1 hk2 a c0 sd bm u0 sm H locs ls hR hP hD hS hl
    have kk : k + 4 ≤ L → ∀ (a : Nat → Nat → Nat) (c0 : CU) (sd : Int64) (bm : Nat → Nat) (u0 : TU) (sm : Int64) (H : Heap) (locs : List Loc) (ls : Array Slot), Rel c0 sd u0 sm → va_P D vwCl (wX6 cI cO a c0 sd ++ wX7 cI cZ bm u0 sm) H → va_D (fun q : Nat => s.heap.size ≤ q) (wX6 cI cO a c0 sd ++ wX7 cI cZ bm u0 sm) → va_S (fun q : Nat => s.heap.size ≤ q) s.heap H locs → lv_has ls 4 [(0, .ref b), (1, .ref (a 0 0)), (2, .ref (bm 0)), (3, .int (nI k))] → W p l e room_1 s m #[Value.ref b] below meth c H locs 64 691 (lw_Z below #[Value.ref b] s) (F0 m 893 ls []) := by
      intro hk a c0 sd bm u0 sm H locs ls hR hP hD hS hl
      refine lv_iinc (v := nI (k + 4)) (lv' := [(3, .int (nI (k + 4))), (0, .ref b), (1, .ref (a 0 0)), (2, .ref (bm 0))]) hx hb dL_law_893 hl (k := 3) rfl (nI_add k 4) (by decide) rfl (fun ls hl => ?_)
      refine lv_goto (tgt := 18) hx hb dL_law_896 (by decide) ?_
      exact ih (k + 4) (by omega) (by omega) a c0 sd bm u0 sm H locs ls hR hP hD hS (lv_sub hl [1, 2, 3, 0] rfl)
    refine lv_iload_n hx hb dL_law_18 rfl (lv_at hl 3 rfl) ?_
    refine lv_aload_n hx hb dL_law_19 rfl (lv_at hl 0 rfl) ?_
    refine va_slen hx hb hX hbl hbA hS dL_law_20 ?_
    refine lv_iconst (v := (4 : Int32)) hx hb dL_law_21 (by decide) ?_
    refine lv_isub hx hb dL_law_22 ?_
    refine lv_icmp_gt (tgt := 899) hx hb dL_law_23 (by decide) (fun _ => ?_) (fun q => ?_)
    · refine lv_iconst (v := 1) hx hb dL_law_899 (by decide) ?_
      refine va_forget (fun q hq => hS.2.2 q hq) ?_
      refine W.widen (k := 600000) (n := 7302250) (by decide) (by decide) ?_
      exact lw_ret hx hb hr hlocks dL_law_900
    have hk : k + 4 ≤ L := Decidable.not_not.mp fun h => q ((law_cond hL (by omega)).mpr h)
    refine lv_aload_n hx hb dL_law_26 rfl (lv_at hl 0 rfl) ?_
    refine lv_iload_n hx hb dL_law_27 rfl (lv_at hl 3 rfl) ?_
    refine va_sld hx hb hX hbl hbA hS (vp_in_nI (by omega) (by omega)) dL_law_28 ?_
    refine lv_bipush (v := (31 : Int32)) hx hb dL_law_29 (by decide) ?_
    refine lv_iand hx hb dL_law_31 ?_
    refine lv_topi (fun z ez => ?_)
    by_cases q0 : z = (0 : Int32)
    · refine lv_tableIn (off := 128) (tgt := 160) hx hb dL_law_32 (by rw [q0]; decide) (by rw [q0]; decide) (by rw [q0]; rfl) (by decide) ?_
      exact law_c0 st_write hL C0 hK hZ k hk (kk hk) a c0 sd bm u0 sm H locs ls hR hP hD hS hl
    by_cases q1 : z = (1 : Int32)
    · refine lv_tableIn (off := 151) (tgt := 183) hx hb dL_law_32 (by rw [q1]; decide) (by rw [q1]; decide) (by rw [q1]; rfl) (by decide) ?_
      exact law_c1 st_wipe hL C0 hK hZ k hk (kk hk) a c0 sd bm u0 sm H locs ls hR hP hD hS hl
    by_cases q2 : z = (2 : Int32)
    · refine lv_tableIn (off := 164) (tgt := 196) hx hb dL_law_32 (by rw [q2]; decide) (by rw [q2]; decide) (by rw [q2]; rfl) (by decide) ?_
      exact law_c2 st_fault hL C0 hK hZ k hk (kk hk) a c0 sd bm u0 sm H locs ls hR hP hD hS hl
    by_cases q3 : z = (3 : Int32)
    · refine lv_tableIn (off := 177) (tgt := 209) hx hb dL_law_32 (by rw [q3]; decide) (by rw [q3]; decide) (by rw [q3]; rfl) (by decide) ?_
      exact law_c3 st_town hL C0 hK hZ k hk (kk hk) a c0 sd bm u0 sm H locs ls hR hP hD hS hl
    by_cases q4 : z = (4 : Int32)
    · refine lv_tableIn (off := 190) (tgt := 222) hx hb dL_law_32 (by rw [q4]; decide) (by rw [q4]; decide) (by rw [q4]; rfl) (by decide) ?_
      exact law_c4 st_thing hL C0 hK hZ k hk (kk hk) a c0 sd bm u0 sm H locs ls hR hP hD hS hl
    by_cases q5 : z = (5 : Int32)
    · refine lv_tableIn (off := 223) (tgt := 255) hx hb dL_law_32 (by rw [q5]; decide) (by rw [q5]; decide) (by rw [q5]; rfl) (by decide) ?_
      exact law_c5 st_asker hL C0 hK hZ k hk (kk hk) a c0 sd bm u0 sm H locs ls hR hP hD hS hl
    by_cases q6 : z = (6 : Int32)
    · refine lv_tableIn (off := 256) (tgt := 288) hx hb dL_law_32 (by rw [q6]; decide) (by rw [q6]; decide) (by rw [q6]; rfl) (by decide) ?_
      exact law_c6 st_ask hL C0 hK hZ k hk (kk hk) a c0 sd bm u0 sm H locs ls hR hP hD hS hl
    by_cases q7 : z = (7 : Int32)
    · refine lv_tableIn (off := 289) (tgt := 321) hx hb dL_law_32 (by rw [q7]; decide) (by rw [q7]; decide) (by rw [q7]; rfl) (by decide) ?_
      exact law_c7 st_day hL C0 hK hZ k hk (kk hk) a c0 sd bm u0 sm H locs ls hR hP hD hS hl
    by_cases q8 : z = (8 : Int32)
    · refine lv_tableIn (off := 302) (tgt := 334) hx hb dL_law_32 (by rw [q8]; decide) (by rw [q8]; decide) (by rw [q8]; rfl) (by decide) ?_
      exact law_c8 st_sell hL C0 hK hZ k hk (kk hk) a c0 sd bm u0 sm H locs ls hR hP hD hS hl
    by_cases q9 : z = (9 : Int32)
    · refine lv_tableIn (off := 325) (tgt := 357) hx hb dL_law_32 (by rw [q9]; decide) (by rw [q9]; decide) (by rw [q9]; rfl) (by decide) ?_
      exact law_c9 st_undo hL C0 hK hZ k hk (kk hk) a c0 sd bm u0 sm H locs ls hR hP hD hS hl
    by_cases q10 : z = (10 : Int32)
    · refine lv_tableIn (off := 338) (tgt := 370) hx hb dL_law_32 (by rw [q10]; decide) (by rw [q10]; decide) (by rw [q10]; rfl) (by decide) ?_
      exact law_c10 st_worlds hL C0 hK hZ k hk (kk hk) a c0 sd bm u0 sm H locs ls hR hP hD hS hl
    by_cases q11 : z = (11 : Int32)
    · refine lv_tableIn (off := 361) (tgt := 393) hx hb dL_law_32 (by rw [q11]; decide) (by rw [q11]; decide) (by rw [q11]; rfl) (by decide) ?_
      exact law_c11 st_holds hL C0 hK hZ k hk (kk hk) a c0 sd bm u0 sm H locs ls hR hP hD hS hl
    by_cases q12 : z = (12 : Int32)
    · refine lv_tableIn (off := 384) (tgt := 416) hx hb dL_law_32 (by rw [q12]; decide) (by rw [q12]; decide) (by rw [q12]; rfl) (by decide) ?_
      exact law_c12 st_likely hL C0 hK hZ k hk (kk hk) a c0 sd bm u0 sm H locs ls hR hP hD hS hl
    by_cases q13 : z = (13 : Int32)
    · refine lv_tableIn (off := 443) (tgt := 475) hx hb dL_law_32 (by rw [q13]; decide) (by rw [q13]; decide) (by rw [q13]; rfl) (by decide) ?_
      exact law_c13 st_wise hL C0 hK hZ k hk (kk hk) a c0 sd bm u0 sm H locs ls hR hP hD hS hl
    by_cases q14 : z = (14 : Int32)
    · refine lv_tableIn (off := 476) (tgt := 508) hx hb dL_law_32 (by rw [q14]; decide) (by rw [q14]; decide) (by rw [q14]; rfl) (by decide) ?_
      exact law_c14 st_worth hL C0 hK hZ k hk (kk hk) a c0 sd bm u0 sm H locs ls hR hP hD hS hl
    by_cases q15 : z = (15 : Int32)
    · refine lv_tableIn (off := 525) (tgt := 557) hx hb dL_law_32 (by rw [q15]; decide) (by rw [q15]; decide) (by rw [q15]; rfl) (by decide) ?_
      exact law_c15 st_toAsk hL C0 hK hZ k hk (kk hk) a c0 sd bm u0 sm H locs ls hR hP hD hS hl
    by_cases q16 : z = (16 : Int32)
    · refine lv_tableIn (off := 538) (tgt := 570) hx hb dL_law_32 (by rw [q16]; decide) (by rw [q16]; decide) (by rw [q16]; rfl) (by decide) ?_
      exact law_c16 st_by hL C0 hK hZ k hk (kk hk) a c0 sd bm u0 sm H locs ls hR hP hD hS hl
    by_cases q17 : z = (17 : Int32)
    · refine lv_tableIn (off := 561) (tgt := 593) hx hb dL_law_32 (by rw [q17]; decide) (by rw [q17]; decide) (by rw [q17]; rfl) (by decide) ?_
      exact law_c17 st_fewest hL C0 hK hZ k hk (kk hk) a c0 sd bm u0 sm H locs ls hR hP hD hS hl
    by_cases q18 : z = (18 : Int32)
    · refine lv_tableIn (off := 574) (tgt := 606) hx hb dL_law_32 (by rw [q18]; decide) (by rw [q18]; decide) (by rw [q18]; rfl) (by decide) ?_
      exact law_c18 st_share hL C0 hK hZ k hk (kk hk) a c0 sd bm u0 sm H locs ls hR hP hD hS hl
    by_cases q19 : z = (19 : Int32)
    · refine lv_tableIn (off := 623) (tgt := 655) hx hb dL_law_32 (by rw [q19]; decide) (by rw [q19]; decide) (by rw [q19]; rfl) (by decide) ?_
      exact law_c19 st_see hL C0 hK hZ k hk (kk hk) a c0 sd bm u0 sm H locs ls hR hP hD hS hl
    by_cases q20 : z = (20 : Int32)
    · refine lv_tableIn (off := 656) (tgt := 688) hx hb dL_law_32 (by rw [q20]; decide) (by rw [q20]; decide) (by rw [q20]; rfl) (by decide) ?_
      exact law_c20 st_unsee hL C0 hK hZ k hk (kk hk) a c0 sd bm u0 sm H locs ls hR hP hD hS hl
    by_cases q21 : z = (21 : Int32)
    · refine lv_tableIn (off := 669) (tgt := 701) hx hb dL_law_32 (by rw [q21]; decide) (by rw [q21]; decide) (by rw [q21]; rfl) (by decide) ?_
      exact law_c21 st_which hL C0 hK hZ k hk (kk hk) a c0 sd bm u0 sm H locs ls hR hP hD hS hl
    by_cases q22 : z = (22 : Int32)
    · refine lv_tableIn (off := 682) (tgt := 714) hx hb dL_law_32 (by rw [q22]; decide) (by rw [q22]; decide) (by rw [q22]; rfl) (by decide) ?_
      exact law_c22 st_judge hL C0 hK hZ k hk (kk hk) a c0 sd bm u0 sm H locs ls hR hP hD hS hl
    by_cases q23 : z = (23 : Int32)
    · refine lv_tableIn (off := 715) (tgt := 747) hx hb dL_law_32 (by rw [q23]; decide) (by rw [q23]; decide) (by rw [q23]; rfl) (by decide) ?_
      exact law_c23 st_seed hL C0 hK hZ k hk (kk hk) a c0 sd bm u0 sm H locs ls hR hP hD hS hl
    by_cases q24 : z = (24 : Int32)
    · refine lv_tableIn (off := 769) (tgt := 801) hx hb dL_law_32 (by rw [q24]; decide) (by rw [q24]; decide) (by rw [q24]; rfl) (by decide) ?_
      exact law_c24 st_year hL C0 hK hZ k hk (kk hk) a c0 sd bm u0 sm H locs ls hR hP hD hS hl
    by_cases q25 : z = (25 : Int32)
    · refine lv_tableIn (off := 792) (tgt := 824) hx hb dL_law_32 (by rw [q25]; decide) (by rw [q25]; decide) (by rw [q25]; rfl) (by decide) ?_
      exact law_c25 st_keep hL C0 hK hZ k hk (kk hk) a c0 sd bm u0 sm H locs ls hR hP hD hS hl
    by_cases q26 : z = (26 : Int32)
    · refine lv_tableIn (off := 815) (tgt := 847) hx hb dL_law_32 (by rw [q26]; decide) (by rw [q26]; decide) (by rw [q26]; rfl) (by decide) ?_
      exact law_c26 st_again hL C0 hK hZ k hk (kk hk) a c0 sd bm u0 sm H locs ls hR hP hD hS hl
    by_cases q27 : z = (27 : Int32)
    · refine lv_tableIn (off := 838) (tgt := 870) hx hb dL_law_32 (by rw [q27]; decide) (by rw [q27]; decide) (by rw [q27]; rfl) (by decide) ?_
      exact law_c27 st_count hL C0 hK hZ k hk (kk hk) a c0 sd bm u0 sm H locs ls hR hP hD hS hl
    refine lv_tableOut (tgt := 893) hx hb dL_law_32 (by have y0 := mk_ne (z := 0) (by decide) q0; have y1 := mk_ne (z := 1) (by decide) q1; have y2 := mk_ne (z := 2) (by decide) q2; have y3 := mk_ne (z := 3) (by decide) q3; have y4 := mk_ne (z := 4) (by decide) q4; have y5 := mk_ne (z := 5) (by decide) q5; have y6 := mk_ne (z := 6) (by decide) q6; have y7 := mk_ne (z := 7) (by decide) q7; have y8 := mk_ne (z := 8) (by decide) q8; have y9 := mk_ne (z := 9) (by decide) q9; have y10 := mk_ne (z := 10) (by decide) q10; have y11 := mk_ne (z := 11) (by decide) q11; have y12 := mk_ne (z := 12) (by decide) q12; have y13 := mk_ne (z := 13) (by decide) q13; have y14 := mk_ne (z := 14) (by decide) q14; have y15 := mk_ne (z := 15) (by decide) q15; have y16 := mk_ne (z := 16) (by decide) q16; have y17 := mk_ne (z := 17) (by decide) q17; have y18 := mk_ne (z := 18) (by decide) q18; have y19 := mk_ne (z := 19) (by decide) q19; have y20 := mk_ne (z := 20) (by decide) q20; have y21 := mk_ne (z := 21) (by decide) q21; have y22 := mk_ne (z := 22) (by decide) q22; have y23 := mk_ne (z := 23) (by decide) q23; have y24 := mk_ne (z := 24) (by decide) q24; have y25 := mk_ne (z := 25) (by decide) q25; have y26 := mk_ne (z := 26) (by decide) q26; have y27 := mk_ne (z := 27) (by decide) q27; omega) (by decide) ?_
    exact kk hk a c0 sd bm u0 sm H locs ls hR hP hD hS hl
theorem tX0 : ∀ w ∈ u_ws RX0 TX0 4, w ∈ lw_tbl := fun w h => by
  rw [show u_ws RX0 TX0 4 = [(1, 168), (1, 170), (1, 172), (1, 174)].filterMap (fun p : Nat × Nat => (mk_tb p.1)[p.2]?) from rfl] at h
  obtain ⟨i, -, hi⟩ := List.mem_filterMap.mp h
  exact mk_tbm i.1 i.2 hi
theorem tX1 : ∀ w ∈ u_ws RX1 TX1 1, w ∈ lw_tbl := fun w h => by
  rw [show u_ws RX1 TX1 1 = [(1, 202)].filterMap (fun p : Nat × Nat => (mk_tb p.1)[p.2]?) from rfl] at h
  obtain ⟨i, -, hi⟩ := List.mem_filterMap.mp h
  exact mk_tbm i.1 i.2 hi
theorem tX2 : ∀ w ∈ u_ws RX2 TX2 5, w ∈ lw_tbl := fun w h => by
  rw [show u_ws RX2 TX2 5 = [(1, 146), (1, 148), (1, 150), (1, 152), (1, 154)].filterMap (fun p : Nat × Nat => (mk_tb p.1)[p.2]?) from rfl] at h
  obtain ⟨i, -, hi⟩ := List.mem_filterMap.mp h
  exact mk_tbm i.1 i.2 hi
theorem tX3 : ∀ w ∈ u_ws RX3 TX3 4, w ∈ lw_tbl := fun w h => by
  rw [show u_ws RX3 TX3 4 = [(1, 29), (1, 31), (1, 33), (1, 35)].filterMap (fun p : Nat × Nat => (mk_tb p.1)[p.2]?) from rfl] at h
  obtain ⟨i, -, hi⟩ := List.mem_filterMap.mp h
  exact mk_tbm i.1 i.2 hi
theorem tX4 : ∀ w ∈ u_ws RX4 TX4 3, w ∈ lw_tbl := fun w h => by
  rw [show u_ws RX4 TX4 3 = [(1, 188), (1, 190), (1, 192)].filterMap (fun p : Nat × Nat => (mk_tb p.1)[p.2]?) from rfl] at h
  obtain ⟨i, -, hi⟩ := List.mem_filterMap.mp h
  exact mk_tbm i.1 i.2 hi
theorem tX5 : ∀ w ∈ u_ws RX5 TX5 14, w ∈ lw_tbl := fun w h => by
  rw [show u_ws RX5 TX5 14 = [(1, 92), (1, 94), (1, 96), (1, 98), (1, 100), (1, 102), (1, 104), (1, 106), (1, 108), (1, 110), (1, 112), (1, 114), (1, 116), (1, 118)].filterMap (fun p : Nat × Nat => (mk_tb p.1)[p.2]?) from rfl] at h
  obtain ⟨i, -, hi⟩ := List.mem_filterMap.mp h
  exact mk_tbm i.1 i.2 hi
theorem tX6 : ∀ w ∈ u_ws RX6 TX6 12, w ∈ lw_tbl := fun w h => by
  rw [show u_ws RX6 TX6 12 = [(1, 217), (1, 219), (1, 221), (1, 223), (1, 225), (1, 227), (1, 229), (1, 231), (1, 233), (1, 235), (1, 237), (1, 239)].filterMap (fun p : Nat × Nat => (mk_tb p.1)[p.2]?) from rfl] at h
  obtain ⟨i, -, hi⟩ := List.mem_filterMap.mp h
  exact mk_tbm i.1 i.2 hi
theorem tX7 : ∀ w ∈ u_ws RX7 TX7 33, w ∈ lw_tbl := fun w h => by
  rw [show u_ws RX7 TX7 33 = [(3, 224), (3, 226), (3, 228), (3, 230), (3, 232), (3, 234), (3, 236), (3, 238), (4, 0), (4, 2), (4, 4), (4, 6), (4, 8), (4, 10), (4, 12), (4, 14), (4, 16), (4, 18), (4, 20), (4, 22), (4, 24), (4, 26), (4, 28), (4, 30), (4, 32), (4, 34), (4, 36), (4, 38), (4, 40), (4, 42), (4, 44), (4, 46), (4, 48)].filterMap (fun p : Nat × Nat => (mk_tb p.1)[p.2]?) from rfl] at h
  obtain ⟨i, -, hi⟩ := List.mem_filterMap.mp h
  exact mk_tbm i.1 i.2 hi
theorem lw_Zs {b : Nat} {s : State} (hts : ∀ w ∈ lw_tbl, w.before #[Value.ref b] s = true) (hgv : (Jvm.Cond.and given_1 narrow_1).before #[Value.ref b] s = true) (cI : ClassId) : ∃ t, mk_Z cI t (fun q : Nat => s.heap.size ≤ q) s s.heap := by
  have hs := flat_of_before _ hgv
  have ha : (Cond.arrayOf (.static "ClockOnce$Asking" "ORDERS" "[I") .int).before #[Value.ref b] s = true := hs _ (by decide +kernel)
  have hl := va_eqt (hs (Cond.eq (.length (.static "ClockOnce$Asking" "ORDERS" "[I")) (.int 5)) (by decide +kernel))
  have h0 := va_eqt (hs (Cond.eq (.elem (.static "ClockOnce$Asking" "ORDERS" "[I") (.int 0)) (.int 1)) (by decide +kernel))
  have h1 := va_eqt (hs (Cond.eq (.elem (.static "ClockOnce$Asking" "ORDERS" "[I") (.int 1)) (.int 1)) (by decide +kernel))
  have h2 := va_eqt (hs (Cond.eq (.elem (.static "ClockOnce$Asking" "ORDERS" "[I") (.int 2)) (.int 2)) (by decide +kernel))
  have h3 := va_eqt (hs (Cond.eq (.elem (.static "ClockOnce$Asking" "ORDERS" "[I") (.int 3)) (.int 6)) (by decide +kernel))
  have h4 := va_eqt (hs (Cond.eq (.elem (.static "ClockOnce$Asking" "ORDERS" "[I") (.int 4)) (.int 24)) (by decide +kernel))
  obtain ⟨t, ht, hT⟩ := va_Tof (N := 5) (f := fun j => .int (mk_od j)) (A := fun q : Nat => s.heap.size ≤ q) (by decide) ha hl (fun j hj => by
    rcases (show j = 0 ∨ j = 1 ∨ j = 2 ∨ j = 3 ∨ j = 4 by omega) with rfl | rfl | rfl | rfl | rfl
    · exact h0
    · exact h1
    · exact h2
    · exact h3
    · exact h4) (fun a h => Nat.not_le.mpr h)
  exact ⟨t, va_Zref (hts (.laysStatic "ClockOnce$Asking" "ORDERS" "[I") (mk_tbm 3 103 rfl)) (hts (.initialized RX1) (mk_tbm 1 7 rfl)) ht (fun a h => Nat.not_le.mpr h), hT⟩
set_option maxHeartbeats 8000000 in
set_option maxRecDepth 100000 in
theorem whole_start {p : Program} {e : Env} {s : State} {m : MethodId} {below : List Frame} {meth : Method} {c : Code} (l : Launch) {b L : Nat} {xs : Nat → Int32} (hL : L ≤ 2048) (C0 : lw_At p s m meth c b L xs) : W p l e room_1 s m #[Value.ref b] below meth c s.heap [] 0 0 (lw_Z below #[Value.ref b] s) (entryFrame m ([Value.ref b] : List Value).toArray 4) := by
  obtain ⟨hx, hb, hr, hml, hown, hts, hX, hbl, hlocks, hgv⟩ := id C0
  have hA : ∀ q : Nat, s.heap.size ≤ q → (fun q : Nat => s.heap.size ≤ q) q := fun _ h => h
  have hbA : ¬ (fun q : Nat => s.heap.size ≤ q) b := Nat.not_le.mpr hbl
  obtain ⟨k0, i0, hKn0⟩ := u_known (C := RX0) (T := TX0) (N := 4) (n := 4) hts tX0 (hts (.instantiable RX0 4) (mk_tbm 1 158 rfl))
  obtain ⟨k1, i1, hKn1⟩ := u_known (C := RX1) (T := TX1) (N := 1) (n := 1) hts tX1 (hts (.instantiable RX1 1) (mk_tbm 1 196 rfl))
  obtain ⟨k2, i2, hKn2⟩ := u_known (C := RX2) (T := TX2) (N := 5) (n := 5) hts tX2 (hts (.instantiable RX2 5) (mk_tbm 1 122 rfl))
  obtain ⟨k3, i3, hKn3⟩ := u_known (C := RX3) (T := TX3) (N := 4) (n := 4) hts tX3 (hts (.instantiable RX3 4) (mk_tbm 1 20 rfl))
  obtain ⟨k4, i4, hKn4⟩ := u_known (C := RX4) (T := TX4) (N := 3) (n := 3) hts tX4 (hts (.instantiable RX4 3) (mk_tbm 1 179 rfl))
  obtain ⟨k5, i5, hKn5⟩ := u_known (C := RX5) (T := TX5) (N := 14) (n := 14) hts tX5 (hts (.instantiable RX5 14) (mk_tbm 1 40 rfl))
  obtain ⟨k6, i6, hKn6⟩ := u_known (C := RX6) (T := TX6) (N := 12) (n := 12) hts tX6 (hts (.instantiable RX6 12) (mk_tbm 1 12 rfl))
  obtain ⟨k7, i7, hKn7⟩ := u_known (C := RX7) (T := TX7) (N := 33) (n := 33) hts tX7 (hts (.instantiable RX7 33) (mk_tbm 3 182 rfl))
  obtain ⟨D, hKc⟩ : ∃ D : va_G, ∀ (k : Nat) (q : vw_C), vwCl[k]? = some q → u_Kn s q.1 q.2.1 q.2.2 (D.1 k) (D.2 k) := by
    refine ⟨((fun k => if k = 0 then k0 else if k = 1 then k1 else if k = 2 then k2 else if k = 3 then k3 else if k = 4 then k4 else if k = 5 then k5 else if k = 6 then k6 else k7), (fun k => if k = 0 then i0 else if k = 1 then i1 else if k = 2 then i2 else if k = 3 then i3 else if k = 4 then i4 else if k = 5 then i5 else if k = 6 then i6 else i7)), ?_⟩
    intro k q hq
    match k, hq with
    | 0, hq => cases hq; exact hKn0
    | 1, hq => cases hq; exact hKn1
    | 2, hq => cases hq; exact hKn2
    | 3, hq => cases hq; exact hKn3
    | 4, hq => cases hq; exact hKn4
    | 5, hq => cases hq; exact hKn5
    | 6, hq => cases hq; exact hKn6
    | 7, hq => cases hq; exact hKn7
    | k + 8, hq => simp [vwCl] at hq
  obtain ⟨cI, kI, pI, f1, f2, f3⟩ := Cond.arrayClass_spec (hts (.arrayClass .int) (mk_tbm 1 38 rfl))
  obtain ⟨cZ, kZ, pZ, z1, z2, z3⟩ := Cond.arrayClass_spec (hts (.arrayClass .boolean) (mk_tbm 4 51 rfl))
  obtain ⟨pO, cO, kO, o1, o2, o3, o4, o5⟩ := Cond.arrayOver_spec (hts (.arrayOver (.object "ClockOnce$Life")) (mk_tbm 1 177 rfl))
  have hK : va_K D vwCl (tyA cI cZ cO) s := by
    refine ⟨hKc, fun k q hq => ?_⟩
    match k, hq with
    | 0, hq => cases hq; exact ⟨fun n z => ⟨fun k h => (by cases h), kI, f2, pI, f3⟩, f1⟩
    | 1, hq => cases hq; exact ⟨fun n z => ⟨fun k h => (by cases h), kZ, z2, pZ, z3⟩, z1⟩
    | 2, hq => cases hq; exact ⟨fun n z => ⟨fun k h => (by cases h), kO, o3, pO, o4⟩, kO, pO, o3, o4, o1, o5⟩
    | k + 3, hq => simp at hq
  obtain ⟨t, hZ⟩ := lw_Zs hts hgv cI
  have hN6 : mk_N6 s := ⟨va_Nw.of rfl (hts (.methodLinkNest RX6 19 yX3_init "ClockOnce") (mk_tbm 1 21 rfl)), va_Nw.of rfl (hts (.methodLinkNest RX6 43 yX0_init "ClockOnce") (mk_tbm 1 159 rfl)), va_Nw.of rfl (hts (.methodLinkNest RX6 54 yX4_init "ClockOnce") (mk_tbm 1 180 rfl)), va_Nw.of rfl (hts (.methodLinkNest RX6 61 yX1_init "ClockOnce") (mk_tbm 1 197 rfl)), va_AO.of (hts (.arrayOver (.object "ClockOnce$Life")) (mk_tbm 1 177 rfl))⟩
  obtain ⟨T0, L0, U0, hT0, hL0, hU0, hR0⟩ := st_init
  have hS : va_S (fun q : Nat => s.heap.size ≤ q) s.heap s.heap [] := va_S.rf
  have hP : va_P D vwCl [] s.heap := fun k q h => by simp at h
  have hD : va_D (fun q : Nat => s.heap.size ≤ q) [] := ⟨fun i j p q h => by simp at h, fun k q h => by simp at h⟩
  have hl := lv_entry ([.ref b]) (n := 4) (Nat.le_of_ble_eq_true rfl)
  rw [lg_entry_eq]
  generalize (lg_sl ([.ref b]) ++ List.replicate (4 - (lg_sl ([.ref b])).length) Slot.unset).toArray = ls at hl ⊢
  have hl : lv_has ls 4 [(0, .ref b)] := hl
  refine va_new (ci := 6) (fs := [.null, .int 0, .null, .null, .null, .null, .null, .null, .null, .null, .null, .long 0]) (C := RX6) (T := TX6) (N := 12) hx hb hts tX6 tyX6 tyX6_ok hown (hts (.classLink RL 7 RX6) (mk_tbm 1 11 rfl)) (hts (.instantiable RX6 12) (mk_tbm 1 12 rfl)) (hts (.initialized RX6) (mk_tbm 1 1 rfl)) hK hP hD hS hA rfl (fun j hj => by rcases (show j = 0 ∨ j = 1 ∨ j = 2 ∨ j = 3 ∨ j = 4 ∨ j = 5 ∨ j = 6 ∨ j = 7 ∨ j = 8 ∨ j = 9 ∨ j = 10 ∨ j = 11 by omega) with rfl | rfl | rfl | rfl | rfl | rfl | rfl | rfl | rfl | rfl | rfl | rfl <;> rfl) (by decide) (by decide) dL_law_0 (fun n0 H hP hD hS => ?_)
  refine W.widen (k := 1) (n := 12) (by omega) (by omega) ?_
  refine lv_dup hx hb dL_law_3 rfl ?_
  refine ec_IX (wr := []) (rest := [.ref n0]) ⟨hx, hb, hml, hown, hts⟩ (c_X6_init l D cI cZ cO NN n0 H.size T0 L0 hT0 hL0) (cwI 0 hts kL_X6_init rfl rfl rfl (hts (.initialized RX6) (mk_tbm 1 1 rfl)) (hts (.methodLink RL 9 yX6_init) (mk_tbm 1 13 rfl)) (hts (.instanceMethod yX6_init) (mk_tbm 1 14 rfl)) rfl (by decide +kernel) ⟨(Nat.le_of_ble_eq_true rfl), (Nat.le_of_ble_eq_true rfl)⟩) mk_N6b (fun U hW => mk_N6w hW hN6) hK hP hD hS hA hl.1 rfl (Nat.le_of_ble_eq_true rfl) dL_law_4 ⟨by decide, by decide⟩ (fun a H locs ha hP1 hD1 hS => ?_)
  subst ha
  have hP : va_P D vwCl (wX6 cI cO a (mk_c0 T0 L0) 0) H := hP1
  have hD : va_D (fun q : Nat => s.heap.size ≤ q) (wX6 cI cO a (mk_c0 T0 L0) 0) := hD1
  refine W.widen (k := 44) (n := 318) (by decide) (by decide) ?_
  refine lv_astore_n (lv' := [(1, .ref (a 0 0)), (0, .ref b)]) hx hb dL_law_7 rfl hl (by decide) rfl (fun ls hl => ?_)
  refine va_new (ci := 7) (fs := [.int 0, .int 0, .int 0, .null, .null, .null, .null, .null, .null, .null, .null, .null, .null, .int 0, .int 0, .int 0, .null, .null, .int 0, .int 0, .int 0, .int 0, .int 0, .null, .int 0, .null, .int 0, .null, .null, .long 0, .null, .null, .null]) (C := RX7) (T := TX7) (N := 33) hx hb hts tX7 tyX7 tyX7_ok hown (hts (.classLink RL 10 RX7) (mk_tbm 3 181 rfl)) (hts (.instantiable RX7 33) (mk_tbm 3 182 rfl)) (hts (.initialized RX7) (mk_tbm 1 8 rfl)) hK hP hD hS hA rfl (fun j hj => by rcases (show j = 0 ∨ j = 1 ∨ j = 2 ∨ j = 3 ∨ j = 4 ∨ j = 5 ∨ j = 6 ∨ j = 7 ∨ j = 8 ∨ j = 9 ∨ j = 10 ∨ j = 11 ∨ j = 12 ∨ j = 13 ∨ j = 14 ∨ j = 15 ∨ j = 16 ∨ j = 17 ∨ j = 18 ∨ j = 19 ∨ j = 20 ∨ j = 21 ∨ j = 22 ∨ j = 23 ∨ j = 24 ∨ j = 25 ∨ j = 26 ∨ j = 27 ∨ j = 28 ∨ j = 29 ∨ j = 30 ∨ j = 31 ∨ j = 32 by omega) with rfl | rfl | rfl | rfl | rfl | rfl | rfl | rfl | rfl | rfl | rfl | rfl | rfl | rfl | rfl | rfl | rfl | rfl | rfl | rfl | rfl | rfl | rfl | rfl | rfl | rfl | rfl | rfl | rfl | rfl | rfl | rfl | rfl <;> rfl) (by decide) (by decide) dL_law_8 (fun n1 H hP hD hS => ?_)
  refine W.widen (k := 45) (n := 351) (by omega) (by omega) ?_
  refine lv_dup hx hb dL_law_11 rfl ?_
  refine ec_I (rest := [.ref n1]) ⟨hx, hb, hml, hown, hts⟩ (c_X7_init l D cI cZ cO NN n1 H.size U0 hU0) (cwI 0 hts kL_X7_init rfl rfl rfl (hts (.initialized RX7) (mk_tbm 1 8 rfl)) (hts (.methodLink RL 12 yX7_init) (mk_tbm 3 183 rfl)) (hts (.instanceMethod yX7_init) (mk_tbm 3 184 rfl)) rfl (by decide +kernel) ⟨(Nat.le_of_ble_eq_true rfl), (Nat.le_of_ble_eq_true rfl)⟩) hK hP hD hS hA hl.1 rfl (Nat.le_of_ble_eq_true rfl) dL_law_12 ⟨by decide, by decide⟩ (fun bm H locs ha hP1 hD1 hS => ?_)
  subst ha
  refine W.widen (k := 64) (n := 691) (by decide) (by decide) ?_
  refine lv_astore_n (lv' := [(2, .ref (bm 0)), (1, .ref (a 0 0)), (0, .ref b)]) hx hb dL_law_15 rfl hl (by decide) rfl (fun ls hl => ?_)
  refine lv_iconst (v := (0 : Int32)) hx hb dL_law_16 (by decide) ?_
  refine lv_istore_n (lv' := [(3, .int (nI 0)), (2, .ref (bm 0)), (1, .ref (a 0 0)), (0, .ref b)]) hx hb dL_law_17 rfl hl (by decide) rfl (fun ls hl => ?_)
  exact law_loop hL C0 hK hZ (L + 1) 0 (by omega) (by omega) a (mk_c0 T0 L0) 0 bm U0 0 H locs ls hR0 hP1 hD1 hS (lv_sub hl [3, 2, 1, 0] rfl)
