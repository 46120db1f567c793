def mk_ad2 (fs : List (Nat → Nat)) : Nat → Nat → Nat := fun b => fs.getD b (fun _ => 0)
theorem mk_rcong {D : va_G} {cl : List vw_C} {A : Nat → Prop} {p : Nat} {ws : va_W} {a n : Nat} {cA : ClassId} {f g : Nat → Option Nat} {H : Heap} (h : va_P D cl ws H) (hD : va_D A ws) (hp : ws[p]? = some (a, .inl (cA, n, .inr (.inr (.inr (.inr f)))))) (hfg : ∀ j, j < n → f j = g j) : va_P D cl (ws.set p (a, .inl (cA, n, .inr (.inr (.inr (.inr g)))))) H := by
  refine h.set hD hp ?_ (fun _ _ => rfl)
  have h1 : H[a]? = some (vp_cell cA (n, .inr (.inr (.inr (.inr f))))) := h p _ hp
  show H[a]? = some (vp_cell cA (n, .inr (.inr (.inr (.inr g)))))
  rw [h1, vp_cell_q, vp_cell_q]
  unfold arrV
  congr 3
  funext j
  exact congrArg va_rf (hfg j.val j.isLt)
theorem dX6_init_0 : decode cX6_init 0 = .ok (.aload_n 0, 1) := by decide +kernel
theorem dX6_init_1 : decode cX6_init 1 = .ok (.invokespecial 1, 3) := by decide +kernel
theorem dX6_init_4 : decode cX6_init 4 = .ok (.aload_n 0, 1) := by decide +kernel
theorem dX6_init_5 : decode cX6_init 5 = .ok (.bipush 48, 2) := by decide +kernel
theorem dX6_init_7 : decode cX6_init 7 = .ok (.newarray .int, 2) := by decide +kernel
theorem dX6_init_9 : decode cX6_init 9 = .ok (.putfield 9, 3) := by decide +kernel
theorem dX6_init_12 : decode cX6_init 12 = .ok (.aload_n 0, 1) := by decide +kernel
theorem dX6_init_13 : decode cX6_init 13 = .ok (.iconst 0, 1) := by decide +kernel
theorem dX6_init_14 : decode cX6_init 14 = .ok (.putfield 13, 3) := by decide +kernel
theorem dX6_init_17 : decode cX6_init 17 = .ok (.aload_n 0, 1) := by decide +kernel
theorem dX6_init_18 : decode cX6_init 18 = .ok (.new 17, 3) := by decide +kernel
theorem dX6_init_21 : decode cX6_init 21 = .ok (.dup, 1) := by decide +kernel
theorem dX6_init_22 : decode cX6_init 22 = .ok (.invokespecial 19, 3) := by decide +kernel
theorem dX6_init_25 : decode cX6_init 25 = .ok (.putfield 20, 3) := by decide +kernel
theorem dX6_init_28 : decode cX6_init 28 = .ok (.aload_n 0, 1) := by decide +kernel
theorem dX6_init_29 : decode cX6_init 29 = .ok (.new 24, 3) := by decide +kernel
theorem dX6_init_32 : decode cX6_init 32 = .ok (.dup, 1) := by decide +kernel
theorem dX6_init_33 : decode cX6_init 33 = .ok (.invokespecial 26, 3) := by decide +kernel
theorem dX6_init_36 : decode cX6_init 36 = .ok (.putfield 27, 3) := by decide +kernel
theorem dX6_init_39 : decode cX6_init 39 = .ok (.aload_n 0, 1) := by decide +kernel
theorem dX6_init_40 : decode cX6_init 40 = .ok (.new 24, 3) := by decide +kernel
theorem dX6_init_43 : decode cX6_init 43 = .ok (.dup, 1) := by decide +kernel
theorem dX6_init_44 : decode cX6_init 44 = .ok (.invokespecial 26, 3) := by decide +kernel
theorem dX6_init_47 : decode cX6_init 47 = .ok (.putfield 31, 3) := by decide +kernel
theorem dX6_init_50 : decode cX6_init 50 = .ok (.aload_n 0, 1) := by decide +kernel
theorem dX6_init_51 : decode cX6_init 51 = .ok (.new 34, 3) := by decide +kernel
theorem dX6_init_54 : decode cX6_init 54 = .ok (.dup, 1) := by decide +kernel
theorem dX6_init_55 : decode cX6_init 55 = .ok (.invokespecial 36, 3) := by decide +kernel
theorem dX6_init_58 : decode cX6_init 58 = .ok (.putfield 37, 3) := by decide +kernel
theorem dX6_init_61 : decode cX6_init 61 = .ok (.aload_n 0, 1) := by decide +kernel
theorem dX6_init_62 : decode cX6_init 62 = .ok (.new 41, 3) := by decide +kernel
theorem dX6_init_65 : decode cX6_init 65 = .ok (.dup, 1) := by decide +kernel
theorem dX6_init_66 : decode cX6_init 66 = .ok (.invokespecial 43, 3) := by decide +kernel
theorem dX6_init_69 : decode cX6_init 69 = .ok (.putfield 44, 3) := by decide +kernel
theorem dX6_init_72 : decode cX6_init 72 = .ok (.aload_n 0, 1) := by decide +kernel
theorem dX6_init_73 : decode cX6_init 73 = .ok (.iconst 2, 1) := by decide +kernel
theorem dX6_init_74 : decode cX6_init 74 = .ok (.anewarray 34, 3) := by decide +kernel
theorem dX6_init_77 : decode cX6_init 77 = .ok (.putfield 48, 3) := by decide +kernel
theorem dX6_init_80 : decode cX6_init 80 = .ok (.aload_n 0, 1) := by decide +kernel
theorem dX6_init_81 : decode cX6_init 81 = .ok (.new 52, 3) := by decide +kernel
theorem dX6_init_84 : decode cX6_init 84 = .ok (.dup, 1) := by decide +kernel
theorem dX6_init_85 : decode cX6_init 85 = .ok (.invokespecial 54, 3) := by decide +kernel
theorem dX6_init_88 : decode cX6_init 88 = .ok (.putfield 55, 3) := by decide +kernel
theorem dX6_init_91 : decode cX6_init 91 = .ok (.aload_n 0, 1) := by decide +kernel
theorem dX6_init_92 : decode cX6_init 92 = .ok (.new 59, 3) := by decide +kernel
theorem dX6_init_95 : decode cX6_init 95 = .ok (.dup, 1) := by decide +kernel
theorem dX6_init_96 : decode cX6_init 96 = .ok (.invokespecial 61, 3) := by decide +kernel
theorem dX6_init_99 : decode cX6_init 99 = .ok (.putfield 62, 3) := by decide +kernel
theorem dX6_init_102 : decode cX6_init 102 = .ok (.aload_n 0, 1) := by decide +kernel
theorem dX6_init_103 : decode cX6_init 103 = .ok (.iconst 4, 1) := by decide +kernel
theorem dX6_init_104 : decode cX6_init 104 = .ok (.newarray .int, 2) := by decide +kernel
theorem dX6_init_106 : decode cX6_init 106 = .ok (.putfield 66, 3) := by decide +kernel
theorem dX6_init_109 : decode cX6_init 109 = .ok (.aload_n 0, 1) := by decide +kernel
theorem dX6_init_110 : decode cX6_init 110 = .ok (.lconst 0, 1) := by decide +kernel
theorem dX6_init_111 : decode cX6_init 111 = .ok (.putfield 69, 3) := by decide +kernel
theorem dX6_init_114 : decode cX6_init 114 = .ok (.iconst 0, 1) := by decide +kernel
theorem dX6_init_115 : decode cX6_init 115 = .ok (.istore_n 1, 1) := by decide +kernel
theorem dX6_init_116 : decode cX6_init 116 = .ok (.iload_n 1, 1) := by decide +kernel
theorem dX6_init_117 : decode cX6_init 117 = .ok (.iconst 2, 1) := by decide +kernel
theorem dX6_init_118 : decode cX6_init 118 = .ok (.if_icmp .ge 22, 3) := by decide +kernel
theorem dX6_init_121 : decode cX6_init 121 = .ok (.aload_n 0, 1) := by decide +kernel
theorem dX6_init_122 : decode cX6_init 122 = .ok (.getfield 48, 3) := by decide +kernel
theorem dX6_init_125 : decode cX6_init 125 = .ok (.iload_n 1, 1) := by decide +kernel
theorem dX6_init_126 : decode cX6_init 126 = .ok (.new 34, 3) := by decide +kernel
theorem dX6_init_129 : decode cX6_init 129 = .ok (.dup, 1) := by decide +kernel
theorem dX6_init_130 : decode cX6_init 130 = .ok (.invokespecial 36, 3) := by decide +kernel
theorem dX6_init_133 : decode cX6_init 133 = .ok (.aastore, 1) := by decide +kernel
theorem dX6_init_134 : decode cX6_init 134 = .ok (.iinc 1 1, 3) := by decide +kernel
theorem dX6_init_137 : decode cX6_init 137 = .ok (.goto (-21), 3) := by decide +kernel
theorem dX6_init_140 : decode cX6_init 140 = .ok (.return_, 1) := by decide +kernel
abbrev rm_X6_init : Room := { frames := 4, cells := 43, slots := 306, locals := 88 }
set_option maxRecDepth 20000 in
theorem k_X6_init_X3_init : GoodIn wsX6_init (wsX3_init) := goodIn_r _ [36, 37, 2, 3, 38, 39, 40, 4, 41, 118, 119, 120, 121] rfl (by decide +kernel)
set_option maxRecDepth 20000 in
theorem k_X6_init_X5_init : GoodIn wsX6_init (wsX5_init) := goodIn_r _ [44, 45, 2, 3, 4, 46, 47, 48, 49, 50, 51, 52, 53, 54, 55, 56, 57, 58, 59, 60, 61, 62, 13, 63, 64, 65, 66, 67, 68, 69, 70, 71, 72, 73, 74, 75, 122, 123, 124, 125, 126, 127, 128, 129, 130, 131, 132, 133, 134, 135] rfl (by decide +kernel)
set_option maxRecDepth 20000 in
theorem k_X6_init_X2_init : GoodIn wsX6_init (wsX2_init) := goodIn_r _ [78, 79, 2, 3, 80, 81, 4, 82, 83, 84, 85, 86, 87, 18, 88, 136, 137, 138, 139, 140] rfl (by decide +kernel)
set_option maxRecDepth 20000 in
theorem k_X6_init_X0_init : GoodIn wsX6_init (wsX0_init) := goodIn_r _ [90, 91, 2, 3, 4, 92, 93, 94, 95, 141, 142, 143, 144] rfl (by decide +kernel)
set_option maxRecDepth 20000 in
theorem k_X6_init_X4_init : GoodIn wsX6_init (wsX4_init) := goodIn_r _ [97, 98, 2, 3, 4, 99, 100, 101, 145, 146, 147] rfl (by decide +kernel)
set_option maxRecDepth 20000 in
theorem k_X6_init_X1_init : GoodIn wsX6_init (wsX1_init) := goodIn_r _ [103, 104, 2, 3, 4, 105, 148] rfl (by decide +kernel)
set_option maxHeartbeats 8000000 in
set_option maxRecDepth 100000 in
theorem c_X6_init (l : Launch) (D : va_G) (cI cZ cO : ClassId) (N : Nat) (h0 : Nat) (sz : Nat) (T0 L0 : TU) (hT : f_X5_weighWorlds N mk_z0 = some T0) (hL : f_X2_startAnew N mk_z0 = some L0) : Met l yX6_init wsX6_init rm_X6_init (va_Pc [.ref h0] (fun U => mk_Pe D vwCl (tyA cI cZ cO) [(h0, .inr (6, [.null, .int 0, .null, .null, .null, .null, .null, .null, .null, .null, .null, .long 0]))] sz U ∧ mk_N6 U)) (va_Qv (fun a : Nat → Nat → Nat => a 0 0 = h0) (mk_Be D vwCl [(h0, .inr (6, [.null, .int 0, .null, .null, .null, .null, .null, .null, .null, .null, .null, .long 0]))] sz (fun a => wX6 cI cO a (mk_c0 T0 L0) 0)) (va_A [(h0, .inr (6, [.null, .int 0, .null, .null, .null, .null, .null, .null, .null, .null, .null, .long 0]))] sz)) 43 306 (va_A [(h0, .inr (6, [.null, .int 0, .null, .null, .null, .null, .null, .null, .null, .null, .null, .long 0]))] sz) := by
  refine em_cX (own := RX6) (cc := cX6_init) (maxL := 2) (by decide) rfl rfl (Nat.le_of_ble_eq_true rfl) rfl ?_
  intro p e s m args below meth c Q A H0 H locs ls hx hb hml hown hts hin hX hP hK hD hS hA hl hret
  have hl : lv_has ls 2 [(0, .ref h0)] := hl
  have hiX0 : ∀ w ∈ u_ws RX0 TX0 4, w ∈ wsX6_init := mk_seg 141 4 rfl
  have hiX1 : ∀ w ∈ u_ws RX1 TX1 1, w ∈ wsX6_init := mk_seg 148 1 rfl
  have hiX2 : ∀ w ∈ u_ws RX2 TX2 5, w ∈ wsX6_init := mk_seg 136 5 rfl
  have hiX3 : ∀ w ∈ u_ws RX3 TX3 4, w ∈ wsX6_init := mk_seg 118 4 rfl
  have hiX4 : ∀ w ∈ u_ws RX4 TX4 3, w ∈ wsX6_init := mk_seg 145 3 rfl
  have hiX5 : ∀ w ∈ u_ws RX5 TX5 14, w ∈ wsX6_init := mk_seg 122 14 rfl
  have hiX6 : ∀ w ∈ u_ws RX6 TX6 12, w ∈ wsX6_init := mk_seg 106 12 rfl
  refine lv_aload_n hx hb dX6_init_0 rfl (lv_at hl 0 rfl) ?_
  refine W.objInit hx hb hown (hts (.methodLink RX6 1 objectInit) (List.mem_of_getElem? (i := 1) rfl)) (hts (.instanceMethod objectInit) (List.mem_of_getElem? (i := 2) rfl)) (hts (.code objectInit ⟨#[0xb1]⟩ 1 none) (List.mem_of_getElem? (i := 3) rfl)) rfl (by rw [hml]; exact hl.1) rfl dX6_init_1 (Nat.le_of_ble_eq_true rfl) (Nat.le_of_ble_eq_true rfl) ?_
  refine W.eq (g2 := F0 m 4 ls []) rfl ?_
  refine lv_aload_n hx hb dX6_init_4 rfl (lv_at hl 0 rfl) ?_
  refine lv_bipush (v := (48 : Int32)) hx hb dX6_init_5 (by decide) ?_
  refine va_newa (atype := .int) (ty := .int) (a0 := (48, .inl (fun _ => 0))) (N' := 48) hx hb (hts (.arrayClass .int) (List.mem_of_getElem? (i := 4) rfl)) rfl hK hP hD hS hA (fun _ => rfl) (by decide) (by decide) (by decide) (by decide) (by decide) dX6_init_7 (fun qL cA H hK1 hP hD hS => ?_)
  have hc1 : cA = cI := mk_cI hK1
  have hP : va_P D vwCl ([(h0, .inr (6, [.null, .int 0, .null, .null, .null, .null, .null, .null, .null, .null, .null, .long 0]))] ++ [(qL, .inl (cI, 48, .inl (fun _ => 0)))]) H := by rw [hc1] at hP; exact hP
  have hD : va_D A ([(h0, .inr (6, [.null, .int 0, .null, .null, .null, .null, .null, .null, .null, .null, .null, .long 0]))] ++ [(qL, .inl (cI, 48, .inl (fun _ => 0)))]) := by rw [hc1] at hD; exact hD
  refine W.widen (k := 1) (n := 48) (by omega) (by omega) ?_
  refine va_putF (D := D) (ci := 6) (v := .ref qL) (ty := .array .int) (C := RX6) (T := TX6) (N := 12) hx hb hts hiX6 tyX6 tyX6_ok nmX6 hown hK hP hD hS 0 rfl rfl 0 (by decide) (hts (.fieldLink RX6 9 "ClockOnce" "letters" "[I") (List.mem_of_getElem? (i := 5) rfl)) (fun _ h9 => h9) rfl hin rfl (by decide +kernel) rfl rfl (Nat.le_of_ble_eq_true rfl) dX6_init_9 (fun H locs hP hD hS => ?_)
  have hP : va_P D vwCl ([(h0, .inr (6, [.ref qL, .int 0, .null, .null, .null, .null, .null, .null, .null, .null, .null, .long 0]))] ++ [(qL, .inl (cI, 48, .inl (fun _ => 0)))]) H := hP
  have hD : va_D A ([(h0, .inr (6, [.ref qL, .int 0, .null, .null, .null, .null, .null, .null, .null, .null, .null, .long 0]))] ++ [(qL, .inl (cI, 48, .inl (fun _ => 0)))]) := hD
  refine lv_aload_n hx hb dX6_init_12 rfl (lv_at hl 0 rfl) ?_
  refine lv_iconst (v := (0 : Int32)) hx hb dX6_init_13 (by decide) ?_
  refine va_put (D := D) (ci := 6) (v := .int (0 : Int32)) (ty := .int) (C := RX6) (T := TX6) (N := 12) hx hb hts hiX6 tyX6 tyX6_ok nmX6 hown hK hP hD hS 0 rfl rfl 1 (by decide) (hts (.fieldLink RX6 13 "ClockOnce" "length" "I") (List.mem_of_getElem? (i := 6) rfl)) (fun _ h9 => h9) rfl (by decide +kernel) rfl rfl (Nat.le_of_ble_eq_true rfl) dX6_init_14 (fun H locs hP hD hS => ?_)
  have hP : va_P D vwCl ([(h0, .inr (6, [.ref qL, .int 0, .null, .null, .null, .null, .null, .null, .null, .null, .null, .long 0]))] ++ [(qL, .inl (cI, 48, .inl (fun _ => 0)))]) H := hP
  have hD : va_D A ([(h0, .inr (6, [.ref qL, .int 0, .null, .null, .null, .null, .null, .null, .null, .null, .null, .long 0]))] ++ [(qL, .inl (cI, 48, .inl (fun _ => 0)))]) := hD
  refine lv_aload_n hx hb dX6_init_17 rfl (lv_at hl 0 rfl) ?_
  refine va_new (ci := 3) (fs := [.int 0, .int 0, .int 0, .null]) (C := RX3) (T := TX3) (N := 4) hx hb hts hiX3 tyX3 tyX3_ok hown (hts (.classLink RX6 17 RX3) (List.mem_of_getElem? (i := 7) rfl)) (hts (.instantiable RX3 4) (List.mem_of_getElem? (i := 8) rfl)) (hts (.initialized RX3) (List.mem_of_getElem? (i := 9) rfl)) hK hP hD hS hA rfl (fun j hj => by rcases (show j = 0 ∨ j = 1 ∨ j = 2 ∨ j = 3 by omega) with rfl | rfl | rfl | rfl <;> rfl) (by decide) (by decide) dX6_init_18 (fun n18_1 H hP hD hS => ?_)
  refine W.widen (k := 2) (n := 52) (by omega) (by omega) ?_
  refine lv_dup hx hb dX6_init_21 rfl ?_
  refine ec_IN (rest := [.ref n18_1, .ref h0]) ⟨hx, hb, hml, hown, hts⟩ (c_X3_init l D cI cZ cO N n18_1 H.size) ⟨va_cnB 0 hts k_X6_init_X3_init rfl rfl rfl hX.1 (hts (.initialized RX3) (List.mem_of_getElem? (i := 9) rfl)) (by decide +kernel) ⟨(Nat.le_of_ble_eq_true rfl), (Nat.le_of_ble_eq_true rfl)⟩, rfl, (hts (.instanceMethod yX3_init) (List.mem_of_getElem? (i := 35) rfl))⟩ hK hP hD hS hA hl.1 rfl (Nat.le_of_ble_eq_true rfl) dX6_init_22 ⟨by decide, by decide⟩ (fun a1 H locs ha hP1 hD1 hS => ?_)
  subst ha
  have hP : va_P D vwCl (([(h0, .inr (6, [.ref qL, .int 0, .null, .null, .null, .null, .null, .null, .null, .null, .null, .long 0]))] ++ [(qL, .inl (cI, 48, .inl (fun _ => 0)))]) ++ wX3 cI a1 mk_z0) H := hP1
  have hD : va_D A (([(h0, .inr (6, [.ref qL, .int 0, .null, .null, .null, .null, .null, .null, .null, .null, .null, .long 0]))] ++ [(qL, .inl (cI, 48, .inl (fun _ => 0)))]) ++ wX3 cI a1 mk_z0) := hD1
  refine W.widen (k := 3) (n := 57) (by omega) (by omega) ?_
  refine va_putF (D := D) (ci := 6) (v := .ref (a1 0)) (ty := .object "ClockOnce$Reader") (C := RX6) (T := TX6) (N := 12) hx hb hts hiX6 tyX6 tyX6_ok nmX6 hown hK hP hD hS 0 rfl rfl 2 (by decide) (hts (.fieldLink RX6 20 "ClockOnce" "reader" "LClockOnce$Reader;") (List.mem_of_getElem? (i := 10) rfl)) (fun _ h9 => h9) rfl hin rfl (by decide +kernel) rfl rfl (Nat.le_of_ble_eq_true rfl) dX6_init_25 (fun H locs hP hD hS => ?_)
  have hP : va_P D vwCl (([(h0, .inr (6, [.ref qL, .int 0, .ref (a1 0), .null, .null, .null, .null, .null, .null, .null, .null, .long 0]))] ++ [(qL, .inl (cI, 48, .inl (fun _ => 0)))]) ++ wX3 cI a1 mk_z0) H := hP
  have hD : va_D A (([(h0, .inr (6, [.ref qL, .int 0, .ref (a1 0), .null, .null, .null, .null, .null, .null, .null, .null, .long 0]))] ++ [(qL, .inl (cI, 48, .inl (fun _ => 0)))]) ++ wX3 cI a1 mk_z0) := hD
  refine lv_aload_n hx hb dX6_init_28 rfl (lv_at hl 0 rfl) ?_
  refine va_new (ci := 5) (fs := [.null, .null, .null, .null, .int 0, .int 0, .null, .null, .int 0, .null, .null, .int 0, .null, .int 0]) (C := RX5) (T := TX5) (N := 14) hx hb hts hiX5 tyX5 tyX5_ok hown (hts (.classLink RX6 24 RX5) (List.mem_of_getElem? (i := 11) rfl)) (hts (.instantiable RX5 14) (List.mem_of_getElem? (i := 12) rfl)) (hts (.initialized RX5) (List.mem_of_getElem? (i := 13) rfl)) hK hP hD hS hA rfl (fun j hj => by rcases (show j = 0 ∨ j = 1 ∨ j = 2 ∨ j = 3 ∨ j = 4 ∨ j = 5 ∨ j = 6 ∨ j = 7 ∨ j = 8 ∨ j = 9 ∨ j = 10 ∨ j = 11 ∨ j = 12 ∨ j = 13 by omega) with rfl | rfl | rfl | rfl | rfl | rfl | rfl | rfl | rfl | rfl | rfl | rfl | rfl | rfl <;> rfl) (by decide) (by decide) dX6_init_29 (fun n29_3 H hP hD hS => ?_)
  refine W.widen (k := 4) (n := 71) (by omega) (by omega) ?_
  refine lv_dup hx hb dX6_init_32 rfl ?_
  refine ec_I (rest := [.ref n29_3, .ref h0]) ⟨hx, hb, hml, hown, hts⟩ (c_X5_init l D cI cZ cO N n29_3 H.size T0 hT) (cwI 0 hts k_X6_init_X5_init rfl rfl rfl (hts (.initialized RX5) (List.mem_of_getElem? (i := 13) rfl)) (hts (.methodLink RX6 26 yX5_init) (List.mem_of_getElem? (i := 42) rfl)) (hts (.instanceMethod yX5_init) (List.mem_of_getElem? (i := 43) rfl)) rfl (by decide +kernel) ⟨(Nat.le_of_ble_eq_true rfl), (Nat.le_of_ble_eq_true rfl)⟩) hK hP hD hS hA hl.1 rfl (Nat.le_of_ble_eq_true rfl) dX6_init_33 ⟨by decide, by decide⟩ (fun a2 H locs ha hP1 hD1 hS => ?_)
  subst ha
  have hP : va_P D vwCl ((([(h0, .inr (6, [.ref qL, .int 0, .ref (a1 0), .null, .null, .null, .null, .null, .null, .null, .null, .long 0]))] ++ [(qL, .inl (cI, 48, .inl (fun _ => 0)))]) ++ wX3 cI a1 mk_z0) ++ wX5 cI a2 T0) H := hP1
  have hD : va_D A ((([(h0, .inr (6, [.ref qL, .int 0, .ref (a1 0), .null, .null, .null, .null, .null, .null, .null, .null, .long 0]))] ++ [(qL, .inl (cI, 48, .inl (fun _ => 0)))]) ++ wX3 cI a1 mk_z0) ++ wX5 cI a2 T0) := hD1
  refine W.widen (k := 13) (n := 117) (by omega) (by omega) ?_
  refine va_put (D := D) (ci := 6) (v := .ref (a2 0)) (ty := .object "ClockOnce$Town") (C := RX6) (T := TX6) (N := 12) hx hb hts hiX6 tyX6 tyX6_ok nmX6 hown hK hP hD hS 0 rfl rfl 3 (by decide) (hts (.fieldLink RX6 27 "ClockOnce" "town" "LClockOnce$Town;") (List.mem_of_getElem? (i := 14) rfl)) (fun _ h9 => h9) rfl (by decide +kernel) rfl rfl (Nat.le_of_ble_eq_true rfl) dX6_init_36 (fun H locs hP hD hS => ?_)
  have hP : va_P D vwCl ((([(h0, .inr (6, [.ref qL, .int 0, .ref (a1 0), .ref (a2 0), .null, .null, .null, .null, .null, .null, .null, .long 0]))] ++ [(qL, .inl (cI, 48, .inl (fun _ => 0)))]) ++ wX3 cI a1 mk_z0) ++ wX5 cI a2 T0) H := hP
  have hD : va_D A ((([(h0, .inr (6, [.ref qL, .int 0, .ref (a1 0), .ref (a2 0), .null, .null, .null, .null, .null, .null, .null, .long 0]))] ++ [(qL, .inl (cI, 48, .inl (fun _ => 0)))]) ++ wX3 cI a1 mk_z0) ++ wX5 cI a2 T0) := hD
  refine lv_aload_n hx hb dX6_init_39 rfl (lv_at hl 0 rfl) ?_
  refine va_new (ci := 5) (fs := [.null, .null, .null, .null, .int 0, .int 0, .null, .null, .int 0, .null, .null, .int 0, .null, .int 0]) (C := RX5) (T := TX5) (N := 14) hx hb hts hiX5 tyX5 tyX5_ok hown (hts (.classLink RX6 24 RX5) (List.mem_of_getElem? (i := 11) rfl)) (hts (.instantiable RX5 14) (List.mem_of_getElem? (i := 12) rfl)) (hts (.initialized RX5) (List.mem_of_getElem? (i := 13) rfl)) hK hP hD hS hA rfl (fun j hj => by rcases (show j = 0 ∨ j = 1 ∨ j = 2 ∨ j = 3 ∨ j = 4 ∨ j = 5 ∨ j = 6 ∨ j = 7 ∨ j = 8 ∨ j = 9 ∨ j = 10 ∨ j = 11 ∨ j = 12 ∨ j = 13 by omega) with rfl | rfl | rfl | rfl | rfl | rfl | rfl | rfl | rfl | rfl | rfl | rfl | rfl | rfl <;> rfl) (by decide) (by decide) dX6_init_40 (fun n40_13 H hP hD hS => ?_)
  refine W.widen (k := 14) (n := 131) (by omega) (by omega) ?_
  refine lv_dup hx hb dX6_init_43 rfl ?_
  refine ec_I (rest := [.ref n40_13, .ref h0]) ⟨hx, hb, hml, hown, hts⟩ (c_X5_init l D cI cZ cO N n40_13 H.size T0 hT) (cwI 0 hts k_X6_init_X5_init rfl rfl rfl (hts (.initialized RX5) (List.mem_of_getElem? (i := 13) rfl)) (hts (.methodLink RX6 26 yX5_init) (List.mem_of_getElem? (i := 42) rfl)) (hts (.instanceMethod yX5_init) (List.mem_of_getElem? (i := 43) rfl)) rfl (by decide +kernel) ⟨(Nat.le_of_ble_eq_true rfl), (Nat.le_of_ble_eq_true rfl)⟩) hK hP hD hS hA hl.1 rfl (Nat.le_of_ble_eq_true rfl) dX6_init_44 ⟨by decide, by decide⟩ (fun a3 H locs ha hP1 hD1 hS => ?_)
  subst ha
  have hP : va_P D vwCl (((([(h0, .inr (6, [.ref qL, .int 0, .ref (a1 0), .ref (a2 0), .null, .null, .null, .null, .null, .null, .null, .long 0]))] ++ [(qL, .inl (cI, 48, .inl (fun _ => 0)))]) ++ wX3 cI a1 mk_z0) ++ wX5 cI a2 T0) ++ wX5 cI a3 T0) H := hP1
  have hD : va_D A (((([(h0, .inr (6, [.ref qL, .int 0, .ref (a1 0), .ref (a2 0), .null, .null, .null, .null, .null, .null, .null, .long 0]))] ++ [(qL, .inl (cI, 48, .inl (fun _ => 0)))]) ++ wX3 cI a1 mk_z0) ++ wX5 cI a2 T0) ++ wX5 cI a3 T0) := hD1
  refine W.widen (k := 23) (n := 177) (by omega) (by omega) ?_
  refine va_put (D := D) (ci := 6) (v := .ref (a3 0)) (ty := .object "ClockOnce$Town") (C := RX6) (T := TX6) (N := 12) hx hb hts hiX6 tyX6 tyX6_ok nmX6 hown hK hP hD hS 0 rfl rfl 4 (by decide) (hts (.fieldLink RX6 31 "ClockOnce" "draft" "LClockOnce$Town;") (List.mem_of_getElem? (i := 15) rfl)) (fun _ h9 => h9) rfl (by decide +kernel) rfl rfl (Nat.le_of_ble_eq_true rfl) dX6_init_47 (fun H locs hP hD hS => ?_)
  have hP : va_P D vwCl (((([(h0, .inr (6, [.ref qL, .int 0, .ref (a1 0), .ref (a2 0), .ref (a3 0), .null, .null, .null, .null, .null, .null, .long 0]))] ++ [(qL, .inl (cI, 48, .inl (fun _ => 0)))]) ++ wX3 cI a1 mk_z0) ++ wX5 cI a2 T0) ++ wX5 cI a3 T0) H := hP
  have hD : va_D A (((([(h0, .inr (6, [.ref qL, .int 0, .ref (a1 0), .ref (a2 0), .ref (a3 0), .null, .null, .null, .null, .null, .null, .long 0]))] ++ [(qL, .inl (cI, 48, .inl (fun _ => 0)))]) ++ wX3 cI a1 mk_z0) ++ wX5 cI a2 T0) ++ wX5 cI a3 T0) := hD
  refine lv_aload_n hx hb dX6_init_50 rfl (lv_at hl 0 rfl) ?_
  refine va_new (ci := 2) (fs := [.int 0, .int 0, .null, .null, .int 0]) (C := RX2) (T := TX2) (N := 5) hx hb hts hiX2 tyX2 tyX2_ok hown (hts (.classLink RX6 34 RX2) (List.mem_of_getElem? (i := 16) rfl)) (hts (.instantiable RX2 5) (List.mem_of_getElem? (i := 17) rfl)) (hts (.initialized RX2) (List.mem_of_getElem? (i := 18) rfl)) hK hP hD hS hA rfl (fun j hj => by rcases (show j = 0 ∨ j = 1 ∨ j = 2 ∨ j = 3 ∨ j = 4 by omega) with rfl | rfl | rfl | rfl | rfl <;> rfl) (by decide) (by decide) dX6_init_51 (fun n51_23 H hP hD hS => ?_)
  refine W.widen (k := 24) (n := 182) (by omega) (by omega) ?_
  refine lv_dup hx hb dX6_init_54 rfl ?_
  refine ec_I (rest := [.ref n51_23, .ref h0]) ⟨hx, hb, hml, hown, hts⟩ (c_X2_init l D cI cZ cO N n51_23 H.size L0 hL) (cwI 0 hts k_X6_init_X2_init rfl rfl rfl (hts (.initialized RX2) (List.mem_of_getElem? (i := 18) rfl)) (hts (.methodLink RX6 36 yX2_init) (List.mem_of_getElem? (i := 76) rfl)) (hts (.instanceMethod yX2_init) (List.mem_of_getElem? (i := 77) rfl)) rfl (by decide +kernel) ⟨(Nat.le_of_ble_eq_true rfl), (Nat.le_of_ble_eq_true rfl)⟩) hK hP hD hS hA hl.1 rfl (Nat.le_of_ble_eq_true rfl) dX6_init_55 ⟨by decide, by decide⟩ (fun a4 H locs ha hP1 hD1 hS => ?_)
  subst ha
  have hP : va_P D vwCl ((((([(h0, .inr (6, [.ref qL, .int 0, .ref (a1 0), .ref (a2 0), .ref (a3 0), .null, .null, .null, .null, .null, .null, .long 0]))] ++ [(qL, .inl (cI, 48, .inl (fun _ => 0)))]) ++ wX3 cI a1 mk_z0) ++ wX5 cI a2 T0) ++ wX5 cI a3 T0) ++ wX2 cI a4 L0) H := hP1
  have hD : va_D A ((((([(h0, .inr (6, [.ref qL, .int 0, .ref (a1 0), .ref (a2 0), .ref (a3 0), .null, .null, .null, .null, .null, .null, .long 0]))] ++ [(qL, .inl (cI, 48, .inl (fun _ => 0)))]) ++ wX3 cI a1 mk_z0) ++ wX5 cI a2 T0) ++ wX5 cI a3 T0) ++ wX2 cI a4 L0) := hD1
  refine W.widen (k := 26) (n := 190) (by omega) (by omega) ?_
  refine va_putF (D := D) (ci := 6) (v := .ref (a4 0)) (ty := .object "ClockOnce$Life") (C := RX6) (T := TX6) (N := 12) hx hb hts hiX6 tyX6 tyX6_ok nmX6 hown hK hP hD hS 0 rfl rfl 5 (by decide) (hts (.fieldLink RX6 37 "ClockOnce" "life" "LClockOnce$Life;") (List.mem_of_getElem? (i := 19) rfl)) (fun _ h9 => h9) rfl hin rfl (by decide +kernel) rfl rfl (Nat.le_of_ble_eq_true rfl) dX6_init_58 (fun H locs hP hD hS => ?_)
  have hP : va_P D vwCl ((((([(h0, .inr (6, [.ref qL, .int 0, .ref (a1 0), .ref (a2 0), .ref (a3 0), .ref (a4 0), .null, .null, .null, .null, .null, .long 0]))] ++ [(qL, .inl (cI, 48, .inl (fun _ => 0)))]) ++ wX3 cI a1 mk_z0) ++ wX5 cI a2 T0) ++ wX5 cI a3 T0) ++ wX2 cI a4 L0) H := hP
  have hD : va_D A ((((([(h0, .inr (6, [.ref qL, .int 0, .ref (a1 0), .ref (a2 0), .ref (a3 0), .ref (a4 0), .null, .null, .null, .null, .null, .long 0]))] ++ [(qL, .inl (cI, 48, .inl (fun _ => 0)))]) ++ wX3 cI a1 mk_z0) ++ wX5 cI a2 T0) ++ wX5 cI a3 T0) ++ wX2 cI a4 L0) := hD
  refine lv_aload_n hx hb dX6_init_61 rfl (lv_at hl 0 rfl) ?_
  refine va_new (ci := 0) (fs := [.null, .null, .null, .int 0]) (C := RX0) (T := TX0) (N := 4) hx hb hts hiX0 tyX0 tyX0_ok hown (hts (.classLink RX6 41 RX0) (List.mem_of_getElem? (i := 20) rfl)) (hts (.instantiable RX0 4) (List.mem_of_getElem? (i := 21) rfl)) (hts (.initialized RX0) (List.mem_of_getElem? (i := 22) rfl)) hK hP hD hS hA rfl (fun j hj => by rcases (show j = 0 ∨ j = 1 ∨ j = 2 ∨ j = 3 by omega) with rfl | rfl | rfl | rfl <;> rfl) (by decide) (by decide) dX6_init_62 (fun n62_26 H hP hD hS => ?_)
  refine W.widen (k := 27) (n := 194) (by omega) (by omega) ?_
  refine lv_dup hx hb dX6_init_65 rfl ?_
  refine ec_IN (rest := [.ref n62_26, .ref h0]) ⟨hx, hb, hml, hown, hts⟩ (c_X0_init l D cI cZ cO N n62_26 H.size) ⟨va_cnB 0 hts k_X6_init_X0_init rfl rfl rfl hX.2.1 (hts (.initialized RX0) (List.mem_of_getElem? (i := 22) rfl)) (by decide +kernel) ⟨(Nat.le_of_ble_eq_true rfl), (Nat.le_of_ble_eq_true rfl)⟩, rfl, (hts (.instanceMethod yX0_init) (List.mem_of_getElem? (i := 89) rfl))⟩ hK hP hD hS hA hl.1 rfl (Nat.le_of_ble_eq_true rfl) dX6_init_66 ⟨by decide, by decide⟩ (fun a5 H locs ha hP1 hD1 hS => ?_)
  subst ha
  have hP : va_P D vwCl (((((([(h0, .inr (6, [.ref qL, .int 0, .ref (a1 0), .ref (a2 0), .ref (a3 0), .ref (a4 0), .null, .null, .null, .null, .null, .long 0]))] ++ [(qL, .inl (cI, 48, .inl (fun _ => 0)))]) ++ wX3 cI a1 mk_z0) ++ wX5 cI a2 T0) ++ wX5 cI a3 T0) ++ wX2 cI a4 L0) ++ wX0 cI a5 mk_z0) H := hP1
  have hD : va_D A (((((([(h0, .inr (6, [.ref qL, .int 0, .ref (a1 0), .ref (a2 0), .ref (a3 0), .ref (a4 0), .null, .null, .null, .null, .null, .long 0]))] ++ [(qL, .inl (cI, 48, .inl (fun _ => 0)))]) ++ wX3 cI a1 mk_z0) ++ wX5 cI a2 T0) ++ wX5 cI a3 T0) ++ wX2 cI a4 L0) ++ wX0 cI a5 mk_z0) := hD1
  refine W.widen (k := 30) (n := 242) (by omega) (by omega) ?_
  refine va_putF (D := D) (ci := 6) (v := .ref (a5 0)) (ty := .object "ClockOnce$Acts") (C := RX6) (T := TX6) (N := 12) hx hb hts hiX6 tyX6 tyX6_ok nmX6 hown hK hP hD hS 0 rfl rfl 6 (by decide) (hts (.fieldLink RX6 44 "ClockOnce" "acts" "LClockOnce$Acts;") (List.mem_of_getElem? (i := 23) rfl)) (fun _ h9 => h9) rfl hin rfl (by decide +kernel) rfl rfl (Nat.le_of_ble_eq_true rfl) dX6_init_69 (fun H locs hP hD hS => ?_)
  have hP : va_P D vwCl (((((([(h0, .inr (6, [.ref qL, .int 0, .ref (a1 0), .ref (a2 0), .ref (a3 0), .ref (a4 0), .ref (a5 0), .null, .null, .null, .null, .long 0]))] ++ [(qL, .inl (cI, 48, .inl (fun _ => 0)))]) ++ wX3 cI a1 mk_z0) ++ wX5 cI a2 T0) ++ wX5 cI a3 T0) ++ wX2 cI a4 L0) ++ wX0 cI a5 mk_z0) H := hP
  have hD : va_D A (((((([(h0, .inr (6, [.ref qL, .int 0, .ref (a1 0), .ref (a2 0), .ref (a3 0), .ref (a4 0), .ref (a5 0), .null, .null, .null, .null, .long 0]))] ++ [(qL, .inl (cI, 48, .inl (fun _ => 0)))]) ++ wX3 cI a1 mk_z0) ++ wX5 cI a2 T0) ++ wX5 cI a3 T0) ++ wX2 cI a4 L0) ++ wX0 cI a5 mk_z0) := hD
  refine lv_aload_n hx hb dX6_init_72 rfl (lv_at hl 0 rfl) ?_
  refine lv_iconst (v := (2 : Int32)) hx hb dX6_init_73 (by decide) ?_
  refine va_newq (C := "ClockOnce$Life") (N' := 2) hx hb hown (hts (.classLink RX6 34 RX2) (List.mem_of_getElem? (i := 16) rfl)) hX.2.2.2.2 hK hP hD hS hA (by decide) (by decide) (by decide) (by decide) (by decide) dX6_init_74 (fun qS cA H hK1 hP hD hS => ?_)
  have hc1 : cA = cO := mk_cO hK1
  have hP : va_P D vwCl ((((((([(h0, .inr (6, [.ref qL, .int 0, .ref (a1 0), .ref (a2 0), .ref (a3 0), .ref (a4 0), .ref (a5 0), .null, .null, .null, .null, .long 0]))] ++ [(qL, .inl (cI, 48, .inl (fun _ => 0)))]) ++ wX3 cI a1 mk_z0) ++ wX5 cI a2 T0) ++ wX5 cI a3 T0) ++ wX2 cI a4 L0) ++ wX0 cI a5 mk_z0) ++ [(qS, .inl (cO, 2, .inr (.inr (.inr (.inr (fun _ => none))))))]) H := by rw [hc1] at hP; exact hP
  have hD : va_D A ((((((([(h0, .inr (6, [.ref qL, .int 0, .ref (a1 0), .ref (a2 0), .ref (a3 0), .ref (a4 0), .ref (a5 0), .null, .null, .null, .null, .long 0]))] ++ [(qL, .inl (cI, 48, .inl (fun _ => 0)))]) ++ wX3 cI a1 mk_z0) ++ wX5 cI a2 T0) ++ wX5 cI a3 T0) ++ wX2 cI a4 L0) ++ wX0 cI a5 mk_z0) ++ [(qS, .inl (cO, 2, .inr (.inr (.inr (.inr (fun _ => none))))))]) := by rw [hc1] at hD; exact hD
  refine W.widen (k := 31) (n := 244) (by omega) (by omega) ?_
  refine va_putF (D := D) (ci := 6) (v := .ref qS) (ty := .array (.object "ClockOnce$Life")) (C := RX6) (T := TX6) (N := 12) hx hb hts hiX6 tyX6 tyX6_ok nmX6 hown hK hP hD hS 0 rfl rfl 7 (by decide) (hts (.fieldLink RX6 48 "ClockOnce" "slots" "[LClockOnce$Life;") (List.mem_of_getElem? (i := 24) rfl)) (fun _ h9 => h9) rfl hin rfl (by decide +kernel) rfl rfl (Nat.le_of_ble_eq_true rfl) dX6_init_77 (fun H locs hP hD hS => ?_)
  have hP : va_P D vwCl ((((((([(h0, .inr (6, [.ref qL, .int 0, .ref (a1 0), .ref (a2 0), .ref (a3 0), .ref (a4 0), .ref (a5 0), .ref qS, .null, .null, .null, .long 0]))] ++ [(qL, .inl (cI, 48, .inl (fun _ => 0)))]) ++ wX3 cI a1 mk_z0) ++ wX5 cI a2 T0) ++ wX5 cI a3 T0) ++ wX2 cI a4 L0) ++ wX0 cI a5 mk_z0) ++ [(qS, .inl (cO, 2, .inr (.inr (.inr (.inr (fun _ => none))))))]) H := hP
  have hD : va_D A ((((((([(h0, .inr (6, [.ref qL, .int 0, .ref (a1 0), .ref (a2 0), .ref (a3 0), .ref (a4 0), .ref (a5 0), .ref qS, .null, .null, .null, .long 0]))] ++ [(qL, .inl (cI, 48, .inl (fun _ => 0)))]) ++ wX3 cI a1 mk_z0) ++ wX5 cI a2 T0) ++ wX5 cI a3 T0) ++ wX2 cI a4 L0) ++ wX0 cI a5 mk_z0) ++ [(qS, .inl (cO, 2, .inr (.inr (.inr (.inr (fun _ => none))))))]) := hD
  refine lv_aload_n hx hb dX6_init_80 rfl (lv_at hl 0 rfl) ?_
  refine va_new (ci := 4) (fs := [.null, .null, .int 0]) (C := RX4) (T := TX4) (N := 3) hx hb hts hiX4 tyX4 tyX4_ok hown (hts (.classLink RX6 52 RX4) (List.mem_of_getElem? (i := 25) rfl)) (hts (.instantiable RX4 3) (List.mem_of_getElem? (i := 26) rfl)) (hts (.initialized RX4) (List.mem_of_getElem? (i := 27) rfl)) hK hP hD hS hA rfl (fun j hj => by rcases (show j = 0 ∨ j = 1 ∨ j = 2 by omega) with rfl | rfl | rfl <;> rfl) (by decide) (by decide) dX6_init_81 (fun n81_31 H hP hD hS => ?_)
  refine W.widen (k := 32) (n := 247) (by omega) (by omega) ?_
  refine lv_dup hx hb dX6_init_84 rfl ?_
  refine ec_IN (rest := [.ref n81_31, .ref h0]) ⟨hx, hb, hml, hown, hts⟩ (c_X4_init l D cI cZ cO N n81_31 H.size) ⟨va_cnB 0 hts k_X6_init_X4_init rfl rfl rfl hX.2.2.1 (hts (.initialized RX4) (List.mem_of_getElem? (i := 27) rfl)) (by decide +kernel) ⟨(Nat.le_of_ble_eq_true rfl), (Nat.le_of_ble_eq_true rfl)⟩, rfl, (hts (.instanceMethod yX4_init) (List.mem_of_getElem? (i := 96) rfl))⟩ hK hP hD hS hA hl.1 rfl (Nat.le_of_ble_eq_true rfl) dX6_init_85 ⟨by decide, by decide⟩ (fun a8 H locs ha hP1 hD1 hS => ?_)
  subst ha
  have hP : va_P D vwCl (((((((([(h0, .inr (6, [.ref qL, .int 0, .ref (a1 0), .ref (a2 0), .ref (a3 0), .ref (a4 0), .ref (a5 0), .ref qS, .null, .null, .null, .long 0]))] ++ [(qL, .inl (cI, 48, .inl (fun _ => 0)))]) ++ wX3 cI a1 mk_z0) ++ wX5 cI a2 T0) ++ wX5 cI a3 T0) ++ wX2 cI a4 L0) ++ wX0 cI a5 mk_z0) ++ [(qS, .inl (cO, 2, .inr (.inr (.inr (.inr (fun _ => none))))))]) ++ wX4 cI a8 mk_z0) H := hP1
  have hD : va_D A (((((((([(h0, .inr (6, [.ref qL, .int 0, .ref (a1 0), .ref (a2 0), .ref (a3 0), .ref (a4 0), .ref (a5 0), .ref qS, .null, .null, .null, .long 0]))] ++ [(qL, .inl (cI, 48, .inl (fun _ => 0)))]) ++ wX3 cI a1 mk_z0) ++ wX5 cI a2 T0) ++ wX5 cI a3 T0) ++ wX2 cI a4 L0) ++ wX0 cI a5 mk_z0) ++ [(qS, .inl (cO, 2, .inr (.inr (.inr (.inr (fun _ => none))))))]) ++ wX4 cI a8 mk_z0) := hD1
  refine W.widen (k := 34) (n := 259) (by omega) (by omega) ?_
  refine va_putF (D := D) (ci := 6) (v := .ref (a8 0)) (ty := .object "ClockOnce$Sales") (C := RX6) (T := TX6) (N := 12) hx hb hts hiX6 tyX6 tyX6_ok nmX6 hown hK hP hD hS 0 rfl rfl 8 (by decide) (hts (.fieldLink RX6 55 "ClockOnce" "seen" "LClockOnce$Sales;") (List.mem_of_getElem? (i := 28) rfl)) (fun _ h9 => h9) rfl hin rfl (by decide +kernel) rfl rfl (Nat.le_of_ble_eq_true rfl) dX6_init_88 (fun H locs hP hD hS => ?_)
  have hP : va_P D vwCl (((((((([(h0, .inr (6, [.ref qL, .int 0, .ref (a1 0), .ref (a2 0), .ref (a3 0), .ref (a4 0), .ref (a5 0), .ref qS, .ref (a8 0), .null, .null, .long 0]))] ++ [(qL, .inl (cI, 48, .inl (fun _ => 0)))]) ++ wX3 cI a1 mk_z0) ++ wX5 cI a2 T0) ++ wX5 cI a3 T0) ++ wX2 cI a4 L0) ++ wX0 cI a5 mk_z0) ++ [(qS, .inl (cO, 2, .inr (.inr (.inr (.inr (fun _ => none))))))]) ++ wX4 cI a8 mk_z0) H := hP
  have hD : va_D A (((((((([(h0, .inr (6, [.ref qL, .int 0, .ref (a1 0), .ref (a2 0), .ref (a3 0), .ref (a4 0), .ref (a5 0), .ref qS, .ref (a8 0), .null, .null, .long 0]))] ++ [(qL, .inl (cI, 48, .inl (fun _ => 0)))]) ++ wX3 cI a1 mk_z0) ++ wX5 cI a2 T0) ++ wX5 cI a3 T0) ++ wX2 cI a4 L0) ++ wX0 cI a5 mk_z0) ++ [(qS, .inl (cO, 2, .inr (.inr (.inr (.inr (fun _ => none))))))]) ++ wX4 cI a8 mk_z0) := hD
  refine lv_aload_n hx hb dX6_init_91 rfl (lv_at hl 0 rfl) ?_
  refine va_new (ci := 1) (fs := [.null]) (C := RX1) (T := TX1) (N := 1) hx hb hts hiX1 tyX1 tyX1_ok hown (hts (.classLink RX6 59 RX1) (List.mem_of_getElem? (i := 29) rfl)) (hts (.instantiable RX1 1) (List.mem_of_getElem? (i := 30) rfl)) (hts (.initialized RX1) (List.mem_of_getElem? (i := 31) rfl)) hK hP hD hS hA rfl (fun j hj => by rcases (show j = 0 by omega) with rfl <;> rfl) (by decide) (by decide) dX6_init_92 (fun n92_34 H hP hD hS => ?_)
  refine W.widen (k := 35) (n := 260) (by omega) (by omega) ?_
  refine lv_dup hx hb dX6_init_95 rfl ?_
  refine ec_IN (rest := [.ref n92_34, .ref h0]) ⟨hx, hb, hml, hown, hts⟩ (c_X1_init l D cI cZ cO N n92_34 H.size) ⟨va_cnB 0 hts k_X6_init_X1_init rfl rfl rfl hX.2.2.2.1 (hts (.initialized RX1) (List.mem_of_getElem? (i := 31) rfl)) (by decide +kernel) ⟨(Nat.le_of_ble_eq_true rfl), (Nat.le_of_ble_eq_true rfl)⟩, rfl, (hts (.instanceMethod yX1_init) (List.mem_of_getElem? (i := 102) rfl))⟩ hK hP hD hS hA hl.1 rfl (Nat.le_of_ble_eq_true rfl) dX6_init_96 ⟨by decide, by decide⟩ (fun a9 H locs ha hP1 hD1 hS => ?_)
  subst ha
  have hP : va_P D vwCl ((((((((([(h0, .inr (6, [.ref qL, .int 0, .ref (a1 0), .ref (a2 0), .ref (a3 0), .ref (a4 0), .ref (a5 0), .ref qS, .ref (a8 0), .null, .null, .long 0]))] ++ [(qL, .inl (cI, 48, .inl (fun _ => 0)))]) ++ wX3 cI a1 mk_z0) ++ wX5 cI a2 T0) ++ wX5 cI a3 T0) ++ wX2 cI a4 L0) ++ wX0 cI a5 mk_z0) ++ [(qS, .inl (cO, 2, .inr (.inr (.inr (.inr (fun _ => none))))))]) ++ wX4 cI a8 mk_z0) ++ wX1 cI a9 mk_z0) H := hP1
  have hD : va_D A ((((((((([(h0, .inr (6, [.ref qL, .int 0, .ref (a1 0), .ref (a2 0), .ref (a3 0), .ref (a4 0), .ref (a5 0), .ref qS, .ref (a8 0), .null, .null, .long 0]))] ++ [(qL, .inl (cI, 48, .inl (fun _ => 0)))]) ++ wX3 cI a1 mk_z0) ++ wX5 cI a2 T0) ++ wX5 cI a3 T0) ++ wX2 cI a4 L0) ++ wX0 cI a5 mk_z0) ++ [(qS, .inl (cO, 2, .inr (.inr (.inr (.inr (fun _ => none))))))]) ++ wX4 cI a8 mk_z0) ++ wX1 cI a9 mk_z0) := hD1
  refine W.widen (k := 36) (n := 276) (by omega) (by omega) ?_
  refine va_putF (D := D) (ci := 6) (v := .ref (a9 0)) (ty := .object "ClockOnce$Asking") (C := RX6) (T := TX6) (N := 12) hx hb hts hiX6 tyX6 tyX6_ok nmX6 hown hK hP hD hS 0 rfl rfl 9 (by decide) (hts (.fieldLink RX6 62 "ClockOnce" "asking" "LClockOnce$Asking;") (List.mem_of_getElem? (i := 32) rfl)) (fun _ h9 => h9) rfl hin rfl (by decide +kernel) rfl rfl (Nat.le_of_ble_eq_true rfl) dX6_init_99 (fun H locs hP hD hS => ?_)
  have hP : va_P D vwCl ((((((((([(h0, .inr (6, [.ref qL, .int 0, .ref (a1 0), .ref (a2 0), .ref (a3 0), .ref (a4 0), .ref (a5 0), .ref qS, .ref (a8 0), .ref (a9 0), .null, .long 0]))] ++ [(qL, .inl (cI, 48, .inl (fun _ => 0)))]) ++ wX3 cI a1 mk_z0) ++ wX5 cI a2 T0) ++ wX5 cI a3 T0) ++ wX2 cI a4 L0) ++ wX0 cI a5 mk_z0) ++ [(qS, .inl (cO, 2, .inr (.inr (.inr (.inr (fun _ => none))))))]) ++ wX4 cI a8 mk_z0) ++ wX1 cI a9 mk_z0) H := hP
  have hD : va_D A ((((((((([(h0, .inr (6, [.ref qL, .int 0, .ref (a1 0), .ref (a2 0), .ref (a3 0), .ref (a4 0), .ref (a5 0), .ref qS, .ref (a8 0), .ref (a9 0), .null, .long 0]))] ++ [(qL, .inl (cI, 48, .inl (fun _ => 0)))]) ++ wX3 cI a1 mk_z0) ++ wX5 cI a2 T0) ++ wX5 cI a3 T0) ++ wX2 cI a4 L0) ++ wX0 cI a5 mk_z0) ++ [(qS, .inl (cO, 2, .inr (.inr (.inr (.inr (fun _ => none))))))]) ++ wX4 cI a8 mk_z0) ++ wX1 cI a9 mk_z0) := hD
  refine lv_aload_n hx hb dX6_init_102 rfl (lv_at hl 0 rfl) ?_
  refine lv_iconst (v := (4 : Int32)) hx hb dX6_init_103 (by decide) ?_
  refine va_newa (atype := .int) (ty := .int) (a0 := (4, .inl (fun _ => 0))) (N' := 4) hx hb (hts (.arrayClass .int) (List.mem_of_getElem? (i := 4) rfl)) rfl hK hP hD hS hA (fun _ => rfl) (by decide) (by decide) (by decide) (by decide) (by decide) dX6_init_104 (fun qW cA H hK1 hP hD hS => ?_)
  have hc1 : cA = cI := mk_cI hK1
  have hP : va_P D vwCl (((((((((([(h0, .inr (6, [.ref qL, .int 0, .ref (a1 0), .ref (a2 0), .ref (a3 0), .ref (a4 0), .ref (a5 0), .ref qS, .ref (a8 0), .ref (a9 0), .null, .long 0]))] ++ [(qL, .inl (cI, 48, .inl (fun _ => 0)))]) ++ wX3 cI a1 mk_z0) ++ wX5 cI a2 T0) ++ wX5 cI a3 T0) ++ wX2 cI a4 L0) ++ wX0 cI a5 mk_z0) ++ [(qS, .inl (cO, 2, .inr (.inr (.inr (.inr (fun _ => none))))))]) ++ wX4 cI a8 mk_z0) ++ wX1 cI a9 mk_z0) ++ [(qW, .inl (cI, 4, .inl (fun _ => 0)))]) H := by rw [hc1] at hP; exact hP
  have hD : va_D A (((((((((([(h0, .inr (6, [.ref qL, .int 0, .ref (a1 0), .ref (a2 0), .ref (a3 0), .ref (a4 0), .ref (a5 0), .ref qS, .ref (a8 0), .ref (a9 0), .null, .long 0]))] ++ [(qL, .inl (cI, 48, .inl (fun _ => 0)))]) ++ wX3 cI a1 mk_z0) ++ wX5 cI a2 T0) ++ wX5 cI a3 T0) ++ wX2 cI a4 L0) ++ wX0 cI a5 mk_z0) ++ [(qS, .inl (cO, 2, .inr (.inr (.inr (.inr (fun _ => none))))))]) ++ wX4 cI a8 mk_z0) ++ wX1 cI a9 mk_z0) ++ [(qW, .inl (cI, 4, .inl (fun _ => 0)))]) := by rw [hc1] at hD; exact hD
  refine W.widen (k := 37) (n := 280) (by omega) (by omega) ?_
  refine va_putF (D := D) (ci := 6) (v := .ref qW) (ty := .array .int) (C := RX6) (T := TX6) (N := 12) hx hb hts hiX6 tyX6 tyX6_ok nmX6 hown hK hP hD hS 0 rfl rfl 10 (by decide) (hts (.fieldLink RX6 66 "ClockOnce" "wiseDays" "[I") (List.mem_of_getElem? (i := 33) rfl)) (fun _ h9 => h9) rfl hin rfl (by decide +kernel) rfl rfl (Nat.le_of_ble_eq_true rfl) dX6_init_106 (fun H locs hP hD hS => ?_)
  have hP : va_P D vwCl (((((((((([(h0, .inr (6, [.ref qL, .int 0, .ref (a1 0), .ref (a2 0), .ref (a3 0), .ref (a4 0), .ref (a5 0), .ref qS, .ref (a8 0), .ref (a9 0), .ref qW, .long 0]))] ++ [(qL, .inl (cI, 48, .inl (fun _ => 0)))]) ++ wX3 cI a1 mk_z0) ++ wX5 cI a2 T0) ++ wX5 cI a3 T0) ++ wX2 cI a4 L0) ++ wX0 cI a5 mk_z0) ++ [(qS, .inl (cO, 2, .inr (.inr (.inr (.inr (fun _ => none))))))]) ++ wX4 cI a8 mk_z0) ++ wX1 cI a9 mk_z0) ++ [(qW, .inl (cI, 4, .inl (fun _ => 0)))]) H := hP
  have hD : va_D A (((((((((([(h0, .inr (6, [.ref qL, .int 0, .ref (a1 0), .ref (a2 0), .ref (a3 0), .ref (a4 0), .ref (a5 0), .ref qS, .ref (a8 0), .ref (a9 0), .ref qW, .long 0]))] ++ [(qL, .inl (cI, 48, .inl (fun _ => 0)))]) ++ wX3 cI a1 mk_z0) ++ wX5 cI a2 T0) ++ wX5 cI a3 T0) ++ wX2 cI a4 L0) ++ wX0 cI a5 mk_z0) ++ [(qS, .inl (cO, 2, .inr (.inr (.inr (.inr (fun _ => none))))))]) ++ wX4 cI a8 mk_z0) ++ wX1 cI a9 mk_z0) ++ [(qW, .inl (cI, 4, .inl (fun _ => 0)))]) := hD
  refine lv_aload_n hx hb dX6_init_109 rfl (lv_at hl 0 rfl) ?_
  refine lv_lconst (v := (0 : Int64)) hx hb dX6_init_110 (by decide) ?_
  refine va_put (D := D) (ci := 6) (v := .long (0 : Int64)) (ty := .long) (C := RX6) (T := TX6) (N := 12) hx hb hts hiX6 tyX6 tyX6_ok nmX6 hown hK hP hD hS 0 rfl rfl 11 (by decide) (hts (.fieldLink RX6 69 "ClockOnce" "seed" "J") (List.mem_of_getElem? (i := 34) rfl)) (fun _ h9 => h9) rfl (by decide +kernel) rfl rfl (Nat.le_of_ble_eq_true rfl) dX6_init_111 (fun H locs hP hD hS => ?_)
  have hP : va_P D vwCl (((((((((([(h0, .inr (6, [.ref qL, .int 0, .ref (a1 0), .ref (a2 0), .ref (a3 0), .ref (a4 0), .ref (a5 0), .ref qS, .ref (a8 0), .ref (a9 0), .ref qW, .long 0]))] ++ [(qL, .inl (cI, 48, .inl (fun _ => 0)))]) ++ wX3 cI a1 mk_z0) ++ wX5 cI a2 T0) ++ wX5 cI a3 T0) ++ wX2 cI a4 L0) ++ wX0 cI a5 mk_z0) ++ [(qS, .inl (cO, 2, .inr (.inr (.inr (.inr (fun _ => none))))))]) ++ wX4 cI a8 mk_z0) ++ wX1 cI a9 mk_z0) ++ [(qW, .inl (cI, 4, .inl (fun _ => 0)))]) H := hP
  have hD : va_D A (((((((((([(h0, .inr (6, [.ref qL, .int 0, .ref (a1 0), .ref (a2 0), .ref (a3 0), .ref (a4 0), .ref (a5 0), .ref qS, .ref (a8 0), .ref (a9 0), .ref qW, .long 0]))] ++ [(qL, .inl (cI, 48, .inl (fun _ => 0)))]) ++ wX3 cI a1 mk_z0) ++ wX5 cI a2 T0) ++ wX5 cI a3 T0) ++ wX2 cI a4 L0) ++ wX0 cI a5 mk_z0) ++ [(qS, .inl (cO, 2, .inr (.inr (.inr (.inr (fun _ => none))))))]) ++ wX4 cI a8 mk_z0) ++ wX1 cI a9 mk_z0) ++ [(qW, .inl (cI, 4, .inl (fun _ => 0)))]) := hD
  refine lv_iconst (v := (0 : Int32)) hx hb dX6_init_114 (by decide) ?_
  refine lv_istore_n (lv' := [(1, .int (0 : Int32)), (0, .ref h0)]) hx hb dX6_init_115 rfl hl (by decide) rfl (fun ls hl => ?_)
  refine lv_iload_n hx hb dX6_init_116 rfl (lv_at hl 0 rfl) ?_
  refine lv_iconst (v := (2 : Int32)) hx hb dX6_init_117 (by decide) ?_
  refine lv_icmp_ge (tgt := 140) hx hb dX6_init_118 (by decide) (fun q => absurd q (by decide)) (fun _ => ?_)
  refine lv_aload_n hx hb dX6_init_121 rfl (lv_at hl 1 rfl) ?_
  refine va_get (D := D) (ci := 6) (v := .ref qS) (C := RX6) (T := TX6) (N := 12) hx hb hts hiX6 hown hK hP 0 rfl rfl 7 (by decide) (hts (.fieldLink RX6 48 "ClockOnce" "slots" "[LClockOnce$Life;") (List.mem_of_getElem? (i := 24) rfl)) (fun _ h9 => h9) rfl dX6_init_122 ?_
  refine lv_iload_n hx hb dX6_init_125 rfl (lv_at hl 0 rfl) ?_
  refine va_new (ci := 2) (fs := [.int 0, .int 0, .null, .null, .int 0]) (C := RX2) (T := TX2) (N := 5) hx hb hts hiX2 tyX2 tyX2_ok hown (hts (.classLink RX6 34 RX2) (List.mem_of_getElem? (i := 16) rfl)) (hts (.instantiable RX2 5) (List.mem_of_getElem? (i := 17) rfl)) (hts (.initialized RX2) (List.mem_of_getElem? (i := 18) rfl)) hK hP hD hS hA rfl (fun j hj => by rcases (show j = 0 ∨ j = 1 ∨ j = 2 ∨ j = 3 ∨ j = 4 by omega) with rfl | rfl | rfl | rfl | rfl <;> rfl) (by decide) (by decide) dX6_init_126 (fun n126_37 H hP hD hS => ?_)
  refine W.widen (k := 38) (n := 285) (by omega) (by omega) ?_
  refine lv_dup hx hb dX6_init_129 rfl ?_
  refine ec_I (rest := [.ref n126_37, .int (0 : Int32), .ref qS]) ⟨hx, hb, hml, hown, hts⟩ (c_X2_init l D cI cZ cO N n126_37 H.size L0 hL) (cwI 0 hts k_X6_init_X2_init rfl rfl rfl (hts (.initialized RX2) (List.mem_of_getElem? (i := 18) rfl)) (hts (.methodLink RX6 36 yX2_init) (List.mem_of_getElem? (i := 76) rfl)) (hts (.instanceMethod yX2_init) (List.mem_of_getElem? (i := 77) rfl)) rfl (by decide +kernel) ⟨(Nat.le_of_ble_eq_true rfl), (Nat.le_of_ble_eq_true rfl)⟩) hK hP hD hS hA hl.1 rfl (Nat.le_of_ble_eq_true rfl) dX6_init_130 ⟨by decide, by decide⟩ (fun a6 H locs ha hP1 hD1 hS => ?_)
  subst ha
  have hP : va_P D vwCl ((((((((((([(h0, .inr (6, [.ref qL, .int 0, .ref (a1 0), .ref (a2 0), .ref (a3 0), .ref (a4 0), .ref (a5 0), .ref qS, .ref (a8 0), .ref (a9 0), .ref qW, .long 0]))] ++ [(qL, .inl (cI, 48, .inl (fun _ => 0)))]) ++ wX3 cI a1 mk_z0) ++ wX5 cI a2 T0) ++ wX5 cI a3 T0) ++ wX2 cI a4 L0) ++ wX0 cI a5 mk_z0) ++ [(qS, .inl (cO, 2, .inr (.inr (.inr (.inr (fun _ => none))))))]) ++ wX4 cI a8 mk_z0) ++ wX1 cI a9 mk_z0) ++ [(qW, .inl (cI, 4, .inl (fun _ => 0)))]) ++ wX2 cI a6 L0) H := hP1
  have hD : va_D A ((((((((((([(h0, .inr (6, [.ref qL, .int 0, .ref (a1 0), .ref (a2 0), .ref (a3 0), .ref (a4 0), .ref (a5 0), .ref qS, .ref (a8 0), .ref (a9 0), .ref qW, .long 0]))] ++ [(qL, .inl (cI, 48, .inl (fun _ => 0)))]) ++ wX3 cI a1 mk_z0) ++ wX5 cI a2 T0) ++ wX5 cI a3 T0) ++ wX2 cI a4 L0) ++ wX0 cI a5 mk_z0) ++ [(qS, .inl (cO, 2, .inr (.inr (.inr (.inr (fun _ => none))))))]) ++ wX4 cI a8 mk_z0) ++ wX1 cI a9 mk_z0) ++ [(qW, .inl (cI, 4, .inl (fun _ => 0)))]) ++ wX2 cI a6 L0) := hD1
  refine W.widen (k := 40) (n := 293) (by omega) (by omega) ?_
  refine va_astq hx hb hK hP hD hS 31 2 38 2 rfl rfl rfl rfl (vp_in_nI (n := 0) (N := 2) (by decide) (by decide)) dX6_init_133 (fun H locs hP hD hS => ?_)
  have hP : va_P D vwCl ((((((((((([(h0, .inr (6, [.ref qL, .int 0, .ref (a1 0), .ref (a2 0), .ref (a3 0), .ref (a4 0), .ref (a5 0), .ref qS, .ref (a8 0), .ref (a9 0), .ref qW, .long 0]))] ++ [(qL, .inl (cI, 48, .inl (fun _ => 0)))]) ++ wX3 cI a1 mk_z0) ++ wX5 cI a2 T0) ++ wX5 cI a3 T0) ++ wX2 cI a4 L0) ++ wX0 cI a5 mk_z0) ++ [(qS, .inl (cO, 2, .inr (.inr (.inr (.inr (va_up (fun _ => none) 0 (some (a6 0))))))))]) ++ wX4 cI a8 mk_z0) ++ wX1 cI a9 mk_z0) ++ [(qW, .inl (cI, 4, .inl (fun _ => 0)))]) ++ wX2 cI a6 L0) H := hP
  have hD : va_D A ((((((((((([(h0, .inr (6, [.ref qL, .int 0, .ref (a1 0), .ref (a2 0), .ref (a3 0), .ref (a4 0), .ref (a5 0), .ref qS, .ref (a8 0), .ref (a9 0), .ref qW, .long 0]))] ++ [(qL, .inl (cI, 48, .inl (fun _ => 0)))]) ++ wX3 cI a1 mk_z0) ++ wX5 cI a2 T0) ++ wX5 cI a3 T0) ++ wX2 cI a4 L0) ++ wX0 cI a5 mk_z0) ++ [(qS, .inl (cO, 2, .inr (.inr (.inr (.inr (va_up (fun _ => none) 0 (some (a6 0))))))))]) ++ wX4 cI a8 mk_z0) ++ wX1 cI a9 mk_z0) ++ [(qW, .inl (cI, 4, .inl (fun _ => 0)))]) ++ wX2 cI a6 L0) := hD
  refine lv_iinc (v := (1 : Int32)) (lv' := [(1, .int (1 : Int32)), (0, .ref h0)]) hx hb dX6_init_134 hl (k := 0) rfl (by decide) (by decide) rfl (fun ls hl => ?_)
  refine lv_goto (tgt := 116) hx hb dX6_init_137 (by decide) ?_
  refine lv_iload_n hx hb dX6_init_116 rfl (lv_at hl 0 rfl) ?_
  refine lv_iconst (v := (2 : Int32)) hx hb dX6_init_117 (by decide) ?_
  refine lv_icmp_ge (tgt := 140) hx hb dX6_init_118 (by decide) (fun q => absurd q (by decide)) (fun _ => ?_)
  refine lv_aload_n hx hb dX6_init_121 rfl (lv_at hl 1 rfl) ?_
  refine va_get (D := D) (ci := 6) (v := .ref qS) (C := RX6) (T := TX6) (N := 12) hx hb hts hiX6 hown hK hP 0 rfl rfl 7 (by decide) (hts (.fieldLink RX6 48 "ClockOnce" "slots" "[LClockOnce$Life;") (List.mem_of_getElem? (i := 24) rfl)) (fun _ h9 => h9) rfl dX6_init_122 ?_
  refine lv_iload_n hx hb dX6_init_125 rfl (lv_at hl 0 rfl) ?_
  refine va_new (ci := 2) (fs := [.int 0, .int 0, .null, .null, .int 0]) (C := RX2) (T := TX2) (N := 5) hx hb hts hiX2 tyX2 tyX2_ok hown (hts (.classLink RX6 34 RX2) (List.mem_of_getElem? (i := 16) rfl)) (hts (.instantiable RX2 5) (List.mem_of_getElem? (i := 17) rfl)) (hts (.initialized RX2) (List.mem_of_getElem? (i := 18) rfl)) hK hP hD hS hA rfl (fun j hj => by rcases (show j = 0 ∨ j = 1 ∨ j = 2 ∨ j = 3 ∨ j = 4 by omega) with rfl | rfl | rfl | rfl | rfl <;> rfl) (by decide) (by decide) dX6_init_126 (fun n126_40 H hP hD hS => ?_)
  refine W.widen (k := 41) (n := 298) (by omega) (by omega) ?_
  refine lv_dup hx hb dX6_init_129 rfl ?_
  refine ec_I (rest := [.ref n126_40, .int (1 : Int32), .ref qS]) ⟨hx, hb, hml, hown, hts⟩ (c_X2_init l D cI cZ cO N n126_40 H.size L0 hL) (cwI 0 hts k_X6_init_X2_init rfl rfl rfl (hts (.initialized RX2) (List.mem_of_getElem? (i := 18) rfl)) (hts (.methodLink RX6 36 yX2_init) (List.mem_of_getElem? (i := 76) rfl)) (hts (.instanceMethod yX2_init) (List.mem_of_getElem? (i := 77) rfl)) rfl (by decide +kernel) ⟨(Nat.le_of_ble_eq_true rfl), (Nat.le_of_ble_eq_true rfl)⟩) hK hP hD hS hA hl.1 rfl (Nat.le_of_ble_eq_true rfl) dX6_init_130 ⟨by decide, by decide⟩ (fun a7 H locs ha hP1 hD1 hS => ?_)
  subst ha
  have hP : va_P D vwCl (((((((((((([(h0, .inr (6, [.ref qL, .int 0, .ref (a1 0), .ref (a2 0), .ref (a3 0), .ref (a4 0), .ref (a5 0), .ref qS, .ref (a8 0), .ref (a9 0), .ref qW, .long 0]))] ++ [(qL, .inl (cI, 48, .inl (fun _ => 0)))]) ++ wX3 cI a1 mk_z0) ++ wX5 cI a2 T0) ++ wX5 cI a3 T0) ++ wX2 cI a4 L0) ++ wX0 cI a5 mk_z0) ++ [(qS, .inl (cO, 2, .inr (.inr (.inr (.inr (va_up (fun _ => none) 0 (some (a6 0))))))))]) ++ wX4 cI a8 mk_z0) ++ wX1 cI a9 mk_z0) ++ [(qW, .inl (cI, 4, .inl (fun _ => 0)))]) ++ wX2 cI a6 L0) ++ wX2 cI a7 L0) H := hP1
  have hD : va_D A (((((((((((([(h0, .inr (6, [.ref qL, .int 0, .ref (a1 0), .ref (a2 0), .ref (a3 0), .ref (a4 0), .ref (a5 0), .ref qS, .ref (a8 0), .ref (a9 0), .ref qW, .long 0]))] ++ [(qL, .inl (cI, 48, .inl (fun _ => 0)))]) ++ wX3 cI a1 mk_z0) ++ wX5 cI a2 T0) ++ wX5 cI a3 T0) ++ wX2 cI a4 L0) ++ wX0 cI a5 mk_z0) ++ [(qS, .inl (cO, 2, .inr (.inr (.inr (.inr (va_up (fun _ => none) 0 (some (a6 0))))))))]) ++ wX4 cI a8 mk_z0) ++ wX1 cI a9 mk_z0) ++ [(qW, .inl (cI, 4, .inl (fun _ => 0)))]) ++ wX2 cI a6 L0) ++ wX2 cI a7 L0) := hD1
  refine W.widen (k := 43) (n := 306) (by omega) (by omega) ?_
  refine va_astq hx hb hK hP hD hS 31 2 41 2 rfl rfl rfl rfl (vp_in_nI (n := 1) (N := 2) (by decide) (by decide)) dX6_init_133 (fun H locs hP hD hS => ?_)
  have hP : va_P D vwCl (((((((((((([(h0, .inr (6, [.ref qL, .int 0, .ref (a1 0), .ref (a2 0), .ref (a3 0), .ref (a4 0), .ref (a5 0), .ref qS, .ref (a8 0), .ref (a9 0), .ref qW, .long 0]))] ++ [(qL, .inl (cI, 48, .inl (fun _ => 0)))]) ++ wX3 cI a1 mk_z0) ++ wX5 cI a2 T0) ++ wX5 cI a3 T0) ++ wX2 cI a4 L0) ++ wX0 cI a5 mk_z0) ++ [(qS, .inl (cO, 2, .inr (.inr (.inr (.inr (va_up (va_up (fun _ => none) 0 (some (a6 0))) 1 (some (a7 0))))))))]) ++ wX4 cI a8 mk_z0) ++ wX1 cI a9 mk_z0) ++ [(qW, .inl (cI, 4, .inl (fun _ => 0)))]) ++ wX2 cI a6 L0) ++ wX2 cI a7 L0) H := hP
  have hD : va_D A (((((((((((([(h0, .inr (6, [.ref qL, .int 0, .ref (a1 0), .ref (a2 0), .ref (a3 0), .ref (a4 0), .ref (a5 0), .ref qS, .ref (a8 0), .ref (a9 0), .ref qW, .long 0]))] ++ [(qL, .inl (cI, 48, .inl (fun _ => 0)))]) ++ wX3 cI a1 mk_z0) ++ wX5 cI a2 T0) ++ wX5 cI a3 T0) ++ wX2 cI a4 L0) ++ wX0 cI a5 mk_z0) ++ [(qS, .inl (cO, 2, .inr (.inr (.inr (.inr (va_up (va_up (fun _ => none) 0 (some (a6 0))) 1 (some (a7 0))))))))]) ++ wX4 cI a8 mk_z0) ++ wX1 cI a9 mk_z0) ++ [(qW, .inl (cI, 4, .inl (fun _ => 0)))]) ++ wX2 cI a6 L0) ++ wX2 cI a7 L0) := hD
  refine lv_iinc (v := (2 : Int32)) (lv' := [(1, .int (2 : Int32)), (0, .ref h0)]) hx hb dX6_init_134 hl (k := 0) rfl (by decide) (by decide) rfl (fun ls hl => ?_)
  refine lv_goto (tgt := 116) hx hb dX6_init_137 (by decide) ?_
  refine lv_iload_n hx hb dX6_init_116 rfl (lv_at hl 0 rfl) ?_
  refine lv_iconst (v := (2 : Int32)) hx hb dX6_init_117 (by decide) ?_
  refine lv_icmp_ge (tgt := 140) hx hb dX6_init_118 (by decide) (fun _ => ?_) (fun q => absurd q (by decide))
  have hP2 : va_P D vwCl (((((((((((([(h0, .inr (6, [.ref qL, .int 0, .ref (a1 0), .ref (a2 0), .ref (a3 0), .ref (a4 0), .ref (a5 0), .ref qS, .ref (a8 0), .ref (a9 0), .ref qW, .long 0]))] ++ [(qL, .inl (cI, 48, .inl (fun _ => 0)))]) ++ wX3 cI a1 mk_z0) ++ wX5 cI a2 T0) ++ wX5 cI a3 T0) ++ wX2 cI a4 L0) ++ wX0 cI a5 mk_z0) ++ [(qS, .inl (cO, 2, .inr (.inr (.inr (.inr (fun j => if j = 0 then some (a6 0) else some (a7 0)))))))]) ++ wX4 cI a8 mk_z0) ++ wX1 cI a9 mk_z0) ++ [(qW, .inl (cI, 4, .inl (fun _ => 0)))]) ++ wX2 cI a6 L0) ++ wX2 cI a7 L0) H := mk_rcong hP hD (p := 31) rfl (fun j hj => by rcases (show j = 0 ∨ j = 1 by omega) with rfl | rfl <;> rfl)
  have hD2 : va_D A (((((((((((([(h0, .inr (6, [.ref qL, .int 0, .ref (a1 0), .ref (a2 0), .ref (a3 0), .ref (a4 0), .ref (a5 0), .ref qS, .ref (a8 0), .ref (a9 0), .ref qW, .long 0]))] ++ [(qL, .inl (cI, 48, .inl (fun _ => 0)))]) ++ wX3 cI a1 mk_z0) ++ wX5 cI a2 T0) ++ wX5 cI a3 T0) ++ wX2 cI a4 L0) ++ wX0 cI a5 mk_z0) ++ [(qS, .inl (cO, 2, .inr (.inr (.inr (.inr (fun j => if j = 0 then some (a6 0) else some (a7 0)))))))]) ++ wX4 cI a8 mk_z0) ++ wX1 cI a9 mk_z0) ++ [(qW, .inl (cI, 4, .inl (fun _ => 0)))]) ++ wX2 cI a6 L0) ++ wX2 cI a7 L0) := hD.set (p := 31) rfl
  exact hret _ _ _ _ (mk_ad2 [mk_ad [h0, qL, qW, qS], a1, a2, a3, a4, a5, a6, a7, a8, a9]) rfl (hP2.sub (ws' := wX6 cI cO (mk_ad2 [mk_ad [h0, qL, qW, qS], a1, a2, a3, a4, a5, a6, a7, a8, a9]) (mk_c0 T0 L0) 0) [0, 1, 31, 37, 2, 3, 4, 5, 6, 7, 8, 9, 10, 11, 12, 13, 14, 15, 16, 17, 18, 19, 20, 21, 22, 23, 24, 25, 26, 27, 28, 29, 30, 38, 39, 40, 41, 42, 43, 32, 33, 34, 35, 36] rfl) (hD2.sub (ws' := wX6 cI cO (mk_ad2 [mk_ad [h0, qL, qW, qS], a1, a2, a3, a4, a5, a6, a7, a8, a9]) (mk_c0 T0 L0) 0) [0, 1, 31, 37, 2, 3, 4, 5, 6, 7, 8, 9, 10, 11, 12, 13, 14, 15, 16, 17, 18, 19, 20, 21, 22, 23, 24, 25, 26, 27, 28, 29, 30, 38, 39, 40, 41, 42, 43, 32, 33, 34, 35, 36] (by decide) rfl) hS dX6_init_140
