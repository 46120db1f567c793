set_option maxHeartbeats 4000000 in
set_option maxRecDepth 100000 in
theorem law_c0 {Rel : CU → Int64 → TU → Int64 → Prop} (st : ∀ (c0 : CU) (sd : Int64) (u0 : TU) (sm : Int64) (p0 : Int32), Rel c0 sd u0 sm → ∃ (r : Int32) (c1 : CU) (mu1 : TU), f_X6_write NN c0 sd p0 = some (r, c1) ∧ f_X7_write NN u0 sm p0 = some (r, mu1) ∧ Rel c1 sd mu1 sm) {p : Program} {l : Launch} {e : Env} {s : State} {m : MethodId} {below : List Frame} {meth : Method} {c : Code} {D : va_G} {cI cZ cO : ClassId} {t b L : Nat} {xs : Nat → Int32} (hL : L ≤ 2048) (C0 : lw_At p s m meth c b L xs) (hK : va_K D vwCl (tyA cI cZ cO) s) (hZ : mk_Z cI t (fun q : Nat => s.heap.size ≤ q) s s.heap) (k : Nat) (hk : k + 4 ≤ L) (kk : ∀ (a : Nat → Nat → Nat) (c0 : CU) (sd : Int64) (bm : Nat → Nat) (u0 : TU) (sm : Int64) (H : Heap) (locs : List Loc) (ls : Array Slot), Rel c0 sd u0 sm → va_P D vwCl (wX6 cI cO a c0 sd ++ wX7 cI cZ bm u0 sm) H → va_D (fun q : Nat => s.heap.size ≤ q) (wX6 cI cO a c0 sd ++ wX7 cI cZ bm u0 sm) → va_S (fun q : Nat => s.heap.size ≤ q) s.heap H locs → lv_has ls 4 [(0, .ref b), (1, .ref (a 0 0)), (2, .ref (bm 0)), (3, .int (nI k))] → W p l e room_1 s m #[Value.ref b] below meth c H locs 64 691 (lw_Z below #[Value.ref b] s) (F0 m 893 ls [])) : ∀ (a : Nat → Nat → Nat) (c0 : CU) (sd : Int64) (bm : Nat → Nat) (u0 : TU) (sm : Int64) (H : Heap) (locs : List Loc) (ls : Array Slot), Rel c0 sd u0 sm → va_P D vwCl (wX6 cI cO a c0 sd ++ wX7 cI cZ bm u0 sm) H → va_D (fun q : Nat => s.heap.size ≤ q) (wX6 cI cO a c0 sd ++ wX7 cI cZ bm u0 sm) → va_S (fun q : Nat => s.heap.size ≤ q) s.heap H locs → lv_has ls 4 [(0, .ref b), (1, .ref (a 0 0)), (2, .ref (bm 0)), (3, .int (nI k))] → W p l e room_1 s m #[Value.ref b] below meth c H locs 64 691 (lw_Z below #[Value.ref b] s) (F0 m 160 ls []) := by
  obtain ⟨hx, hb, hr, hml, hown, hts, hX, hbl, hlocks, hgv⟩ := C0
  have hA : ∀ q : Nat, s.heap.size ≤ q → (fun q : Nat => s.heap.size ≤ q) q := fun _ h => h
  have hbA : ¬ (fun q : Nat => s.heap.size ≤ q) b := Nat.not_le.mpr hbl
  intro a c0 sd bm u0 sm H locs ls hR hP hD hS hl
  obtain ⟨z1, ez1⟩ : ∃ z, z = xs (nI k + (1 : Int32)).toNatClampNeg := ⟨_, rfl⟩
  have hin1 : vp_in (nI k + (1 : Int32)) L := by rw [show nI k + (1 : Int32) = nI (k + 1) from nI_add k 1]; exact vp_in_nI (by omega) (by omega)
  obtain ⟨z2, ez2⟩ : ∃ z, z = xs (nI k + (2 : Int32)).toNatClampNeg := ⟨_, rfl⟩
  have hin2 : vp_in (nI k + (2 : Int32)) L := by rw [show nI k + (2 : Int32) = nI (k + 2) from nI_add k 2]; exact vp_in_nI (by omega) (by omega)
  obtain ⟨z3, ez3⟩ : ∃ z, z = xs (nI k + (3 : Int32)).toNatClampNeg := ⟨_, rfl⟩
  have hin3 : vp_in (nI k + (3 : Int32)) L := by rw [show nI k + (3 : Int32) = nI (k + 3) from nI_add k 3]; exact vp_in_nI (by omega) (by omega)
  refine lv_aload_n hx hb dL_law_160 rfl (lv_at hl 1 rfl) ?_
  refine lv_aload_n hx hb dL_law_161 rfl (lv_at hl 0 rfl) ?_
  refine lv_iload_n hx hb dL_law_162 rfl (lv_at hl 3 rfl) ?_
  refine lv_iconst (v := (1 : Int32)) hx hb dL_law_163 (by decide) ?_
  refine lv_iadd hx hb dL_law_164 ?_
  refine va_sld hx hb hX hbl hbA hS hin1 dL_law_165 ?_
  refine mk_topi ez1 ?_
  obtain ⟨r, c1, mu1, h6, h7, hR⟩ := st c0 sd u0 sm z1 hR 
  refine el_vi (As := [.int z1]) (rest := []) ⟨hx, hb, hml, hown, hts⟩ (c_X6_write l D cI cZ cO NN a c0 sd z1 H.size (r, c1) h6) (cwV 1 hts kL_X6_write rfl rfl rfl (by decide +kernel) ⟨(Nat.le_of_ble_eq_true rfl), (Nat.le_of_ble_eq_true rfl)⟩) (va_recv hK (mk_Pl hP) (ci := 6) (q0 := 0) rfl rfl) hK hP hD hS hA rfl hl.1 rfl (Nat.le_of_ble_eq_true rfl) dL_law_166 ⟨by decide, by decide⟩ (fun H locs hP hD hS => ?_)
  have hP : va_P D vwCl (wX6 cI cO a c1 sd ++ wX7 cI cZ bm u0 sm) H := hP
  have hD : va_D (fun q : Nat => s.heap.size ≤ q) (wX6 cI cO a c1 sd ++ wX7 cI cZ bm u0 sm) := hD
  refine lv_aload_n hx hb dL_law_169 rfl (lv_at hl 2 rfl) ?_
  refine lv_aload_n hx hb dL_law_170 rfl (lv_at hl 0 rfl) ?_
  refine lv_iload_n hx hb dL_law_171 rfl (lv_at hl 3 rfl) ?_
  refine lv_iconst (v := (1 : Int32)) hx hb dL_law_172 (by decide) ?_
  refine lv_iadd hx hb dL_law_173 ?_
  refine va_sld hx hb hX hbl hbA hS hin1 dL_law_174 ?_
  refine mk_topi ez1 ?_
  refine er_vi (As := [.int z1]) (rest := [.int r]) ⟨hx, hb, hml, hown, hts⟩ (c_X7_write l D cI cZ cO NN bm u0 sm z1 H.size (r, mu1) h7) (cwV 1 hts kL_X7_write rfl rfl rfl (by decide +kernel) ⟨(Nat.le_of_ble_eq_true rfl), (Nat.le_of_ble_eq_true rfl)⟩) (va_recv hK (mk_Pr hP) (ci := 7) (q0 := 0) rfl rfl) hK hP hD hS hA rfl hl.1 rfl (Nat.le_of_ble_eq_true rfl) dL_law_175 ⟨by decide, by decide⟩ (fun H locs hP hD hS => ?_)
  refine lv_icmp_eq (tgt := 893) hx hb dL_law_178 (by decide) (fun _ => ?_) (fun q => absurd rfl q)
  exact kk a c1 sd bm mu1 sm H locs ls hR hP hD hS hl
set_option maxHeartbeats 4000000 in
set_option maxRecDepth 100000 in
theorem law_c1 {Rel : CU → Int64 → TU → Int64 → Prop} (st : ∀ (c0 : CU) (sd : Int64) (u0 : TU) (sm : Int64), Rel c0 sd u0 sm → ∃ (r : Int32) (c1 : CU) (mu1 : TU), f_X6_wipe NN c0 sd  = some (r, c1) ∧ f_X7_wipe NN u0 sm  = some (r, mu1) ∧ Rel c1 sd mu1 sm) {p : Program} {l : Launch} {e : Env} {s : State} {m : MethodId} {below : List Frame} {meth : Method} {c : Code} {D : va_G} {cI cZ cO : ClassId} {t b L : Nat} {xs : Nat → Int32} (hL : L ≤ 2048) (C0 : lw_At p s m meth c b L xs) (hK : va_K D vwCl (tyA cI cZ cO) s) (hZ : mk_Z cI t (fun q : Nat => s.heap.size ≤ q) s s.heap) (k : Nat) (hk : k + 4 ≤ L) (kk : ∀ (a : Nat → Nat → Nat) (c0 : CU) (sd : Int64) (bm : Nat → Nat) (u0 : TU) (sm : Int64) (H : Heap) (locs : List Loc) (ls : Array Slot), Rel c0 sd u0 sm → va_P D vwCl (wX6 cI cO a c0 sd ++ wX7 cI cZ bm u0 sm) H → va_D (fun q : Nat => s.heap.size ≤ q) (wX6 cI cO a c0 sd ++ wX7 cI cZ bm u0 sm) → va_S (fun q : Nat => s.heap.size ≤ q) s.heap H locs → lv_has ls 4 [(0, .ref b), (1, .ref (a 0 0)), (2, .ref (bm 0)), (3, .int (nI k))] → W p l e room_1 s m #[Value.ref b] below meth c H locs 64 691 (lw_Z below #[Value.ref b] s) (F0 m 893 ls [])) : ∀ (a : Nat → Nat → Nat) (c0 : CU) (sd : Int64) (bm : Nat → Nat) (u0 : TU) (sm : Int64) (H : Heap) (locs : List Loc) (ls : Array Slot), Rel c0 sd u0 sm → va_P D vwCl (wX6 cI cO a c0 sd ++ wX7 cI cZ bm u0 sm) H → va_D (fun q : Nat => s.heap.size ≤ q) (wX6 cI cO a c0 sd ++ wX7 cI cZ bm u0 sm) → va_S (fun q : Nat => s.heap.size ≤ q) s.heap H locs → lv_has ls 4 [(0, .ref b), (1, .ref (a 0 0)), (2, .ref (bm 0)), (3, .int (nI k))] → W p l e room_1 s m #[Value.ref b] below meth c H locs 64 691 (lw_Z below #[Value.ref b] s) (F0 m 183 ls []) := by
  obtain ⟨hx, hb, hr, hml, hown, hts, hX, hbl, hlocks, hgv⟩ := C0
  have hA : ∀ q : Nat, s.heap.size ≤ q → (fun q : Nat => s.heap.size ≤ q) q := fun _ h => h
  have hbA : ¬ (fun q : Nat => s.heap.size ≤ q) b := Nat.not_le.mpr hbl
  intro a c0 sd bm u0 sm H locs ls hR hP hD hS hl
  obtain ⟨z1, ez1⟩ : ∃ z, z = xs (nI k + (1 : Int32)).toNatClampNeg := ⟨_, rfl⟩
  have hin1 : vp_in (nI k + (1 : Int32)) L := by rw [show nI k + (1 : Int32) = nI (k + 1) from nI_add k 1]; exact vp_in_nI (by omega) (by omega)
  obtain ⟨z2, ez2⟩ : ∃ z, z = xs (nI k + (2 : Int32)).toNatClampNeg := ⟨_, rfl⟩
  have hin2 : vp_in (nI k + (2 : Int32)) L := by rw [show nI k + (2 : Int32) = nI (k + 2) from nI_add k 2]; exact vp_in_nI (by omega) (by omega)
  obtain ⟨z3, ez3⟩ : ∃ z, z = xs (nI k + (3 : Int32)).toNatClampNeg := ⟨_, rfl⟩
  have hin3 : vp_in (nI k + (3 : Int32)) L := by rw [show nI k + (3 : Int32) = nI (k + 3) from nI_add k 3]; exact vp_in_nI (by omega) (by omega)
  refine lv_aload_n hx hb dL_law_183 rfl (lv_at hl 1 rfl) ?_
  obtain ⟨r, c1, mu1, h6, h7, hR⟩ := st c0 sd u0 sm  hR 
  refine el_vi (As := []) (rest := []) ⟨hx, hb, hml, hown, hts⟩ (c_X6_wipe l D cI cZ cO NN a c0 sd  H.size (r, c1) h6) (cwV 0 hts kL_X6_wipe rfl rfl rfl (by decide +kernel) ⟨(Nat.le_of_ble_eq_true rfl), (Nat.le_of_ble_eq_true rfl)⟩) (va_recv hK (mk_Pl hP) (ci := 6) (q0 := 0) rfl rfl) hK hP hD hS hA rfl hl.1 rfl (Nat.le_of_ble_eq_true rfl) dL_law_184 ⟨by decide, by decide⟩ (fun H locs hP hD hS => ?_)
  have hP : va_P D vwCl (wX6 cI cO a c1 sd ++ wX7 cI cZ bm u0 sm) H := hP
  have hD : va_D (fun q : Nat => s.heap.size ≤ q) (wX6 cI cO a c1 sd ++ wX7 cI cZ bm u0 sm) := hD
  refine lv_aload_n hx hb dL_law_187 rfl (lv_at hl 2 rfl) ?_
  refine er_vi (As := []) (rest := [.int r]) ⟨hx, hb, hml, hown, hts⟩ (c_X7_wipe l D cI cZ cO NN bm u0 sm  H.size (r, mu1) h7) (cwV 0 hts kL_X7_wipe rfl rfl rfl (by decide +kernel) ⟨(Nat.le_of_ble_eq_true rfl), (Nat.le_of_ble_eq_true rfl)⟩) (va_recv hK (mk_Pr hP) (ci := 7) (q0 := 0) rfl rfl) hK hP hD hS hA rfl hl.1 rfl (Nat.le_of_ble_eq_true rfl) dL_law_188 ⟨by decide, by decide⟩ (fun H locs hP hD hS => ?_)
  refine lv_icmp_eq (tgt := 893) hx hb dL_law_191 (by decide) (fun _ => ?_) (fun q => absurd rfl q)
  exact kk a c1 sd bm mu1 sm H locs ls hR hP hD hS hl
set_option maxHeartbeats 4000000 in
set_option maxRecDepth 100000 in
theorem law_c2 {Rel : CU → Int64 → TU → Int64 → Prop} (st : ∀ (c0 : CU) (sd : Int64) (u0 : TU) (sm : Int64), Rel c0 sd u0 sm → ∃ (r : Int32) (c1 : CU) (mu1 : TU), f_X6_fault NN c0 sd  = some (r, c1) ∧ f_X7_fault NN u0 sm  = some (r, mu1) ∧ Rel c1 sd mu1 sm) {p : Program} {l : Launch} {e : Env} {s : State} {m : MethodId} {below : List Frame} {meth : Method} {c : Code} {D : va_G} {cI cZ cO : ClassId} {t b L : Nat} {xs : Nat → Int32} (hL : L ≤ 2048) (C0 : lw_At p s m meth c b L xs) (hK : va_K D vwCl (tyA cI cZ cO) s) (hZ : mk_Z cI t (fun q : Nat => s.heap.size ≤ q) s s.heap) (k : Nat) (hk : k + 4 ≤ L) (kk : ∀ (a : Nat → Nat → Nat) (c0 : CU) (sd : Int64) (bm : Nat → Nat) (u0 : TU) (sm : Int64) (H : Heap) (locs : List Loc) (ls : Array Slot), Rel c0 sd u0 sm → va_P D vwCl (wX6 cI cO a c0 sd ++ wX7 cI cZ bm u0 sm) H → va_D (fun q : Nat => s.heap.size ≤ q) (wX6 cI cO a c0 sd ++ wX7 cI cZ bm u0 sm) → va_S (fun q : Nat => s.heap.size ≤ q) s.heap H locs → lv_has ls 4 [(0, .ref b), (1, .ref (a 0 0)), (2, .ref (bm 0)), (3, .int (nI k))] → W p l e room_1 s m #[Value.ref b] below meth c H locs 64 691 (lw_Z below #[Value.ref b] s) (F0 m 893 ls [])) : ∀ (a : Nat → Nat → Nat) (c0 : CU) (sd : Int64) (bm : Nat → Nat) (u0 : TU) (sm : Int64) (H : Heap) (locs : List Loc) (ls : Array Slot), Rel c0 sd u0 sm → va_P D vwCl (wX6 cI cO a c0 sd ++ wX7 cI cZ bm u0 sm) H → va_D (fun q : Nat => s.heap.size ≤ q) (wX6 cI cO a c0 sd ++ wX7 cI cZ bm u0 sm) → va_S (fun q : Nat => s.heap.size ≤ q) s.heap H locs → lv_has ls 4 [(0, .ref b), (1, .ref (a 0 0)), (2, .ref (bm 0)), (3, .int (nI k))] → W p l e room_1 s m #[Value.ref b] below meth c H locs 64 691 (lw_Z below #[Value.ref b] s) (F0 m 196 ls []) := by
  obtain ⟨hx, hb, hr, hml, hown, hts, hX, hbl, hlocks, hgv⟩ := C0
  have hA : ∀ q : Nat, s.heap.size ≤ q → (fun q : Nat => s.heap.size ≤ q) q := fun _ h => h
  have hbA : ¬ (fun q : Nat => s.heap.size ≤ q) b := Nat.not_le.mpr hbl
  intro a c0 sd bm u0 sm H locs ls hR hP hD hS hl
  obtain ⟨z1, ez1⟩ : ∃ z, z = xs (nI k + (1 : Int32)).toNatClampNeg := ⟨_, rfl⟩
  have hin1 : vp_in (nI k + (1 : Int32)) L := by rw [show nI k + (1 : Int32) = nI (k + 1) from nI_add k 1]; exact vp_in_nI (by omega) (by omega)
  obtain ⟨z2, ez2⟩ : ∃ z, z = xs (nI k + (2 : Int32)).toNatClampNeg := ⟨_, rfl⟩
  have hin2 : vp_in (nI k + (2 : Int32)) L := by rw [show nI k + (2 : Int32) = nI (k + 2) from nI_add k 2]; exact vp_in_nI (by omega) (by omega)
  obtain ⟨z3, ez3⟩ : ∃ z, z = xs (nI k + (3 : Int32)).toNatClampNeg := ⟨_, rfl⟩
  have hin3 : vp_in (nI k + (3 : Int32)) L := by rw [show nI k + (3 : Int32) = nI (k + 3) from nI_add k 3]; exact vp_in_nI (by omega) (by omega)
  refine lv_aload_n hx hb dL_law_196 rfl (lv_at hl 1 rfl) ?_
  obtain ⟨r, c1, mu1, h6, h7, hR⟩ := st c0 sd u0 sm  hR 
  refine el_vi (As := []) (rest := []) ⟨hx, hb, hml, hown, hts⟩ (c_X6_fault l D cI cZ cO NN a c0 sd  H.size (r, c1) h6) (cwV 0 hts kL_X6_fault rfl rfl rfl (by decide +kernel) ⟨(Nat.le_of_ble_eq_true rfl), (Nat.le_of_ble_eq_true rfl)⟩) (va_recv hK (mk_Pl hP) (ci := 6) (q0 := 0) rfl rfl) hK hP hD hS hA rfl hl.1 rfl (Nat.le_of_ble_eq_true rfl) dL_law_197 ⟨by decide, by decide⟩ (fun H locs hP hD hS => ?_)
  have hP : va_P D vwCl (wX6 cI cO a c1 sd ++ wX7 cI cZ bm u0 sm) H := hP
  have hD : va_D (fun q : Nat => s.heap.size ≤ q) (wX6 cI cO a c1 sd ++ wX7 cI cZ bm u0 sm) := hD
  refine lv_aload_n hx hb dL_law_200 rfl (lv_at hl 2 rfl) ?_
  refine er_vi (As := []) (rest := [.int r]) ⟨hx, hb, hml, hown, hts⟩ (c_X7_fault l D cI cZ cO NN bm u0 sm  H.size (r, mu1) h7) (cwV 0 hts kL_X7_fault rfl rfl rfl (by decide +kernel) ⟨(Nat.le_of_ble_eq_true rfl), (Nat.le_of_ble_eq_true rfl)⟩) (va_recv hK (mk_Pr hP) (ci := 7) (q0 := 0) rfl rfl) hK hP hD hS hA rfl hl.1 rfl (Nat.le_of_ble_eq_true rfl) dL_law_201 ⟨by decide, by decide⟩ (fun H locs hP hD hS => ?_)
  refine lv_icmp_eq (tgt := 893) hx hb dL_law_204 (by decide) (fun _ => ?_) (fun q => absurd rfl q)
  exact kk a c1 sd bm mu1 sm H locs ls hR hP hD hS hl
set_option maxHeartbeats 4000000 in
set_option maxRecDepth 100000 in
theorem law_c3 {Rel : CU → Int64 → TU → Int64 → Prop} (st : ∀ (c0 : CU) (sd : Int64) (u0 : TU) (sm : Int64), Rel c0 sd u0 sm → ∃ (r : Int32) (b_sw : Bool) (c1 : CU) (mu1 : TU), f_X6_town NN c0 sd  = some (r, b_sw, c1) ∧ f_X7_town NN u0 sm  = some (r, mu1) ∧ Rel c1 sd mu1 sm) {p : Program} {l : Launch} {e : Env} {s : State} {m : MethodId} {below : List Frame} {meth : Method} {c : Code} {D : va_G} {cI cZ cO : ClassId} {t b L : Nat} {xs : Nat → Int32} (hL : L ≤ 2048) (C0 : lw_At p s m meth c b L xs) (hK : va_K D vwCl (tyA cI cZ cO) s) (hZ : mk_Z cI t (fun q : Nat => s.heap.size ≤ q) s s.heap) (k : Nat) (hk : k + 4 ≤ L) (kk : ∀ (a : Nat → Nat → Nat) (c0 : CU) (sd : Int64) (bm : Nat → Nat) (u0 : TU) (sm : Int64) (H : Heap) (locs : List Loc) (ls : Array Slot), Rel c0 sd u0 sm → va_P D vwCl (wX6 cI cO a c0 sd ++ wX7 cI cZ bm u0 sm) H → va_D (fun q : Nat => s.heap.size ≤ q) (wX6 cI cO a c0 sd ++ wX7 cI cZ bm u0 sm) → va_S (fun q : Nat => s.heap.size ≤ q) s.heap H locs → lv_has ls 4 [(0, .ref b), (1, .ref (a 0 0)), (2, .ref (bm 0)), (3, .int (nI k))] → W p l e room_1 s m #[Value.ref b] below meth c H locs 64 691 (lw_Z below #[Value.ref b] s) (F0 m 893 ls [])) : ∀ (a : Nat → Nat → Nat) (c0 : CU) (sd : Int64) (bm : Nat → Nat) (u0 : TU) (sm : Int64) (H : Heap) (locs : List Loc) (ls : Array Slot), Rel c0 sd u0 sm → va_P D vwCl (wX6 cI cO a c0 sd ++ wX7 cI cZ bm u0 sm) H → va_D (fun q : Nat => s.heap.size ≤ q) (wX6 cI cO a c0 sd ++ wX7 cI cZ bm u0 sm) → va_S (fun q : Nat => s.heap.size ≤ q) s.heap H locs → lv_has ls 4 [(0, .ref b), (1, .ref (a 0 0)), (2, .ref (bm 0)), (3, .int (nI k))] → W p l e room_1 s m #[Value.ref b] below meth c H locs 64 691 (lw_Z below #[Value.ref b] s) (F0 m 209 ls []) := by
  obtain ⟨hx, hb, hr, hml, hown, hts, hX, hbl, hlocks, hgv⟩ := C0
  have hA : ∀ q : Nat, s.heap.size ≤ q → (fun q : Nat => s.heap.size ≤ q) q := fun _ h => h
  have hbA : ¬ (fun q : Nat => s.heap.size ≤ q) b := Nat.not_le.mpr hbl
  intro a c0 sd bm u0 sm H locs ls hR hP hD hS hl
  obtain ⟨z1, ez1⟩ : ∃ z, z = xs (nI k + (1 : Int32)).toNatClampNeg := ⟨_, rfl⟩
  have hin1 : vp_in (nI k + (1 : Int32)) L := by rw [show nI k + (1 : Int32) = nI (k + 1) from nI_add k 1]; exact vp_in_nI (by omega) (by omega)
  obtain ⟨z2, ez2⟩ : ∃ z, z = xs (nI k + (2 : Int32)).toNatClampNeg := ⟨_, rfl⟩
  have hin2 : vp_in (nI k + (2 : Int32)) L := by rw [show nI k + (2 : Int32) = nI (k + 2) from nI_add k 2]; exact vp_in_nI (by omega) (by omega)
  obtain ⟨z3, ez3⟩ : ∃ z, z = xs (nI k + (3 : Int32)).toNatClampNeg := ⟨_, rfl⟩
  have hin3 : vp_in (nI k + (3 : Int32)) L := by rw [show nI k + (3 : Int32) = nI (k + 3) from nI_add k 3]; exact vp_in_nI (by omega) (by omega)
  refine lv_aload_n hx hb dL_law_209 rfl (lv_at hl 1 rfl) ?_
  obtain ⟨r, b_sw, c1, mu1, h6, h7, hR⟩ := st c0 sd u0 sm  hR 
  refine el_vi (As := []) (rest := []) ⟨hx, hb, hml, hown, hts⟩ (c_X6_town l D cI cZ cO NN a c0 sd  H.size (r, b_sw, c1) h6) (cwV 0 hts kL_X6_town rfl rfl rfl (by decide +kernel) ⟨(Nat.le_of_ble_eq_true rfl), (Nat.le_of_ble_eq_true rfl)⟩) (va_recv hK (mk_Pl hP) (ci := 6) (q0 := 0) rfl rfl) hK hP hD hS hA rfl hl.1 rfl (Nat.le_of_ble_eq_true rfl) dL_law_210 ⟨by decide, by decide⟩ (fun H locs hP hD hS => ?_)
  have hP : va_P D vwCl (wX6 cI cO (if b_sw then mk_sw a else a) c1 sd ++ wX7 cI cZ bm u0 sm) H := hP
  have hD : va_D (fun q : Nat => s.heap.size ≤ q) (wX6 cI cO (if b_sw then mk_sw a else a) c1 sd ++ wX7 cI cZ bm u0 sm) := hD
  have hl : lv_has ls 4 [(0, .ref b), (1, .ref ((if b_sw then mk_sw a else a) 0 0)), (2, .ref (bm 0)), (3, .int (nI k))] := by rw [show ((if b_sw then mk_sw a else a) 0 0) = a 0 0 by cases b_sw <;> rfl]; exact hl
  refine lv_aload_n hx hb dL_law_213 rfl (lv_at hl 2 rfl) ?_
  refine er_vi (As := []) (rest := [.int r]) ⟨hx, hb, hml, hown, hts⟩ (c_X7_town l D cI cZ cO NN bm u0 sm  H.size (r, mu1) h7) (cwV 0 hts kL_X7_town rfl rfl rfl (by decide +kernel) ⟨(Nat.le_of_ble_eq_true rfl), (Nat.le_of_ble_eq_true rfl)⟩) (va_recv hK (mk_Pr hP) (ci := 7) (q0 := 0) rfl rfl) hK hP hD hS hA rfl hl.1 rfl (Nat.le_of_ble_eq_true rfl) dL_law_214 ⟨by decide, by decide⟩ (fun H locs hP hD hS => ?_)
  refine lv_icmp_eq (tgt := 893) hx hb dL_law_217 (by decide) (fun _ => ?_) (fun q => absurd rfl q)
  exact kk (if b_sw then mk_sw a else a) c1 sd bm mu1 sm H locs ls hR hP hD hS hl
set_option maxHeartbeats 4000000 in
set_option maxRecDepth 100000 in
theorem law_c4 {Rel : CU → Int64 → TU → Int64 → Prop} (st : ∀ (c0 : CU) (sd : Int64) (u0 : TU) (sm : Int64) (p0 : Int32) (p1 : Int32), Rel c0 sd u0 sm → ∃ (r : Int32), f_X6_thing NN c0 sd p0 p1 = some r ∧ f_X7_thing NN u0 sm p0 p1 = some r ∧ Rel c0 sd u0 sm) {p : Program} {l : Launch} {e : Env} {s : State} {m : MethodId} {below : List Frame} {meth : Method} {c : Code} {D : va_G} {cI cZ cO : ClassId} {t b L : Nat} {xs : Nat → Int32} (hL : L ≤ 2048) (C0 : lw_At p s m meth c b L xs) (hK : va_K D vwCl (tyA cI cZ cO) s) (hZ : mk_Z cI t (fun q : Nat => s.heap.size ≤ q) s s.heap) (k : Nat) (hk : k + 4 ≤ L) (kk : ∀ (a : Nat → Nat → Nat) (c0 : CU) (sd : Int64) (bm : Nat → Nat) (u0 : TU) (sm : Int64) (H : Heap) (locs : List Loc) (ls : Array Slot), Rel c0 sd u0 sm → va_P D vwCl (wX6 cI cO a c0 sd ++ wX7 cI cZ bm u0 sm) H → va_D (fun q : Nat => s.heap.size ≤ q) (wX6 cI cO a c0 sd ++ wX7 cI cZ bm u0 sm) → va_S (fun q : Nat => s.heap.size ≤ q) s.heap H locs → lv_has ls 4 [(0, .ref b), (1, .ref (a 0 0)), (2, .ref (bm 0)), (3, .int (nI k))] → W p l e room_1 s m #[Value.ref b] below meth c H locs 64 691 (lw_Z below #[Value.ref b] s) (F0 m 893 ls [])) : ∀ (a : Nat → Nat → Nat) (c0 : CU) (sd : Int64) (bm : Nat → Nat) (u0 : TU) (sm : Int64) (H : Heap) (locs : List Loc) (ls : Array Slot), Rel c0 sd u0 sm → va_P D vwCl (wX6 cI cO a c0 sd ++ wX7 cI cZ bm u0 sm) H → va_D (fun q : Nat => s.heap.size ≤ q) (wX6 cI cO a c0 sd ++ wX7 cI cZ bm u0 sm) → va_S (fun q : Nat => s.heap.size ≤ q) s.heap H locs → lv_has ls 4 [(0, .ref b), (1, .ref (a 0 0)), (2, .ref (bm 0)), (3, .int (nI k))] → W p l e room_1 s m #[Value.ref b] below meth c H locs 64 691 (lw_Z below #[Value.ref b] s) (F0 m 222 ls []) := by
  obtain ⟨hx, hb, hr, hml, hown, hts, hX, hbl, hlocks, hgv⟩ := C0
  have hA : ∀ q : Nat, s.heap.size ≤ q → (fun q : Nat => s.heap.size ≤ q) q := fun _ h => h
  have hbA : ¬ (fun q : Nat => s.heap.size ≤ q) b := Nat.not_le.mpr hbl
  intro a c0 sd bm u0 sm H locs ls hR hP hD hS hl
  obtain ⟨z1, ez1⟩ : ∃ z, z = xs (nI k + (1 : Int32)).toNatClampNeg := ⟨_, rfl⟩
  have hin1 : vp_in (nI k + (1 : Int32)) L := by rw [show nI k + (1 : Int32) = nI (k + 1) from nI_add k 1]; exact vp_in_nI (by omega) (by omega)
  obtain ⟨z2, ez2⟩ : ∃ z, z = xs (nI k + (2 : Int32)).toNatClampNeg := ⟨_, rfl⟩
  have hin2 : vp_in (nI k + (2 : Int32)) L := by rw [show nI k + (2 : Int32) = nI (k + 2) from nI_add k 2]; exact vp_in_nI (by omega) (by omega)
  obtain ⟨z3, ez3⟩ : ∃ z, z = xs (nI k + (3 : Int32)).toNatClampNeg := ⟨_, rfl⟩
  have hin3 : vp_in (nI k + (3 : Int32)) L := by rw [show nI k + (3 : Int32) = nI (k + 3) from nI_add k 3]; exact vp_in_nI (by omega) (by omega)
  refine lv_aload_n hx hb dL_law_222 rfl (lv_at hl 1 rfl) ?_
  refine lv_aload_n hx hb dL_law_223 rfl (lv_at hl 0 rfl) ?_
  refine lv_iload_n hx hb dL_law_224 rfl (lv_at hl 3 rfl) ?_
  refine lv_iconst (v := (1 : Int32)) hx hb dL_law_225 (by decide) ?_
  refine lv_iadd hx hb dL_law_226 ?_
  refine va_sld hx hb hX hbl hbA hS hin1 dL_law_227 ?_
  refine mk_topi ez1 ?_
  refine lv_aload_n hx hb dL_law_228 rfl (lv_at hl 0 rfl) ?_
  refine lv_iload_n hx hb dL_law_229 rfl (lv_at hl 3 rfl) ?_
  refine lv_iconst (v := (2 : Int32)) hx hb dL_law_230 (by decide) ?_
  refine lv_iadd hx hb dL_law_231 ?_
  refine va_sld hx hb hX hbl hbA hS hin2 dL_law_232 ?_
  refine mk_topi ez2 ?_
  obtain ⟨r, h6, h7, hR⟩ := st c0 sd u0 sm z1 z2 hR 
  refine pc_v (As := [.int z1, .int z2]) (rest := []) ⟨hx, hb, hml, hown, hts⟩ (c_X6_thing l D cI cZ cO NN a c0 sd z1 z2 r h6) (cwV 2 hts kL_X6_thing rfl rfl rfl (by decide +kernel) ⟨(Nat.le_of_ble_eq_true rfl), (Nat.le_of_ble_eq_true rfl)⟩) (va_recv hK (mk_Pl hP) (ci := 6) (q0 := 0) rfl rfl) (mk_Pl hP) hK rfl hl.1 rfl (Nat.le_of_ble_eq_true rfl) dL_law_233 ⟨by decide, by decide⟩ ?_
  refine lv_aload_n hx hb dL_law_236 rfl (lv_at hl 2 rfl) ?_
  refine lv_aload_n hx hb dL_law_237 rfl (lv_at hl 0 rfl) ?_
  refine lv_iload_n hx hb dL_law_238 rfl (lv_at hl 3 rfl) ?_
  refine lv_iconst (v := (1 : Int32)) hx hb dL_law_239 (by decide) ?_
  refine lv_iadd hx hb dL_law_240 ?_
  refine va_sld hx hb hX hbl hbA hS hin1 dL_law_241 ?_
  refine mk_topi ez1 ?_
  refine lv_aload_n hx hb dL_law_242 rfl (lv_at hl 0 rfl) ?_
  refine lv_iload_n hx hb dL_law_243 rfl (lv_at hl 3 rfl) ?_
  refine lv_iconst (v := (2 : Int32)) hx hb dL_law_244 (by decide) ?_
  refine lv_iadd hx hb dL_law_245 ?_
  refine va_sld hx hb hX hbl hbA hS hin2 dL_law_246 ?_
  refine mk_topi ez2 ?_
  refine pc_v (As := [.int z1, .int z2]) (rest := [.int r]) ⟨hx, hb, hml, hown, hts⟩ (c_X7_thing l D cI cZ cO NN bm u0 sm z1 z2 r h7) (cwV 2 hts kL_X7_thing rfl rfl rfl (by decide +kernel) ⟨(Nat.le_of_ble_eq_true rfl), (Nat.le_of_ble_eq_true rfl)⟩) (va_recv hK (mk_Pr hP) (ci := 7) (q0 := 0) rfl rfl) (mk_Pr hP) hK rfl hl.1 rfl (Nat.le_of_ble_eq_true rfl) dL_law_247 ⟨by decide, by decide⟩ ?_
  refine lv_icmp_eq (tgt := 893) hx hb dL_law_250 (by decide) (fun _ => ?_) (fun q => absurd rfl q)
  exact kk a c0 sd bm u0 sm H locs ls hR hP hD hS hl
set_option maxHeartbeats 4000000 in
set_option maxRecDepth 100000 in
theorem law_c5 {Rel : CU → Int64 → TU → Int64 → Prop} (st : ∀ (c0 : CU) (sd : Int64) (u0 : TU) (sm : Int64) (p0 : Int32) (p1 : Int32), Rel c0 sd u0 sm → ∃ (r : Int32), f_X6_asker NN c0 sd p0 p1 = some r ∧ f_X7_asker NN u0 sm p0 p1 = some r ∧ Rel c0 sd u0 sm) {p : Program} {l : Launch} {e : Env} {s : State} {m : MethodId} {below : List Frame} {meth : Method} {c : Code} {D : va_G} {cI cZ cO : ClassId} {t b L : Nat} {xs : Nat → Int32} (hL : L ≤ 2048) (C0 : lw_At p s m meth c b L xs) (hK : va_K D vwCl (tyA cI cZ cO) s) (hZ : mk_Z cI t (fun q : Nat => s.heap.size ≤ q) s s.heap) (k : Nat) (hk : k + 4 ≤ L) (kk : ∀ (a : Nat → Nat → Nat) (c0 : CU) (sd : Int64) (bm : Nat → Nat) (u0 : TU) (sm : Int64) (H : Heap) (locs : List Loc) (ls : Array Slot), Rel c0 sd u0 sm → va_P D vwCl (wX6 cI cO a c0 sd ++ wX7 cI cZ bm u0 sm) H → va_D (fun q : Nat => s.heap.size ≤ q) (wX6 cI cO a c0 sd ++ wX7 cI cZ bm u0 sm) → va_S (fun q : Nat => s.heap.size ≤ q) s.heap H locs → lv_has ls 4 [(0, .ref b), (1, .ref (a 0 0)), (2, .ref (bm 0)), (3, .int (nI k))] → W p l e room_1 s m #[Value.ref b] below meth c H locs 64 691 (lw_Z below #[Value.ref b] s) (F0 m 893 ls [])) : ∀ (a : Nat → Nat → Nat) (c0 : CU) (sd : Int64) (bm : Nat → Nat) (u0 : TU) (sm : Int64) (H : Heap) (locs : List Loc) (ls : Array Slot), Rel c0 sd u0 sm → va_P D vwCl (wX6 cI cO a c0 sd ++ wX7 cI cZ bm u0 sm) H → va_D (fun q : Nat => s.heap.size ≤ q) (wX6 cI cO a c0 sd ++ wX7 cI cZ bm u0 sm) → va_S (fun q : Nat => s.heap.size ≤ q) s.heap H locs → lv_has ls 4 [(0, .ref b), (1, .ref (a 0 0)), (2, .ref (bm 0)), (3, .int (nI k))] → W p l e room_1 s m #[Value.ref b] below meth c H locs 64 691 (lw_Z below #[Value.ref b] s) (F0 m 255 ls []) := by
  obtain ⟨hx, hb, hr, hml, hown, hts, hX, hbl, hlocks, hgv⟩ := C0
  have hA : ∀ q : Nat, s.heap.size ≤ q → (fun q : Nat => s.heap.size ≤ q) q := fun _ h => h
  have hbA : ¬ (fun q : Nat => s.heap.size ≤ q) b := Nat.not_le.mpr hbl
  intro a c0 sd bm u0 sm H locs ls hR hP hD hS hl
  obtain ⟨z1, ez1⟩ : ∃ z, z = xs (nI k + (1 : Int32)).toNatClampNeg := ⟨_, rfl⟩
  have hin1 : vp_in (nI k + (1 : Int32)) L := by rw [show nI k + (1 : Int32) = nI (k + 1) from nI_add k 1]; exact vp_in_nI (by omega) (by omega)
  obtain ⟨z2, ez2⟩ : ∃ z, z = xs (nI k + (2 : Int32)).toNatClampNeg := ⟨_, rfl⟩
  have hin2 : vp_in (nI k + (2 : Int32)) L := by rw [show nI k + (2 : Int32) = nI (k + 2) from nI_add k 2]; exact vp_in_nI (by omega) (by omega)
  obtain ⟨z3, ez3⟩ : ∃ z, z = xs (nI k + (3 : Int32)).toNatClampNeg := ⟨_, rfl⟩
  have hin3 : vp_in (nI k + (3 : Int32)) L := by rw [show nI k + (3 : Int32) = nI (k + 3) from nI_add k 3]; exact vp_in_nI (by omega) (by omega)
  refine lv_aload_n hx hb dL_law_255 rfl (lv_at hl 1 rfl) ?_
  refine lv_aload_n hx hb dL_law_256 rfl (lv_at hl 0 rfl) ?_
  refine lv_iload_n hx hb dL_law_257 rfl (lv_at hl 3 rfl) ?_
  refine lv_iconst (v := (1 : Int32)) hx hb dL_law_258 (by decide) ?_
  refine lv_iadd hx hb dL_law_259 ?_
  refine va_sld hx hb hX hbl hbA hS hin1 dL_law_260 ?_
  refine mk_topi ez1 ?_
  refine lv_aload_n hx hb dL_law_261 rfl (lv_at hl 0 rfl) ?_
  refine lv_iload_n hx hb dL_law_262 rfl (lv_at hl 3 rfl) ?_
  refine lv_iconst (v := (2 : Int32)) hx hb dL_law_263 (by decide) ?_
  refine lv_iadd hx hb dL_law_264 ?_
  refine va_sld hx hb hX hbl hbA hS hin2 dL_law_265 ?_
  refine mk_topi ez2 ?_
  obtain ⟨r, h6, h7, hR⟩ := st c0 sd u0 sm z1 z2 hR 
  refine pc_v (As := [.int z1, .int z2]) (rest := []) ⟨hx, hb, hml, hown, hts⟩ (c_X6_asker l D cI cZ cO NN a c0 sd z1 z2 r h6) (cwV 2 hts kL_X6_asker rfl rfl rfl (by decide +kernel) ⟨(Nat.le_of_ble_eq_true rfl), (Nat.le_of_ble_eq_true rfl)⟩) (va_recv hK (mk_Pl hP) (ci := 6) (q0 := 0) rfl rfl) (mk_Pl hP) hK rfl hl.1 rfl (Nat.le_of_ble_eq_true rfl) dL_law_266 ⟨by decide, by decide⟩ ?_
  refine lv_aload_n hx hb dL_law_269 rfl (lv_at hl 2 rfl) ?_
  refine lv_aload_n hx hb dL_law_270 rfl (lv_at hl 0 rfl) ?_
  refine lv_iload_n hx hb dL_law_271 rfl (lv_at hl 3 rfl) ?_
  refine lv_iconst (v := (1 : Int32)) hx hb dL_law_272 (by decide) ?_
  refine lv_iadd hx hb dL_law_273 ?_
  refine va_sld hx hb hX hbl hbA hS hin1 dL_law_274 ?_
  refine mk_topi ez1 ?_
  refine lv_aload_n hx hb dL_law_275 rfl (lv_at hl 0 rfl) ?_
  refine lv_iload_n hx hb dL_law_276 rfl (lv_at hl 3 rfl) ?_
  refine lv_iconst (v := (2 : Int32)) hx hb dL_law_277 (by decide) ?_
  refine lv_iadd hx hb dL_law_278 ?_
  refine va_sld hx hb hX hbl hbA hS hin2 dL_law_279 ?_
  refine mk_topi ez2 ?_
  refine pc_v (As := [.int z1, .int z2]) (rest := [.int r]) ⟨hx, hb, hml, hown, hts⟩ (c_X7_asker l D cI cZ cO NN bm u0 sm z1 z2 r h7) (cwV 2 hts kL_X7_asker rfl rfl rfl (by decide +kernel) ⟨(Nat.le_of_ble_eq_true rfl), (Nat.le_of_ble_eq_true rfl)⟩) (va_recv hK (mk_Pr hP) (ci := 7) (q0 := 0) rfl rfl) (mk_Pr hP) hK rfl hl.1 rfl (Nat.le_of_ble_eq_true rfl) dL_law_280 ⟨by decide, by decide⟩ ?_
  refine lv_icmp_eq (tgt := 893) hx hb dL_law_283 (by decide) (fun _ => ?_) (fun q => absurd rfl q)
  exact kk a c0 sd bm u0 sm H locs ls hR hP hD hS hl
set_option maxHeartbeats 4000000 in
set_option maxRecDepth 100000 in
theorem law_c6 {Rel : CU → Int64 → TU → Int64 → Prop} (st : ∀ (c0 : CU) (sd : Int64) (u0 : TU) (sm : Int64) (p0 : Int32) (p1 : Int32), Rel c0 sd u0 sm → ∃ (r : Int32) (c1 : CU) (mu1 : TU), f_X6_ask NN c0 sd p0 p1 = some (r, c1) ∧ f_X7_ask NN u0 sm p0 p1 = some (r, mu1) ∧ Rel c1 sd mu1 sm) {p : Program} {l : Launch} {e : Env} {s : State} {m : MethodId} {below : List Frame} {meth : Method} {c : Code} {D : va_G} {cI cZ cO : ClassId} {t b L : Nat} {xs : Nat → Int32} (hL : L ≤ 2048) (C0 : lw_At p s m meth c b L xs) (hK : va_K D vwCl (tyA cI cZ cO) s) (hZ : mk_Z cI t (fun q : Nat => s.heap.size ≤ q) s s.heap) (k : Nat) (hk : k + 4 ≤ L) (kk : ∀ (a : Nat → Nat → Nat) (c0 : CU) (sd : Int64) (bm : Nat → Nat) (u0 : TU) (sm : Int64) (H : Heap) (locs : List Loc) (ls : Array Slot), Rel c0 sd u0 sm → va_P D vwCl (wX6 cI cO a c0 sd ++ wX7 cI cZ bm u0 sm) H → va_D (fun q : Nat => s.heap.size ≤ q) (wX6 cI cO a c0 sd ++ wX7 cI cZ bm u0 sm) → va_S (fun q : Nat => s.heap.size ≤ q) s.heap H locs → lv_has ls 4 [(0, .ref b), (1, .ref (a 0 0)), (2, .ref (bm 0)), (3, .int (nI k))] → W p l e room_1 s m #[Value.ref b] below meth c H locs 64 691 (lw_Z below #[Value.ref b] s) (F0 m 893 ls [])) : ∀ (a : Nat → Nat → Nat) (c0 : CU) (sd : Int64) (bm : Nat → Nat) (u0 : TU) (sm : Int64) (H : Heap) (locs : List Loc) (ls : Array Slot), Rel c0 sd u0 sm → va_P D vwCl (wX6 cI cO a c0 sd ++ wX7 cI cZ bm u0 sm) H → va_D (fun q : Nat => s.heap.size ≤ q) (wX6 cI cO a c0 sd ++ wX7 cI cZ bm u0 sm) → va_S (fun q : Nat => s.heap.size ≤ q) s.heap H locs → lv_has ls 4 [(0, .ref b), (1, .ref (a 0 0)), (2, .ref (bm 0)), (3, .int (nI k))] → W p l e room_1 s m #[Value.ref b] below meth c H locs 64 691 (lw_Z below #[Value.ref b] s) (F0 m 288 ls []) := by
  obtain ⟨hx, hb, hr, hml, hown, hts, hX, hbl, hlocks, hgv⟩ := C0
  have hA : ∀ q : Nat, s.heap.size ≤ q → (fun q : Nat => s.heap.size ≤ q) q := fun _ h => h
  have hbA : ¬ (fun q : Nat => s.heap.size ≤ q) b := Nat.not_le.mpr hbl
  intro a c0 sd bm u0 sm H locs ls hR hP hD hS hl
  obtain ⟨z1, ez1⟩ : ∃ z, z = xs (nI k + (1 : Int32)).toNatClampNeg := ⟨_, rfl⟩
  have hin1 : vp_in (nI k + (1 : Int32)) L := by rw [show nI k + (1 : Int32) = nI (k + 1) from nI_add k 1]; exact vp_in_nI (by omega) (by omega)
  obtain ⟨z2, ez2⟩ : ∃ z, z = xs (nI k + (2 : Int32)).toNatClampNeg := ⟨_, rfl⟩
  have hin2 : vp_in (nI k + (2 : Int32)) L := by rw [show nI k + (2 : Int32) = nI (k + 2) from nI_add k 2]; exact vp_in_nI (by omega) (by omega)
  obtain ⟨z3, ez3⟩ : ∃ z, z = xs (nI k + (3 : Int32)).toNatClampNeg := ⟨_, rfl⟩
  have hin3 : vp_in (nI k + (3 : Int32)) L := by rw [show nI k + (3 : Int32) = nI (k + 3) from nI_add k 3]; exact vp_in_nI (by omega) (by omega)
  refine lv_aload_n hx hb dL_law_288 rfl (lv_at hl 1 rfl) ?_
  refine lv_aload_n hx hb dL_law_289 rfl (lv_at hl 0 rfl) ?_
  refine lv_iload_n hx hb dL_law_290 rfl (lv_at hl 3 rfl) ?_
  refine lv_iconst (v := (1 : Int32)) hx hb dL_law_291 (by decide) ?_
  refine lv_iadd hx hb dL_law_292 ?_
  refine va_sld hx hb hX hbl hbA hS hin1 dL_law_293 ?_
  refine mk_topi ez1 ?_
  refine lv_aload_n hx hb dL_law_294 rfl (lv_at hl 0 rfl) ?_
  refine lv_iload_n hx hb dL_law_295 rfl (lv_at hl 3 rfl) ?_
  refine lv_iconst (v := (2 : Int32)) hx hb dL_law_296 (by decide) ?_
  refine lv_iadd hx hb dL_law_297 ?_
  refine va_sld hx hb hX hbl hbA hS hin2 dL_law_298 ?_
  refine mk_topi ez2 ?_
  obtain ⟨r, c1, mu1, h6, h7, hR⟩ := st c0 sd u0 sm z1 z2 hR 
  refine el_vi (As := [.int z1, .int z2]) (rest := []) ⟨hx, hb, hml, hown, hts⟩ (c_X6_ask l D cI cZ cO NN a c0 sd z1 z2 H.size (r, c1) h6) (cwV 2 hts kL_X6_ask rfl rfl rfl (by decide +kernel) ⟨(Nat.le_of_ble_eq_true rfl), (Nat.le_of_ble_eq_true rfl)⟩) (va_recv hK (mk_Pl hP) (ci := 6) (q0 := 0) rfl rfl) hK hP hD hS hA rfl hl.1 rfl (Nat.le_of_ble_eq_true rfl) dL_law_299 ⟨by decide, by decide⟩ (fun H locs hP hD hS => ?_)
  have hP : va_P D vwCl (wX6 cI cO a c1 sd ++ wX7 cI cZ bm u0 sm) H := hP
  have hD : va_D (fun q : Nat => s.heap.size ≤ q) (wX6 cI cO a c1 sd ++ wX7 cI cZ bm u0 sm) := hD
  refine lv_aload_n hx hb dL_law_302 rfl (lv_at hl 2 rfl) ?_
  refine lv_aload_n hx hb dL_law_303 rfl (lv_at hl 0 rfl) ?_
  refine lv_iload_n hx hb dL_law_304 rfl (lv_at hl 3 rfl) ?_
  refine lv_iconst (v := (1 : Int32)) hx hb dL_law_305 (by decide) ?_
  refine lv_iadd hx hb dL_law_306 ?_
  refine va_sld hx hb hX hbl hbA hS hin1 dL_law_307 ?_
  refine mk_topi ez1 ?_
  refine lv_aload_n hx hb dL_law_308 rfl (lv_at hl 0 rfl) ?_
  refine lv_iload_n hx hb dL_law_309 rfl (lv_at hl 3 rfl) ?_
  refine lv_iconst (v := (2 : Int32)) hx hb dL_law_310 (by decide) ?_
  refine lv_iadd hx hb dL_law_311 ?_
  refine va_sld hx hb hX hbl hbA hS hin2 dL_law_312 ?_
  refine mk_topi ez2 ?_
  refine er_vi (As := [.int z1, .int z2]) (rest := [.int r]) ⟨hx, hb, hml, hown, hts⟩ (c_X7_ask l D cI cZ cO NN bm u0 sm z1 z2 H.size (r, mu1) h7) (cwV 2 hts kL_X7_ask rfl rfl rfl (by decide +kernel) ⟨(Nat.le_of_ble_eq_true rfl), (Nat.le_of_ble_eq_true rfl)⟩) (va_recv hK (mk_Pr hP) (ci := 7) (q0 := 0) rfl rfl) hK hP hD hS hA rfl hl.1 rfl (Nat.le_of_ble_eq_true rfl) dL_law_313 ⟨by decide, by decide⟩ (fun H locs hP hD hS => ?_)
  refine lv_icmp_eq (tgt := 893) hx hb dL_law_316 (by decide) (fun _ => ?_) (fun q => absurd rfl q)
  exact kk a c1 sd bm mu1 sm H locs ls hR hP hD hS hl
set_option maxHeartbeats 4000000 in
set_option maxRecDepth 100000 in
theorem law_c7 {Rel : CU → Int64 → TU → Int64 → Prop} (st : ∀ (c0 : CU) (sd : Int64) (u0 : TU) (sm : Int64), Rel c0 sd u0 sm → ∃ (r : Int32) (c1 : CU) (mu1 : TU), f_X6_day NN c0 sd  = some (r, c1) ∧ f_X7_day NN u0 sm  = some (r, mu1) ∧ Rel c1 sd mu1 sm) {p : Program} {l : Launch} {e : Env} {s : State} {m : MethodId} {below : List Frame} {meth : Method} {c : Code} {D : va_G} {cI cZ cO : ClassId} {t b L : Nat} {xs : Nat → Int32} (hL : L ≤ 2048) (C0 : lw_At p s m meth c b L xs) (hK : va_K D vwCl (tyA cI cZ cO) s) (hZ : mk_Z cI t (fun q : Nat => s.heap.size ≤ q) s s.heap) (k : Nat) (hk : k + 4 ≤ L) (kk : ∀ (a : Nat → Nat → Nat) (c0 : CU) (sd : Int64) (bm : Nat → Nat) (u0 : TU) (sm : Int64) (H : Heap) (locs : List Loc) (ls : Array Slot), Rel c0 sd u0 sm → va_P D vwCl (wX6 cI cO a c0 sd ++ wX7 cI cZ bm u0 sm) H → va_D (fun q : Nat => s.heap.size ≤ q) (wX6 cI cO a c0 sd ++ wX7 cI cZ bm u0 sm) → va_S (fun q : Nat => s.heap.size ≤ q) s.heap H locs → lv_has ls 4 [(0, .ref b), (1, .ref (a 0 0)), (2, .ref (bm 0)), (3, .int (nI k))] → W p l e room_1 s m #[Value.ref b] below meth c H locs 64 691 (lw_Z below #[Value.ref b] s) (F0 m 893 ls [])) : ∀ (a : Nat → Nat → Nat) (c0 : CU) (sd : Int64) (bm : Nat → Nat) (u0 : TU) (sm : Int64) (H : Heap) (locs : List Loc) (ls : Array Slot), Rel c0 sd u0 sm → va_P D vwCl (wX6 cI cO a c0 sd ++ wX7 cI cZ bm u0 sm) H → va_D (fun q : Nat => s.heap.size ≤ q) (wX6 cI cO a c0 sd ++ wX7 cI cZ bm u0 sm) → va_S (fun q : Nat => s.heap.size ≤ q) s.heap H locs → lv_has ls 4 [(0, .ref b), (1, .ref (a 0 0)), (2, .ref (bm 0)), (3, .int (nI k))] → W p l e room_1 s m #[Value.ref b] below meth c H locs 64 691 (lw_Z below #[Value.ref b] s) (F0 m 321 ls []) := by
  obtain ⟨hx, hb, hr, hml, hown, hts, hX, hbl, hlocks, hgv⟩ := C0
  have hA : ∀ q : Nat, s.heap.size ≤ q → (fun q : Nat => s.heap.size ≤ q) q := fun _ h => h
  have hbA : ¬ (fun q : Nat => s.heap.size ≤ q) b := Nat.not_le.mpr hbl
  intro a c0 sd bm u0 sm H locs ls hR hP hD hS hl
  obtain ⟨z1, ez1⟩ : ∃ z, z = xs (nI k + (1 : Int32)).toNatClampNeg := ⟨_, rfl⟩
  have hin1 : vp_in (nI k + (1 : Int32)) L := by rw [show nI k + (1 : Int32) = nI (k + 1) from nI_add k 1]; exact vp_in_nI (by omega) (by omega)
  obtain ⟨z2, ez2⟩ : ∃ z, z = xs (nI k + (2 : Int32)).toNatClampNeg := ⟨_, rfl⟩
  have hin2 : vp_in (nI k + (2 : Int32)) L := by rw [show nI k + (2 : Int32) = nI (k + 2) from nI_add k 2]; exact vp_in_nI (by omega) (by omega)
  obtain ⟨z3, ez3⟩ : ∃ z, z = xs (nI k + (3 : Int32)).toNatClampNeg := ⟨_, rfl⟩
  have hin3 : vp_in (nI k + (3 : Int32)) L := by rw [show nI k + (3 : Int32) = nI (k + 3) from nI_add k 3]; exact vp_in_nI (by omega) (by omega)
  refine lv_aload_n hx hb dL_law_321 rfl (lv_at hl 1 rfl) ?_
  obtain ⟨r, c1, mu1, h6, h7, hR⟩ := st c0 sd u0 sm  hR 
  refine el_vi (As := []) (rest := []) ⟨hx, hb, hml, hown, hts⟩ (c_X6_day l D cI cZ cO NN a c0 sd  H.size (r, c1) h6) (cwV 0 hts kL_X6_day rfl rfl rfl (by decide +kernel) ⟨(Nat.le_of_ble_eq_true rfl), (Nat.le_of_ble_eq_true rfl)⟩) (va_recv hK (mk_Pl hP) (ci := 6) (q0 := 0) rfl rfl) hK hP hD hS hA rfl hl.1 rfl (Nat.le_of_ble_eq_true rfl) dL_law_322 ⟨by decide, by decide⟩ (fun H locs hP hD hS => ?_)
  have hP : va_P D vwCl (wX6 cI cO a c1 sd ++ wX7 cI cZ bm u0 sm) H := hP
  have hD : va_D (fun q : Nat => s.heap.size ≤ q) (wX6 cI cO a c1 sd ++ wX7 cI cZ bm u0 sm) := hD
  refine lv_aload_n hx hb dL_law_325 rfl (lv_at hl 2 rfl) ?_
  refine er_vi (As := []) (rest := [.int r]) ⟨hx, hb, hml, hown, hts⟩ (c_X7_day l D cI cZ cO NN bm u0 sm  H.size (r, mu1) h7) (cwV 0 hts kL_X7_day rfl rfl rfl (by decide +kernel) ⟨(Nat.le_of_ble_eq_true rfl), (Nat.le_of_ble_eq_true rfl)⟩) (va_recv hK (mk_Pr hP) (ci := 7) (q0 := 0) rfl rfl) hK hP hD hS hA rfl hl.1 rfl (Nat.le_of_ble_eq_true rfl) dL_law_326 ⟨by decide, by decide⟩ (fun H locs hP hD hS => ?_)
  refine lv_icmp_eq (tgt := 893) hx hb dL_law_329 (by decide) (fun _ => ?_) (fun q => absurd rfl q)
  exact kk a c1 sd bm mu1 sm H locs ls hR hP hD hS hl
set_option maxHeartbeats 4000000 in
set_option maxRecDepth 100000 in
theorem law_c8 {Rel : CU → Int64 → TU → Int64 → Prop} (st : ∀ (c0 : CU) (sd : Int64) (u0 : TU) (sm : Int64) (p0 : Int32), Rel c0 sd u0 sm → ∃ (r : Int32) (c1 : CU) (mu1 : TU), f_X6_sell NN c0 sd p0 = some (r, c1) ∧ f_X7_sell NN u0 sm p0 = some (r, mu1) ∧ Rel c1 sd mu1 sm) {p : Program} {l : Launch} {e : Env} {s : State} {m : MethodId} {below : List Frame} {meth : Method} {c : Code} {D : va_G} {cI cZ cO : ClassId} {t b L : Nat} {xs : Nat → Int32} (hL : L ≤ 2048) (C0 : lw_At p s m meth c b L xs) (hK : va_K D vwCl (tyA cI cZ cO) s) (hZ : mk_Z cI t (fun q : Nat => s.heap.size ≤ q) s s.heap) (k : Nat) (hk : k + 4 ≤ L) (kk : ∀ (a : Nat → Nat → Nat) (c0 : CU) (sd : Int64) (bm : Nat → Nat) (u0 : TU) (sm : Int64) (H : Heap) (locs : List Loc) (ls : Array Slot), Rel c0 sd u0 sm → va_P D vwCl (wX6 cI cO a c0 sd ++ wX7 cI cZ bm u0 sm) H → va_D (fun q : Nat => s.heap.size ≤ q) (wX6 cI cO a c0 sd ++ wX7 cI cZ bm u0 sm) → va_S (fun q : Nat => s.heap.size ≤ q) s.heap H locs → lv_has ls 4 [(0, .ref b), (1, .ref (a 0 0)), (2, .ref (bm 0)), (3, .int (nI k))] → W p l e room_1 s m #[Value.ref b] below meth c H locs 64 691 (lw_Z below #[Value.ref b] s) (F0 m 893 ls [])) : ∀ (a : Nat → Nat → Nat) (c0 : CU) (sd : Int64) (bm : Nat → Nat) (u0 : TU) (sm : Int64) (H : Heap) (locs : List Loc) (ls : Array Slot), Rel c0 sd u0 sm → va_P D vwCl (wX6 cI cO a c0 sd ++ wX7 cI cZ bm u0 sm) H → va_D (fun q : Nat => s.heap.size ≤ q) (wX6 cI cO a c0 sd ++ wX7 cI cZ bm u0 sm) → va_S (fun q : Nat => s.heap.size ≤ q) s.heap H locs → lv_has ls 4 [(0, .ref b), (1, .ref (a 0 0)), (2, .ref (bm 0)), (3, .int (nI k))] → W p l e room_1 s m #[Value.ref b] below meth c H locs 64 691 (lw_Z below #[Value.ref b] s) (F0 m 334 ls []) := by
  obtain ⟨hx, hb, hr, hml, hown, hts, hX, hbl, hlocks, hgv⟩ := C0
  have hA : ∀ q : Nat, s.heap.size ≤ q → (fun q : Nat => s.heap.size ≤ q) q := fun _ h => h
  have hbA : ¬ (fun q : Nat => s.heap.size ≤ q) b := Nat.not_le.mpr hbl
  intro a c0 sd bm u0 sm H locs ls hR hP hD hS hl
  obtain ⟨z1, ez1⟩ : ∃ z, z = xs (nI k + (1 : Int32)).toNatClampNeg := ⟨_, rfl⟩
  have hin1 : vp_in (nI k + (1 : Int32)) L := by rw [show nI k + (1 : Int32) = nI (k + 1) from nI_add k 1]; exact vp_in_nI (by omega) (by omega)
  obtain ⟨z2, ez2⟩ : ∃ z, z = xs (nI k + (2 : Int32)).toNatClampNeg := ⟨_, rfl⟩
  have hin2 : vp_in (nI k + (2 : Int32)) L := by rw [show nI k + (2 : Int32) = nI (k + 2) from nI_add k 2]; exact vp_in_nI (by omega) (by omega)
  obtain ⟨z3, ez3⟩ : ∃ z, z = xs (nI k + (3 : Int32)).toNatClampNeg := ⟨_, rfl⟩
  have hin3 : vp_in (nI k + (3 : Int32)) L := by rw [show nI k + (3 : Int32) = nI (k + 3) from nI_add k 3]; exact vp_in_nI (by omega) (by omega)
  refine lv_aload_n hx hb dL_law_334 rfl (lv_at hl 1 rfl) ?_
  refine lv_aload_n hx hb dL_law_335 rfl (lv_at hl 0 rfl) ?_
  refine lv_iload_n hx hb dL_law_336 rfl (lv_at hl 3 rfl) ?_
  refine lv_iconst (v := (1 : Int32)) hx hb dL_law_337 (by decide) ?_
  refine lv_iadd hx hb dL_law_338 ?_
  refine va_sld hx hb hX hbl hbA hS hin1 dL_law_339 ?_
  refine mk_topi ez1 ?_
  obtain ⟨r, c1, mu1, h6, h7, hR⟩ := st c0 sd u0 sm z1 hR 
  refine el_vi (As := [.int z1]) (rest := []) ⟨hx, hb, hml, hown, hts⟩ (c_X6_sell l D cI cZ cO NN a c0 sd z1 H.size (r, c1) h6) (cwV 1 hts kL_X6_sell rfl rfl rfl (by decide +kernel) ⟨(Nat.le_of_ble_eq_true rfl), (Nat.le_of_ble_eq_true rfl)⟩) (va_recv hK (mk_Pl hP) (ci := 6) (q0 := 0) rfl rfl) hK hP hD hS hA rfl hl.1 rfl (Nat.le_of_ble_eq_true rfl) dL_law_340 ⟨by decide, by decide⟩ (fun H locs hP hD hS => ?_)
  have hP : va_P D vwCl (wX6 cI cO a c1 sd ++ wX7 cI cZ bm u0 sm) H := hP
  have hD : va_D (fun q : Nat => s.heap.size ≤ q) (wX6 cI cO a c1 sd ++ wX7 cI cZ bm u0 sm) := hD
  refine lv_aload_n hx hb dL_law_343 rfl (lv_at hl 2 rfl) ?_
  refine lv_aload_n hx hb dL_law_344 rfl (lv_at hl 0 rfl) ?_
  refine lv_iload_n hx hb dL_law_345 rfl (lv_at hl 3 rfl) ?_
  refine lv_iconst (v := (1 : Int32)) hx hb dL_law_346 (by decide) ?_
  refine lv_iadd hx hb dL_law_347 ?_
  refine va_sld hx hb hX hbl hbA hS hin1 dL_law_348 ?_
  refine mk_topi ez1 ?_
  refine er_vi (As := [.int z1]) (rest := [.int r]) ⟨hx, hb, hml, hown, hts⟩ (c_X7_sell l D cI cZ cO NN bm u0 sm z1 H.size (r, mu1) h7) (cwV 1 hts kL_X7_sell rfl rfl rfl (by decide +kernel) ⟨(Nat.le_of_ble_eq_true rfl), (Nat.le_of_ble_eq_true rfl)⟩) (va_recv hK (mk_Pr hP) (ci := 7) (q0 := 0) rfl rfl) hK hP hD hS hA rfl hl.1 rfl (Nat.le_of_ble_eq_true rfl) dL_law_349 ⟨by decide, by decide⟩ (fun H locs hP hD hS => ?_)
  refine lv_icmp_eq (tgt := 893) hx hb dL_law_352 (by decide) (fun _ => ?_) (fun q => absurd rfl q)
  exact kk a c1 sd bm mu1 sm H locs ls hR hP hD hS hl
set_option maxHeartbeats 4000000 in
set_option maxRecDepth 100000 in
theorem law_c9 {Rel : CU → Int64 → TU → Int64 → Prop} (st : ∀ (c0 : CU) (sd : Int64) (u0 : TU) (sm : Int64), Rel c0 sd u0 sm → ∃ (r : Int32) (c1 : CU) (mu1 : TU), f_X6_undo NN c0 sd  = some (r, c1) ∧ f_X7_undo NN u0 sm  = some (r, mu1) ∧ Rel c1 sd mu1 sm) {p : Program} {l : Launch} {e : Env} {s : State} {m : MethodId} {below : List Frame} {meth : Method} {c : Code} {D : va_G} {cI cZ cO : ClassId} {t b L : Nat} {xs : Nat → Int32} (hL : L ≤ 2048) (C0 : lw_At p s m meth c b L xs) (hK : va_K D vwCl (tyA cI cZ cO) s) (hZ : mk_Z cI t (fun q : Nat => s.heap.size ≤ q) s s.heap) (k : Nat) (hk : k + 4 ≤ L) (kk : ∀ (a : Nat → Nat → Nat) (c0 : CU) (sd : Int64) (bm : Nat → Nat) (u0 : TU) (sm : Int64) (H : Heap) (locs : List Loc) (ls : Array Slot), Rel c0 sd u0 sm → va_P D vwCl (wX6 cI cO a c0 sd ++ wX7 cI cZ bm u0 sm) H → va_D (fun q : Nat => s.heap.size ≤ q) (wX6 cI cO a c0 sd ++ wX7 cI cZ bm u0 sm) → va_S (fun q : Nat => s.heap.size ≤ q) s.heap H locs → lv_has ls 4 [(0, .ref b), (1, .ref (a 0 0)), (2, .ref (bm 0)), (3, .int (nI k))] → W p l e room_1 s m #[Value.ref b] below meth c H locs 64 691 (lw_Z below #[Value.ref b] s) (F0 m 893 ls [])) : ∀ (a : Nat → Nat → Nat) (c0 : CU) (sd : Int64) (bm : Nat → Nat) (u0 : TU) (sm : Int64) (H : Heap) (locs : List Loc) (ls : Array Slot), Rel c0 sd u0 sm → va_P D vwCl (wX6 cI cO a c0 sd ++ wX7 cI cZ bm u0 sm) H → va_D (fun q : Nat => s.heap.size ≤ q) (wX6 cI cO a c0 sd ++ wX7 cI cZ bm u0 sm) → va_S (fun q : Nat => s.heap.size ≤ q) s.heap H locs → lv_has ls 4 [(0, .ref b), (1, .ref (a 0 0)), (2, .ref (bm 0)), (3, .int (nI k))] → W p l e room_1 s m #[Value.ref b] below meth c H locs 64 691 (lw_Z below #[Value.ref b] s) (F0 m 357 ls []) := by
  obtain ⟨hx, hb, hr, hml, hown, hts, hX, hbl, hlocks, hgv⟩ := C0
  have hA : ∀ q : Nat, s.heap.size ≤ q → (fun q : Nat => s.heap.size ≤ q) q := fun _ h => h
  have hbA : ¬ (fun q : Nat => s.heap.size ≤ q) b := Nat.not_le.mpr hbl
  intro a c0 sd bm u0 sm H locs ls hR hP hD hS hl
  obtain ⟨z1, ez1⟩ : ∃ z, z = xs (nI k + (1 : Int32)).toNatClampNeg := ⟨_, rfl⟩
  have hin1 : vp_in (nI k + (1 : Int32)) L := by rw [show nI k + (1 : Int32) = nI (k + 1) from nI_add k 1]; exact vp_in_nI (by omega) (by omega)
  obtain ⟨z2, ez2⟩ : ∃ z, z = xs (nI k + (2 : Int32)).toNatClampNeg := ⟨_, rfl⟩
  have hin2 : vp_in (nI k + (2 : Int32)) L := by rw [show nI k + (2 : Int32) = nI (k + 2) from nI_add k 2]; exact vp_in_nI (by omega) (by omega)
  obtain ⟨z3, ez3⟩ : ∃ z, z = xs (nI k + (3 : Int32)).toNatClampNeg := ⟨_, rfl⟩
  have hin3 : vp_in (nI k + (3 : Int32)) L := by rw [show nI k + (3 : Int32) = nI (k + 3) from nI_add k 3]; exact vp_in_nI (by omega) (by omega)
  refine lv_aload_n hx hb dL_law_357 rfl (lv_at hl 1 rfl) ?_
  obtain ⟨r, c1, mu1, h6, h7, hR⟩ := st c0 sd u0 sm  hR 
  refine el_vi (As := []) (rest := []) ⟨hx, hb, hml, hown, hts⟩ (c_X6_undo l D cI cZ cO NN a c0 sd  H.size (r, c1) h6) (cwV 0 hts kL_X6_undo rfl rfl rfl (by decide +kernel) ⟨(Nat.le_of_ble_eq_true rfl), (Nat.le_of_ble_eq_true rfl)⟩) (va_recv hK (mk_Pl hP) (ci := 6) (q0 := 0) rfl rfl) hK hP hD hS hA rfl hl.1 rfl (Nat.le_of_ble_eq_true rfl) dL_law_358 ⟨by decide, by decide⟩ (fun H locs hP hD hS => ?_)
  have hP : va_P D vwCl (wX6 cI cO a c1 sd ++ wX7 cI cZ bm u0 sm) H := hP
  have hD : va_D (fun q : Nat => s.heap.size ≤ q) (wX6 cI cO a c1 sd ++ wX7 cI cZ bm u0 sm) := hD
  refine lv_aload_n hx hb dL_law_361 rfl (lv_at hl 2 rfl) ?_
  refine er_vi (As := []) (rest := [.int r]) ⟨hx, hb, hml, hown, hts⟩ (c_X7_undo l D cI cZ cO NN bm u0 sm  H.size (r, mu1) h7) (cwV 0 hts kL_X7_undo rfl rfl rfl (by decide +kernel) ⟨(Nat.le_of_ble_eq_true rfl), (Nat.le_of_ble_eq_true rfl)⟩) (va_recv hK (mk_Pr hP) (ci := 7) (q0 := 0) rfl rfl) hK hP hD hS hA rfl hl.1 rfl (Nat.le_of_ble_eq_true rfl) dL_law_362 ⟨by decide, by decide⟩ (fun H locs hP hD hS => ?_)
  refine lv_icmp_eq (tgt := 893) hx hb dL_law_365 (by decide) (fun _ => ?_) (fun q => absurd rfl q)
  exact kk a c1 sd bm mu1 sm H locs ls hR hP hD hS hl
set_option maxHeartbeats 4000000 in
set_option maxRecDepth 100000 in
theorem law_c10 {Rel : CU → Int64 → TU → Int64 → Prop} (st : ∀ (c0 : CU) (sd : Int64) (u0 : TU) (sm : Int64) (p0 : Int32), Rel c0 sd u0 sm → ∃ (r : Int32), f_X6_worlds NN c0 sd p0 = some r ∧ f_X7_worlds NN u0 sm p0 = some r ∧ Rel c0 sd u0 sm) {p : Program} {l : Launch} {e : Env} {s : State} {m : MethodId} {below : List Frame} {meth : Method} {c : Code} {D : va_G} {cI cZ cO : ClassId} {t b L : Nat} {xs : Nat → Int32} (hL : L ≤ 2048) (C0 : lw_At p s m meth c b L xs) (hK : va_K D vwCl (tyA cI cZ cO) s) (hZ : mk_Z cI t (fun q : Nat => s.heap.size ≤ q) s s.heap) (k : Nat) (hk : k + 4 ≤ L) (kk : ∀ (a : Nat → Nat → Nat) (c0 : CU) (sd : Int64) (bm : Nat → Nat) (u0 : TU) (sm : Int64) (H : Heap) (locs : List Loc) (ls : Array Slot), Rel c0 sd u0 sm → va_P D vwCl (wX6 cI cO a c0 sd ++ wX7 cI cZ bm u0 sm) H → va_D (fun q : Nat => s.heap.size ≤ q) (wX6 cI cO a c0 sd ++ wX7 cI cZ bm u0 sm) → va_S (fun q : Nat => s.heap.size ≤ q) s.heap H locs → lv_has ls 4 [(0, .ref b), (1, .ref (a 0 0)), (2, .ref (bm 0)), (3, .int (nI k))] → W p l e room_1 s m #[Value.ref b] below meth c H locs 64 691 (lw_Z below #[Value.ref b] s) (F0 m 893 ls [])) : ∀ (a : Nat → Nat → Nat) (c0 : CU) (sd : Int64) (bm : Nat → Nat) (u0 : TU) (sm : Int64) (H : Heap) (locs : List Loc) (ls : Array Slot), Rel c0 sd u0 sm → va_P D vwCl (wX6 cI cO a c0 sd ++ wX7 cI cZ bm u0 sm) H → va_D (fun q : Nat => s.heap.size ≤ q) (wX6 cI cO a c0 sd ++ wX7 cI cZ bm u0 sm) → va_S (fun q : Nat => s.heap.size ≤ q) s.heap H locs → lv_has ls 4 [(0, .ref b), (1, .ref (a 0 0)), (2, .ref (bm 0)), (3, .int (nI k))] → W p l e room_1 s m #[Value.ref b] below meth c H locs 64 691 (lw_Z below #[Value.ref b] s) (F0 m 370 ls []) := by
  obtain ⟨hx, hb, hr, hml, hown, hts, hX, hbl, hlocks, hgv⟩ := C0
  have hA : ∀ q : Nat, s.heap.size ≤ q → (fun q : Nat => s.heap.size ≤ q) q := fun _ h => h
  have hbA : ¬ (fun q : Nat => s.heap.size ≤ q) b := Nat.not_le.mpr hbl
  intro a c0 sd bm u0 sm H locs ls hR hP hD hS hl
  obtain ⟨z1, ez1⟩ : ∃ z, z = xs (nI k + (1 : Int32)).toNatClampNeg := ⟨_, rfl⟩
  have hin1 : vp_in (nI k + (1 : Int32)) L := by rw [show nI k + (1 : Int32) = nI (k + 1) from nI_add k 1]; exact vp_in_nI (by omega) (by omega)
  obtain ⟨z2, ez2⟩ : ∃ z, z = xs (nI k + (2 : Int32)).toNatClampNeg := ⟨_, rfl⟩
  have hin2 : vp_in (nI k + (2 : Int32)) L := by rw [show nI k + (2 : Int32) = nI (k + 2) from nI_add k 2]; exact vp_in_nI (by omega) (by omega)
  obtain ⟨z3, ez3⟩ : ∃ z, z = xs (nI k + (3 : Int32)).toNatClampNeg := ⟨_, rfl⟩
  have hin3 : vp_in (nI k + (3 : Int32)) L := by rw [show nI k + (3 : Int32) = nI (k + 3) from nI_add k 3]; exact vp_in_nI (by omega) (by omega)
  refine lv_aload_n hx hb dL_law_370 rfl (lv_at hl 1 rfl) ?_
  refine lv_aload_n hx hb dL_law_371 rfl (lv_at hl 0 rfl) ?_
  refine lv_iload_n hx hb dL_law_372 rfl (lv_at hl 3 rfl) ?_
  refine lv_iconst (v := (1 : Int32)) hx hb dL_law_373 (by decide) ?_
  refine lv_iadd hx hb dL_law_374 ?_
  refine va_sld hx hb hX hbl hbA hS hin1 dL_law_375 ?_
  refine mk_topi ez1 ?_
  obtain ⟨r, h6, h7, hR⟩ := st c0 sd u0 sm z1 hR 
  refine pc_v (As := [.int z1]) (rest := []) ⟨hx, hb, hml, hown, hts⟩ (c_X6_worlds l D cI cZ cO NN a c0 sd z1 r h6) (cwV 1 hts kL_X6_worlds rfl rfl rfl (by decide +kernel) ⟨(Nat.le_of_ble_eq_true rfl), (Nat.le_of_ble_eq_true rfl)⟩) (va_recv hK (mk_Pl hP) (ci := 6) (q0 := 0) rfl rfl) (mk_Pl hP) hK rfl hl.1 rfl (Nat.le_of_ble_eq_true rfl) dL_law_376 ⟨by decide, by decide⟩ ?_
  refine lv_aload_n hx hb dL_law_379 rfl (lv_at hl 2 rfl) ?_
  refine lv_aload_n hx hb dL_law_380 rfl (lv_at hl 0 rfl) ?_
  refine lv_iload_n hx hb dL_law_381 rfl (lv_at hl 3 rfl) ?_
  refine lv_iconst (v := (1 : Int32)) hx hb dL_law_382 (by decide) ?_
  refine lv_iadd hx hb dL_law_383 ?_
  refine va_sld hx hb hX hbl hbA hS hin1 dL_law_384 ?_
  refine mk_topi ez1 ?_
  refine pc_v (As := [.int z1]) (rest := [.int r]) ⟨hx, hb, hml, hown, hts⟩ (c_X7_worlds l D cI cZ cO NN bm u0 sm z1 r h7) (cwV 1 hts kL_X7_worlds rfl rfl rfl (by decide +kernel) ⟨(Nat.le_of_ble_eq_true rfl), (Nat.le_of_ble_eq_true rfl)⟩) (va_recv hK (mk_Pr hP) (ci := 7) (q0 := 0) rfl rfl) (mk_Pr hP) hK rfl hl.1 rfl (Nat.le_of_ble_eq_true rfl) dL_law_385 ⟨by decide, by decide⟩ ?_
  refine lv_icmp_eq (tgt := 893) hx hb dL_law_388 (by decide) (fun _ => ?_) (fun q => absurd rfl q)
  exact kk a c0 sd bm u0 sm H locs ls hR hP hD hS hl
set_option maxHeartbeats 4000000 in
set_option maxRecDepth 100000 in
theorem law_c11 {Rel : CU → Int64 → TU → Int64 → Prop} (st : ∀ (c0 : CU) (sd : Int64) (u0 : TU) (sm : Int64) (p0 : Int32), Rel c0 sd u0 sm → ∃ (r : Int32), f_X6_holds NN c0 sd p0 = some r ∧ f_X7_holds NN u0 sm p0 = some r ∧ Rel c0 sd u0 sm) {p : Program} {l : Launch} {e : Env} {s : State} {m : MethodId} {below : List Frame} {meth : Method} {c : Code} {D : va_G} {cI cZ cO : ClassId} {t b L : Nat} {xs : Nat → Int32} (hL : L ≤ 2048) (C0 : lw_At p s m meth c b L xs) (hK : va_K D vwCl (tyA cI cZ cO) s) (hZ : mk_Z cI t (fun q : Nat => s.heap.size ≤ q) s s.heap) (k : Nat) (hk : k + 4 ≤ L) (kk : ∀ (a : Nat → Nat → Nat) (c0 : CU) (sd : Int64) (bm : Nat → Nat) (u0 : TU) (sm : Int64) (H : Heap) (locs : List Loc) (ls : Array Slot), Rel c0 sd u0 sm → va_P D vwCl (wX6 cI cO a c0 sd ++ wX7 cI cZ bm u0 sm) H → va_D (fun q : Nat => s.heap.size ≤ q) (wX6 cI cO a c0 sd ++ wX7 cI cZ bm u0 sm) → va_S (fun q : Nat => s.heap.size ≤ q) s.heap H locs → lv_has ls 4 [(0, .ref b), (1, .ref (a 0 0)), (2, .ref (bm 0)), (3, .int (nI k))] → W p l e room_1 s m #[Value.ref b] below meth c H locs 64 691 (lw_Z below #[Value.ref b] s) (F0 m 893 ls [])) : ∀ (a : Nat → Nat → Nat) (c0 : CU) (sd : Int64) (bm : Nat → Nat) (u0 : TU) (sm : Int64) (H : Heap) (locs : List Loc) (ls : Array Slot), Rel c0 sd u0 sm → va_P D vwCl (wX6 cI cO a c0 sd ++ wX7 cI cZ bm u0 sm) H → va_D (fun q : Nat => s.heap.size ≤ q) (wX6 cI cO a c0 sd ++ wX7 cI cZ bm u0 sm) → va_S (fun q : Nat => s.heap.size ≤ q) s.heap H locs → lv_has ls 4 [(0, .ref b), (1, .ref (a 0 0)), (2, .ref (bm 0)), (3, .int (nI k))] → W p l e room_1 s m #[Value.ref b] below meth c H locs 64 691 (lw_Z below #[Value.ref b] s) (F0 m 393 ls []) := by
  obtain ⟨hx, hb, hr, hml, hown, hts, hX, hbl, hlocks, hgv⟩ := C0
  have hA : ∀ q : Nat, s.heap.size ≤ q → (fun q : Nat => s.heap.size ≤ q) q := fun _ h => h
  have hbA : ¬ (fun q : Nat => s.heap.size ≤ q) b := Nat.not_le.mpr hbl
  intro a c0 sd bm u0 sm H locs ls hR hP hD hS hl
  obtain ⟨z1, ez1⟩ : ∃ z, z = xs (nI k + (1 : Int32)).toNatClampNeg := ⟨_, rfl⟩
  have hin1 : vp_in (nI k + (1 : Int32)) L := by rw [show nI k + (1 : Int32) = nI (k + 1) from nI_add k 1]; exact vp_in_nI (by omega) (by omega)
  obtain ⟨z2, ez2⟩ : ∃ z, z = xs (nI k + (2 : Int32)).toNatClampNeg := ⟨_, rfl⟩
  have hin2 : vp_in (nI k + (2 : Int32)) L := by rw [show nI k + (2 : Int32) = nI (k + 2) from nI_add k 2]; exact vp_in_nI (by omega) (by omega)
  obtain ⟨z3, ez3⟩ : ∃ z, z = xs (nI k + (3 : Int32)).toNatClampNeg := ⟨_, rfl⟩
  have hin3 : vp_in (nI k + (3 : Int32)) L := by rw [show nI k + (3 : Int32) = nI (k + 3) from nI_add k 3]; exact vp_in_nI (by omega) (by omega)
  refine lv_aload_n hx hb dL_law_393 rfl (lv_at hl 1 rfl) ?_
  refine lv_aload_n hx hb dL_law_394 rfl (lv_at hl 0 rfl) ?_
  refine lv_iload_n hx hb dL_law_395 rfl (lv_at hl 3 rfl) ?_
  refine lv_iconst (v := (1 : Int32)) hx hb dL_law_396 (by decide) ?_
  refine lv_iadd hx hb dL_law_397 ?_
  refine va_sld hx hb hX hbl hbA hS hin1 dL_law_398 ?_
  refine mk_topi ez1 ?_
  obtain ⟨r, h6, h7, hR⟩ := st c0 sd u0 sm z1 hR 
  refine pc_v (As := [.int z1]) (rest := []) ⟨hx, hb, hml, hown, hts⟩ (c_X6_holds l D cI cZ cO NN a c0 sd z1 r h6) (cwV 1 hts kL_X6_holds rfl rfl rfl (by decide +kernel) ⟨(Nat.le_of_ble_eq_true rfl), (Nat.le_of_ble_eq_true rfl)⟩) (va_recv hK (mk_Pl hP) (ci := 6) (q0 := 0) rfl rfl) (mk_Pl hP) hK rfl hl.1 rfl (Nat.le_of_ble_eq_true rfl) dL_law_399 ⟨by decide, by decide⟩ ?_
  refine lv_aload_n hx hb dL_law_402 rfl (lv_at hl 2 rfl) ?_
  refine lv_aload_n hx hb dL_law_403 rfl (lv_at hl 0 rfl) ?_
  refine lv_iload_n hx hb dL_law_404 rfl (lv_at hl 3 rfl) ?_
  refine lv_iconst (v := (1 : Int32)) hx hb dL_law_405 (by decide) ?_
  refine lv_iadd hx hb dL_law_406 ?_
  refine va_sld hx hb hX hbl hbA hS hin1 dL_law_407 ?_
  refine mk_topi ez1 ?_
  refine pc_v (As := [.int z1]) (rest := [.int r]) ⟨hx, hb, hml, hown, hts⟩ (c_X7_holds l D cI cZ cO NN bm u0 sm z1 r h7) (cwV 1 hts kL_X7_holds rfl rfl rfl (by decide +kernel) ⟨(Nat.le_of_ble_eq_true rfl), (Nat.le_of_ble_eq_true rfl)⟩) (va_recv hK (mk_Pr hP) (ci := 7) (q0 := 0) rfl rfl) (mk_Pr hP) hK rfl hl.1 rfl (Nat.le_of_ble_eq_true rfl) dL_law_408 ⟨by decide, by decide⟩ ?_
  refine lv_icmp_eq (tgt := 893) hx hb dL_law_411 (by decide) (fun _ => ?_) (fun q => absurd rfl q)
  exact kk a c0 sd bm u0 sm H locs ls hR hP hD hS hl
set_option maxHeartbeats 4000000 in
set_option maxRecDepth 100000 in
theorem law_c12 {Rel : CU → Int64 → TU → Int64 → Prop} (st : ∀ (c0 : CU) (sd : Int64) (u0 : TU) (sm : Int64) (p0 : Int32) (p1 : Int32) (p2 : Int32), Rel c0 sd u0 sm → (p2 = 0 ∨ p2 = 1) → ∃ (r : Int32), f_X6_likely NN c0 sd p0 p1 p2 = some r ∧ f_X7_likely NN u0 sm p0 p1 p2 = some r ∧ Rel c0 sd u0 sm) {p : Program} {l : Launch} {e : Env} {s : State} {m : MethodId} {below : List Frame} {meth : Method} {c : Code} {D : va_G} {cI cZ cO : ClassId} {t b L : Nat} {xs : Nat → Int32} (hL : L ≤ 2048) (C0 : lw_At p s m meth c b L xs) (hK : va_K D vwCl (tyA cI cZ cO) s) (hZ : mk_Z cI t (fun q : Nat => s.heap.size ≤ q) s s.heap) (k : Nat) (hk : k + 4 ≤ L) (kk : ∀ (a : Nat → Nat → Nat) (c0 : CU) (sd : Int64) (bm : Nat → Nat) (u0 : TU) (sm : Int64) (H : Heap) (locs : List Loc) (ls : Array Slot), Rel c0 sd u0 sm → va_P D vwCl (wX6 cI cO a c0 sd ++ wX7 cI cZ bm u0 sm) H → va_D (fun q : Nat => s.heap.size ≤ q) (wX6 cI cO a c0 sd ++ wX7 cI cZ bm u0 sm) → va_S (fun q : Nat => s.heap.size ≤ q) s.heap H locs → lv_has ls 4 [(0, .ref b), (1, .ref (a 0 0)), (2, .ref (bm 0)), (3, .int (nI k))] → W p l e room_1 s m #[Value.ref b] below meth c H locs 64 691 (lw_Z below #[Value.ref b] s) (F0 m 893 ls [])) : ∀ (a : Nat → Nat → Nat) (c0 : CU) (sd : Int64) (bm : Nat → Nat) (u0 : TU) (sm : Int64) (H : Heap) (locs : List Loc) (ls : Array Slot), Rel c0 sd u0 sm → va_P D vwCl (wX6 cI cO a c0 sd ++ wX7 cI cZ bm u0 sm) H → va_D (fun q : Nat => s.heap.size ≤ q) (wX6 cI cO a c0 sd ++ wX7 cI cZ bm u0 sm) → va_S (fun q : Nat => s.heap.size ≤ q) s.heap H locs → lv_has ls 4 [(0, .ref b), (1, .ref (a 0 0)), (2, .ref (bm 0)), (3, .int (nI k))] → W p l e room_1 s m #[Value.ref b] below meth c H locs 64 691 (lw_Z below #[Value.ref b] s) (F0 m 416 ls []) := by
  obtain ⟨hx, hb, hr, hml, hown, hts, hX, hbl, hlocks, hgv⟩ := C0
  have hA : ∀ q : Nat, s.heap.size ≤ q → (fun q : Nat => s.heap.size ≤ q) q := fun _ h => h
  have hbA : ¬ (fun q : Nat => s.heap.size ≤ q) b := Nat.not_le.mpr hbl
  intro a c0 sd bm u0 sm H locs ls hR hP hD hS hl
  obtain ⟨z1, ez1⟩ : ∃ z, z = xs (nI k + (1 : Int32)).toNatClampNeg := ⟨_, rfl⟩
  have hin1 : vp_in (nI k + (1 : Int32)) L := by rw [show nI k + (1 : Int32) = nI (k + 1) from nI_add k 1]; exact vp_in_nI (by omega) (by omega)
  obtain ⟨z2, ez2⟩ : ∃ z, z = xs (nI k + (2 : Int32)).toNatClampNeg := ⟨_, rfl⟩
  have hin2 : vp_in (nI k + (2 : Int32)) L := by rw [show nI k + (2 : Int32) = nI (k + 2) from nI_add k 2]; exact vp_in_nI (by omega) (by omega)
  obtain ⟨z3, ez3⟩ : ∃ z, z = xs (nI k + (3 : Int32)).toNatClampNeg := ⟨_, rfl⟩
  have hin3 : vp_in (nI k + (3 : Int32)) L := by rw [show nI k + (3 : Int32) = nI (k + 3) from nI_add k 3]; exact vp_in_nI (by omega) (by omega)
  refine lv_aload_n hx hb dL_law_416 rfl (lv_at hl 1 rfl) ?_
  refine lv_aload_n hx hb dL_law_417 rfl (lv_at hl 0 rfl) ?_
  refine lv_iload_n hx hb dL_law_418 rfl (lv_at hl 3 rfl) ?_
  refine lv_iconst (v := (1 : Int32)) hx hb dL_law_419 (by decide) ?_
  refine lv_iadd hx hb dL_law_420 ?_
  refine va_sld hx hb hX hbl hbA hS hin1 dL_law_421 ?_
  refine mk_topi ez1 ?_
  refine lv_aload_n hx hb dL_law_422 rfl (lv_at hl 0 rfl) ?_
  refine lv_iload_n hx hb dL_law_423 rfl (lv_at hl 3 rfl) ?_
  refine lv_iconst (v := (2 : Int32)) hx hb dL_law_424 (by decide) ?_
  refine lv_iadd hx hb dL_law_425 ?_
  refine va_sld hx hb hX hbl hbA hS hin2 dL_law_426 ?_
  refine mk_topi ez2 ?_
  refine lv_aload_n hx hb dL_law_427 rfl (lv_at hl 0 rfl) ?_
  refine lv_iload_n hx hb dL_law_428 rfl (lv_at hl 3 rfl) ?_
  refine lv_iconst (v := (3 : Int32)) hx hb dL_law_429 (by decide) ?_
  refine lv_iadd hx hb dL_law_430 ?_
  refine va_sld hx hb hX hbl hbA hS hin3 dL_law_431 ?_
  refine mk_topi ez3 ?_
  refine lv_if_eq (tgt := 439) hx hb dL_law_432 (by decide) (fun hqz3 => ?_) (fun hqz3 => ?_)
  ·
    refine lv_iconst (v := (0 : Int32)) hx hb dL_law_439 (by decide) ?_
    obtain ⟨r, h6, h7, hR⟩ := st c0 sd u0 sm z1 z2 (0 : Int32) hR (Or.inl rfl)
    refine pc_v (As := [.int z1, .int z2, .int (0 : Int32)]) (rest := []) ⟨hx, hb, hml, hown, hts⟩ (c_X6_likely l D cI cZ cO NN a c0 sd z1 z2 (0 : Int32) r h6) (cwV 3 hts kL_X6_likely rfl rfl rfl (by decide +kernel) ⟨(Nat.le_of_ble_eq_true rfl), (Nat.le_of_ble_eq_true rfl)⟩) (va_recv hK (mk_Pl hP) (ci := 6) (q0 := 0) rfl rfl) (mk_Pl hP) hK rfl hl.1 rfl (Nat.le_of_ble_eq_true rfl) dL_law_440 ⟨by decide, by decide⟩ ?_
    refine lv_aload_n hx hb dL_law_443 rfl (lv_at hl 2 rfl) ?_
    refine lv_aload_n hx hb dL_law_444 rfl (lv_at hl 0 rfl) ?_
    refine lv_iload_n hx hb dL_law_445 rfl (lv_at hl 3 rfl) ?_
    refine lv_iconst (v := (1 : Int32)) hx hb dL_law_446 (by decide) ?_
    refine lv_iadd hx hb dL_law_447 ?_
    refine va_sld hx hb hX hbl hbA hS hin1 dL_law_448 ?_
    refine mk_topi ez1 ?_
    refine lv_aload_n hx hb dL_law_449 rfl (lv_at hl 0 rfl) ?_
    refine lv_iload_n hx hb dL_law_450 rfl (lv_at hl 3 rfl) ?_
    refine lv_iconst (v := (2 : Int32)) hx hb dL_law_451 (by decide) ?_
    refine lv_iadd hx hb dL_law_452 ?_
    refine va_sld hx hb hX hbl hbA hS hin2 dL_law_453 ?_
    refine mk_topi ez2 ?_
    refine lv_aload_n hx hb dL_law_454 rfl (lv_at hl 0 rfl) ?_
    refine lv_iload_n hx hb dL_law_455 rfl (lv_at hl 3 rfl) ?_
    refine lv_iconst (v := (3 : Int32)) hx hb dL_law_456 (by decide) ?_
    refine lv_iadd hx hb dL_law_457 ?_
    refine va_sld hx hb hX hbl hbA hS hin3 dL_law_458 ?_
    refine mk_topi ez3 ?_
    refine lv_if_eq (tgt := 466) hx hb dL_law_459 (by decide) (fun _ => ?_) (fun q => absurd hqz3 q)
    refine lv_iconst (v := (0 : Int32)) hx hb dL_law_466 (by decide) ?_
    refine pc_v (As := [.int z1, .int z2, .int (0 : Int32)]) (rest := [.int r]) ⟨hx, hb, hml, hown, hts⟩ (c_X7_likely l D cI cZ cO NN bm u0 sm z1 z2 (0 : Int32) r h7) (cwV 3 hts kL_X7_likely rfl rfl rfl (by decide +kernel) ⟨(Nat.le_of_ble_eq_true rfl), (Nat.le_of_ble_eq_true rfl)⟩) (va_recv hK (mk_Pr hP) (ci := 7) (q0 := 0) rfl rfl) (mk_Pr hP) hK rfl hl.1 rfl (Nat.le_of_ble_eq_true rfl) dL_law_467 ⟨by decide, by decide⟩ ?_
    refine lv_icmp_eq (tgt := 893) hx hb dL_law_470 (by decide) (fun _ => ?_) (fun q => absurd rfl q)
    exact kk a c0 sd bm u0 sm H locs ls hR hP hD hS hl
  ·
    refine lv_iconst (v := (1 : Int32)) hx hb dL_law_435 (by decide) ?_
    refine lv_goto (tgt := 440) hx hb dL_law_436 (by decide) ?_
    obtain ⟨r, h6, h7, hR⟩ := st c0 sd u0 sm z1 z2 (1 : Int32) hR (Or.inr rfl)
    refine pc_v (As := [.int z1, .int z2, .int (1 : Int32)]) (rest := []) ⟨hx, hb, hml, hown, hts⟩ (c_X6_likely l D cI cZ cO NN a c0 sd z1 z2 (1 : Int32) r h6) (cwV 3 hts kL_X6_likely rfl rfl rfl (by decide +kernel) ⟨(Nat.le_of_ble_eq_true rfl), (Nat.le_of_ble_eq_true rfl)⟩) (va_recv hK (mk_Pl hP) (ci := 6) (q0 := 0) rfl rfl) (mk_Pl hP) hK rfl hl.1 rfl (Nat.le_of_ble_eq_true rfl) dL_law_440 ⟨by decide, by decide⟩ ?_
    refine lv_aload_n hx hb dL_law_443 rfl (lv_at hl 2 rfl) ?_
    refine lv_aload_n hx hb dL_law_444 rfl (lv_at hl 0 rfl) ?_
    refine lv_iload_n hx hb dL_law_445 rfl (lv_at hl 3 rfl) ?_
    refine lv_iconst (v := (1 : Int32)) hx hb dL_law_446 (by decide) ?_
    refine lv_iadd hx hb dL_law_447 ?_
    refine va_sld hx hb hX hbl hbA hS hin1 dL_law_448 ?_
    refine mk_topi ez1 ?_
    refine lv_aload_n hx hb dL_law_449 rfl (lv_at hl 0 rfl) ?_
    refine lv_iload_n hx hb dL_law_450 rfl (lv_at hl 3 rfl) ?_
    refine lv_iconst (v := (2 : Int32)) hx hb dL_law_451 (by decide) ?_
    refine lv_iadd hx hb dL_law_452 ?_
    refine va_sld hx hb hX hbl hbA hS hin2 dL_law_453 ?_
    refine mk_topi ez2 ?_
    refine lv_aload_n hx hb dL_law_454 rfl (lv_at hl 0 rfl) ?_
    refine lv_iload_n hx hb dL_law_455 rfl (lv_at hl 3 rfl) ?_
    refine lv_iconst (v := (3 : Int32)) hx hb dL_law_456 (by decide) ?_
    refine lv_iadd hx hb dL_law_457 ?_
    refine va_sld hx hb hX hbl hbA hS hin3 dL_law_458 ?_
    refine mk_topi ez3 ?_
    refine lv_if_eq (tgt := 466) hx hb dL_law_459 (by decide) (fun q => absurd q hqz3) (fun _ => ?_)
    refine lv_iconst (v := (1 : Int32)) hx hb dL_law_462 (by decide) ?_
    refine lv_goto (tgt := 467) hx hb dL_law_463 (by decide) ?_
    refine pc_v (As := [.int z1, .int z2, .int (1 : Int32)]) (rest := [.int r]) ⟨hx, hb, hml, hown, hts⟩ (c_X7_likely l D cI cZ cO NN bm u0 sm z1 z2 (1 : Int32) r h7) (cwV 3 hts kL_X7_likely rfl rfl rfl (by decide +kernel) ⟨(Nat.le_of_ble_eq_true rfl), (Nat.le_of_ble_eq_true rfl)⟩) (va_recv hK (mk_Pr hP) (ci := 7) (q0 := 0) rfl rfl) (mk_Pr hP) hK rfl hl.1 rfl (Nat.le_of_ble_eq_true rfl) dL_law_467 ⟨by decide, by decide⟩ ?_
    refine lv_icmp_eq (tgt := 893) hx hb dL_law_470 (by decide) (fun _ => ?_) (fun q => absurd rfl q)
    exact kk a c0 sd bm u0 sm H locs ls hR hP hD hS hl
set_option maxHeartbeats 4000000 in
set_option maxRecDepth 100000 in
theorem law_c13 {Rel : CU → Int64 → TU → Int64 → Prop} (st : ∀ (c0 : CU) (sd : Int64) (u0 : TU) (sm : Int64) (p0 : Int32) (p1 : Int32), Rel c0 sd u0 sm → ∃ (r : Int32) (mu1 : TU), f_X6_wise NN c0 sd p0 p1 = some r ∧ f_X7_wise NN u0 sm p0 p1 = some (r, mu1) ∧ Rel c0 sd mu1 sm) {p : Program} {l : Launch} {e : Env} {s : State} {m : MethodId} {below : List Frame} {meth : Method} {c : Code} {D : va_G} {cI cZ cO : ClassId} {t b L : Nat} {xs : Nat → Int32} (hL : L ≤ 2048) (C0 : lw_At p s m meth c b L xs) (hK : va_K D vwCl (tyA cI cZ cO) s) (hZ : mk_Z cI t (fun q : Nat => s.heap.size ≤ q) s s.heap) (k : Nat) (hk : k + 4 ≤ L) (kk : ∀ (a : Nat → Nat → Nat) (c0 : CU) (sd : Int64) (bm : Nat → Nat) (u0 : TU) (sm : Int64) (H : Heap) (locs : List Loc) (ls : Array Slot), Rel c0 sd u0 sm → va_P D vwCl (wX6 cI cO a c0 sd ++ wX7 cI cZ bm u0 sm) H → va_D (fun q : Nat => s.heap.size ≤ q) (wX6 cI cO a c0 sd ++ wX7 cI cZ bm u0 sm) → va_S (fun q : Nat => s.heap.size ≤ q) s.heap H locs → lv_has ls 4 [(0, .ref b), (1, .ref (a 0 0)), (2, .ref (bm 0)), (3, .int (nI k))] → W p l e room_1 s m #[Value.ref b] below meth c H locs 64 691 (lw_Z below #[Value.ref b] s) (F0 m 893 ls [])) : ∀ (a : Nat → Nat → Nat) (c0 : CU) (sd : Int64) (bm : Nat → Nat) (u0 : TU) (sm : Int64) (H : Heap) (locs : List Loc) (ls : Array Slot), Rel c0 sd u0 sm → va_P D vwCl (wX6 cI cO a c0 sd ++ wX7 cI cZ bm u0 sm) H → va_D (fun q : Nat => s.heap.size ≤ q) (wX6 cI cO a c0 sd ++ wX7 cI cZ bm u0 sm) → va_S (fun q : Nat => s.heap.size ≤ q) s.heap H locs → lv_has ls 4 [(0, .ref b), (1, .ref (a 0 0)), (2, .ref (bm 0)), (3, .int (nI k))] → W p l e room_1 s m #[Value.ref b] below meth c H locs 64 691 (lw_Z below #[Value.ref b] s) (F0 m 475 ls []) := by
  obtain ⟨hx, hb, hr, hml, hown, hts, hX, hbl, hlocks, hgv⟩ := C0
  have hA : ∀ q : Nat, s.heap.size ≤ q → (fun q : Nat => s.heap.size ≤ q) q := fun _ h => h
  have hbA : ¬ (fun q : Nat => s.heap.size ≤ q) b := Nat.not_le.mpr hbl
  intro a c0 sd bm u0 sm H locs ls hR hP hD hS hl
  obtain ⟨z1, ez1⟩ : ∃ z, z = xs (nI k + (1 : Int32)).toNatClampNeg := ⟨_, rfl⟩
  have hin1 : vp_in (nI k + (1 : Int32)) L := by rw [show nI k + (1 : Int32) = nI (k + 1) from nI_add k 1]; exact vp_in_nI (by omega) (by omega)
  obtain ⟨z2, ez2⟩ : ∃ z, z = xs (nI k + (2 : Int32)).toNatClampNeg := ⟨_, rfl⟩
  have hin2 : vp_in (nI k + (2 : Int32)) L := by rw [show nI k + (2 : Int32) = nI (k + 2) from nI_add k 2]; exact vp_in_nI (by omega) (by omega)
  obtain ⟨z3, ez3⟩ : ∃ z, z = xs (nI k + (3 : Int32)).toNatClampNeg := ⟨_, rfl⟩
  have hin3 : vp_in (nI k + (3 : Int32)) L := by rw [show nI k + (3 : Int32) = nI (k + 3) from nI_add k 3]; exact vp_in_nI (by omega) (by omega)
  refine lv_aload_n hx hb dL_law_475 rfl (lv_at hl 1 rfl) ?_
  refine lv_aload_n hx hb dL_law_476 rfl (lv_at hl 0 rfl) ?_
  refine lv_iload_n hx hb dL_law_477 rfl (lv_at hl 3 rfl) ?_
  refine lv_iconst (v := (1 : Int32)) hx hb dL_law_478 (by decide) ?_
  refine lv_iadd hx hb dL_law_479 ?_
  refine va_sld hx hb hX hbl hbA hS hin1 dL_law_480 ?_
  refine mk_topi ez1 ?_
  refine lv_aload_n hx hb dL_law_481 rfl (lv_at hl 0 rfl) ?_
  refine lv_iload_n hx hb dL_law_482 rfl (lv_at hl 3 rfl) ?_
  refine lv_iconst (v := (2 : Int32)) hx hb dL_law_483 (by decide) ?_
  refine lv_iadd hx hb dL_law_484 ?_
  refine va_sld hx hb hX hbl hbA hS hin2 dL_law_485 ?_
  refine mk_topi ez2 ?_
  obtain ⟨r, mu1, h6, h7, hR⟩ := st c0 sd u0 sm z1 z2 hR 
  refine pc_v (As := [.int z1, .int z2]) (rest := []) ⟨hx, hb, hml, hown, hts⟩ (c_X6_wise l D cI cZ cO NN a c0 sd z1 z2 r h6) (cwV 2 hts kL_X6_wise rfl rfl rfl (by decide +kernel) ⟨(Nat.le_of_ble_eq_true rfl), (Nat.le_of_ble_eq_true rfl)⟩) (va_recv hK (mk_Pl hP) (ci := 6) (q0 := 0) rfl rfl) (mk_Pl hP) hK rfl hl.1 rfl (Nat.le_of_ble_eq_true rfl) dL_law_486 ⟨by decide, by decide⟩ ?_
  refine lv_aload_n hx hb dL_law_489 rfl (lv_at hl 2 rfl) ?_
  refine lv_aload_n hx hb dL_law_490 rfl (lv_at hl 0 rfl) ?_
  refine lv_iload_n hx hb dL_law_491 rfl (lv_at hl 3 rfl) ?_
  refine lv_iconst (v := (1 : Int32)) hx hb dL_law_492 (by decide) ?_
  refine lv_iadd hx hb dL_law_493 ?_
  refine va_sld hx hb hX hbl hbA hS hin1 dL_law_494 ?_
  refine mk_topi ez1 ?_
  refine lv_aload_n hx hb dL_law_495 rfl (lv_at hl 0 rfl) ?_
  refine lv_iload_n hx hb dL_law_496 rfl (lv_at hl 3 rfl) ?_
  refine lv_iconst (v := (2 : Int32)) hx hb dL_law_497 (by decide) ?_
  refine lv_iadd hx hb dL_law_498 ?_
  refine va_sld hx hb hX hbl hbA hS hin2 dL_law_499 ?_
  refine mk_topi ez2 ?_
  refine er_vi (As := [.int z1, .int z2]) (rest := [.int r]) ⟨hx, hb, hml, hown, hts⟩ (c_X7_wise l D cI cZ cO NN bm u0 sm z1 z2 H.size (r, mu1) h7) (cwV 2 hts kL_X7_wise rfl rfl rfl (by decide +kernel) ⟨(Nat.le_of_ble_eq_true rfl), (Nat.le_of_ble_eq_true rfl)⟩) (va_recv hK (mk_Pr hP) (ci := 7) (q0 := 0) rfl rfl) hK hP hD hS hA rfl hl.1 rfl (Nat.le_of_ble_eq_true rfl) dL_law_500 ⟨by decide, by decide⟩ (fun H locs hP hD hS => ?_)
  refine lv_icmp_eq (tgt := 893) hx hb dL_law_503 (by decide) (fun _ => ?_) (fun q => absurd rfl q)
  exact kk a c0 sd bm mu1 sm H locs ls hR hP hD hS hl
set_option maxHeartbeats 4000000 in
set_option maxRecDepth 100000 in
theorem law_c14 {Rel : CU → Int64 → TU → Int64 → Prop} (st : ∀ (c0 : CU) (sd : Int64) (u0 : TU) (sm : Int64) (p0 : Int32) (p1 : Int32), Rel c0 sd u0 sm → (p1 = 0 ∨ p1 = 1) → ∃ (r : Int32) (mu1 : TU), f_X6_worth NN c0 sd p0 p1 = some r ∧ f_X7_worth NN u0 sm p0 p1 = some (r, mu1) ∧ Rel c0 sd mu1 sm) {p : Program} {l : Launch} {e : Env} {s : State} {m : MethodId} {below : List Frame} {meth : Method} {c : Code} {D : va_G} {cI cZ cO : ClassId} {t b L : Nat} {xs : Nat → Int32} (hL : L ≤ 2048) (C0 : lw_At p s m meth c b L xs) (hK : va_K D vwCl (tyA cI cZ cO) s) (hZ : mk_Z cI t (fun q : Nat => s.heap.size ≤ q) s s.heap) (k : Nat) (hk : k + 4 ≤ L) (kk : ∀ (a : Nat → Nat → Nat) (c0 : CU) (sd : Int64) (bm : Nat → Nat) (u0 : TU) (sm : Int64) (H : Heap) (locs : List Loc) (ls : Array Slot), Rel c0 sd u0 sm → va_P D vwCl (wX6 cI cO a c0 sd ++ wX7 cI cZ bm u0 sm) H → va_D (fun q : Nat => s.heap.size ≤ q) (wX6 cI cO a c0 sd ++ wX7 cI cZ bm u0 sm) → va_S (fun q : Nat => s.heap.size ≤ q) s.heap H locs → lv_has ls 4 [(0, .ref b), (1, .ref (a 0 0)), (2, .ref (bm 0)), (3, .int (nI k))] → W p l e room_1 s m #[Value.ref b] below meth c H locs 64 691 (lw_Z below #[Value.ref b] s) (F0 m 893 ls [])) : ∀ (a : Nat → Nat → Nat) (c0 : CU) (sd : Int64) (bm : Nat → Nat) (u0 : TU) (sm : Int64) (H : Heap) (locs : List Loc) (ls : Array Slot), Rel c0 sd u0 sm → va_P D vwCl (wX6 cI cO a c0 sd ++ wX7 cI cZ bm u0 sm) H → va_D (fun q : Nat => s.heap.size ≤ q) (wX6 cI cO a c0 sd ++ wX7 cI cZ bm u0 sm) → va_S (fun q : Nat => s.heap.size ≤ q) s.heap H locs → lv_has ls 4 [(0, .ref b), (1, .ref (a 0 0)), (2, .ref (bm 0)), (3, .int (nI k))] → W p l e room_1 s m #[Value.ref b] below meth c H locs 64 691 (lw_Z below #[Value.ref b] s) (F0 m 508 ls []) := by
  obtain ⟨hx, hb, hr, hml, hown, hts, hX, hbl, hlocks, hgv⟩ := C0
  have hA : ∀ q : Nat, s.heap.size ≤ q → (fun q : Nat => s.heap.size ≤ q) q := fun _ h => h
  have hbA : ¬ (fun q : Nat => s.heap.size ≤ q) b := Nat.not_le.mpr hbl
  intro a c0 sd bm u0 sm H locs ls hR hP hD hS hl
  obtain ⟨z1, ez1⟩ : ∃ z, z = xs (nI k + (1 : Int32)).toNatClampNeg := ⟨_, rfl⟩
  have hin1 : vp_in (nI k + (1 : Int32)) L := by rw [show nI k + (1 : Int32) = nI (k + 1) from nI_add k 1]; exact vp_in_nI (by omega) (by omega)
  obtain ⟨z2, ez2⟩ : ∃ z, z = xs (nI k + (2 : Int32)).toNatClampNeg := ⟨_, rfl⟩
  have hin2 : vp_in (nI k + (2 : Int32)) L := by rw [show nI k + (2 : Int32) = nI (k + 2) from nI_add k 2]; exact vp_in_nI (by omega) (by omega)
  obtain ⟨z3, ez3⟩ : ∃ z, z = xs (nI k + (3 : Int32)).toNatClampNeg := ⟨_, rfl⟩
  have hin3 : vp_in (nI k + (3 : Int32)) L := by rw [show nI k + (3 : Int32) = nI (k + 3) from nI_add k 3]; exact vp_in_nI (by omega) (by omega)
  refine lv_aload_n hx hb dL_law_508 rfl (lv_at hl 1 rfl) ?_
  refine lv_aload_n hx hb dL_law_509 rfl (lv_at hl 0 rfl) ?_
  refine lv_iload_n hx hb dL_law_510 rfl (lv_at hl 3 rfl) ?_
  refine lv_iconst (v := (1 : Int32)) hx hb dL_law_511 (by decide) ?_
  refine lv_iadd hx hb dL_law_512 ?_
  refine va_sld hx hb hX hbl hbA hS hin1 dL_law_513 ?_
  refine mk_topi ez1 ?_
  refine lv_aload_n hx hb dL_law_514 rfl (lv_at hl 0 rfl) ?_
  refine lv_iload_n hx hb dL_law_515 rfl (lv_at hl 3 rfl) ?_
  refine lv_iconst (v := (2 : Int32)) hx hb dL_law_516 (by decide) ?_
  refine lv_iadd hx hb dL_law_517 ?_
  refine va_sld hx hb hX hbl hbA hS hin2 dL_law_518 ?_
  refine mk_topi ez2 ?_
  refine lv_if_eq (tgt := 526) hx hb dL_law_519 (by decide) (fun hqz2 => ?_) (fun hqz2 => ?_)
  ·
    refine lv_iconst (v := (0 : Int32)) hx hb dL_law_526 (by decide) ?_
    obtain ⟨r, mu1, h6, h7, hR⟩ := st c0 sd u0 sm z1 (0 : Int32) hR (Or.inl rfl)
    refine pc_v (As := [.int z1, .int (0 : Int32)]) (rest := []) ⟨hx, hb, hml, hown, hts⟩ (c_X6_worth l D cI cZ cO NN a c0 sd z1 (0 : Int32) r h6) (cwV 2 hts kL_X6_worth rfl rfl rfl (by decide +kernel) ⟨(Nat.le_of_ble_eq_true rfl), (Nat.le_of_ble_eq_true rfl)⟩) (va_recv hK (mk_Pl hP) (ci := 6) (q0 := 0) rfl rfl) (mk_Pl hP) hK rfl hl.1 rfl (Nat.le_of_ble_eq_true rfl) dL_law_527 ⟨by decide, by decide⟩ ?_
    refine lv_aload_n hx hb dL_law_530 rfl (lv_at hl 2 rfl) ?_
    refine lv_aload_n hx hb dL_law_531 rfl (lv_at hl 0 rfl) ?_
    refine lv_iload_n hx hb dL_law_532 rfl (lv_at hl 3 rfl) ?_
    refine lv_iconst (v := (1 : Int32)) hx hb dL_law_533 (by decide) ?_
    refine lv_iadd hx hb dL_law_534 ?_
    refine va_sld hx hb hX hbl hbA hS hin1 dL_law_535 ?_
    refine mk_topi ez1 ?_
    refine lv_aload_n hx hb dL_law_536 rfl (lv_at hl 0 rfl) ?_
    refine lv_iload_n hx hb dL_law_537 rfl (lv_at hl 3 rfl) ?_
    refine lv_iconst (v := (2 : Int32)) hx hb dL_law_538 (by decide) ?_
    refine lv_iadd hx hb dL_law_539 ?_
    refine va_sld hx hb hX hbl hbA hS hin2 dL_law_540 ?_
    refine mk_topi ez2 ?_
    refine lv_if_eq (tgt := 548) hx hb dL_law_541 (by decide) (fun _ => ?_) (fun q => absurd hqz2 q)
    refine lv_iconst (v := (0 : Int32)) hx hb dL_law_548 (by decide) ?_
    refine er_vi (As := [.int z1, .int (0 : Int32)]) (rest := [.int r]) ⟨hx, hb, hml, hown, hts⟩ (c_X7_worth l D cI cZ cO NN bm u0 sm z1 (0 : Int32) H.size (r, mu1) h7) (cwV 2 hts kL_X7_worth rfl rfl rfl (by decide +kernel) ⟨(Nat.le_of_ble_eq_true rfl), (Nat.le_of_ble_eq_true rfl)⟩) (va_recv hK (mk_Pr hP) (ci := 7) (q0 := 0) rfl rfl) hK hP hD hS hA rfl hl.1 rfl (Nat.le_of_ble_eq_true rfl) dL_law_549 ⟨by decide, by decide⟩ (fun H locs hP hD hS => ?_)
    refine lv_icmp_eq (tgt := 893) hx hb dL_law_552 (by decide) (fun _ => ?_) (fun q => absurd rfl q)
    exact kk a c0 sd bm mu1 sm H locs ls hR hP hD hS hl
  ·
    refine lv_iconst (v := (1 : Int32)) hx hb dL_law_522 (by decide) ?_
    refine lv_goto (tgt := 527) hx hb dL_law_523 (by decide) ?_
    obtain ⟨r, mu1, h6, h7, hR⟩ := st c0 sd u0 sm z1 (1 : Int32) hR (Or.inr rfl)
    refine pc_v (As := [.int z1, .int (1 : Int32)]) (rest := []) ⟨hx, hb, hml, hown, hts⟩ (c_X6_worth l D cI cZ cO NN a c0 sd z1 (1 : Int32) r h6) (cwV 2 hts kL_X6_worth rfl rfl rfl (by decide +kernel) ⟨(Nat.le_of_ble_eq_true rfl), (Nat.le_of_ble_eq_true rfl)⟩) (va_recv hK (mk_Pl hP) (ci := 6) (q0 := 0) rfl rfl) (mk_Pl hP) hK rfl hl.1 rfl (Nat.le_of_ble_eq_true rfl) dL_law_527 ⟨by decide, by decide⟩ ?_
    refine lv_aload_n hx hb dL_law_530 rfl (lv_at hl 2 rfl) ?_
    refine lv_aload_n hx hb dL_law_531 rfl (lv_at hl 0 rfl) ?_
    refine lv_iload_n hx hb dL_law_532 rfl (lv_at hl 3 rfl) ?_
    refine lv_iconst (v := (1 : Int32)) hx hb dL_law_533 (by decide) ?_
    refine lv_iadd hx hb dL_law_534 ?_
    refine va_sld hx hb hX hbl hbA hS hin1 dL_law_535 ?_
    refine mk_topi ez1 ?_
    refine lv_aload_n hx hb dL_law_536 rfl (lv_at hl 0 rfl) ?_
    refine lv_iload_n hx hb dL_law_537 rfl (lv_at hl 3 rfl) ?_
    refine lv_iconst (v := (2 : Int32)) hx hb dL_law_538 (by decide) ?_
    refine lv_iadd hx hb dL_law_539 ?_
    refine va_sld hx hb hX hbl hbA hS hin2 dL_law_540 ?_
    refine mk_topi ez2 ?_
    refine lv_if_eq (tgt := 548) hx hb dL_law_541 (by decide) (fun q => absurd q hqz2) (fun _ => ?_)
    refine lv_iconst (v := (1 : Int32)) hx hb dL_law_544 (by decide) ?_
    refine lv_goto (tgt := 549) hx hb dL_law_545 (by decide) ?_
    refine er_vi (As := [.int z1, .int (1 : Int32)]) (rest := [.int r]) ⟨hx, hb, hml, hown, hts⟩ (c_X7_worth l D cI cZ cO NN bm u0 sm z1 (1 : Int32) H.size (r, mu1) h7) (cwV 2 hts kL_X7_worth rfl rfl rfl (by decide +kernel) ⟨(Nat.le_of_ble_eq_true rfl), (Nat.le_of_ble_eq_true rfl)⟩) (va_recv hK (mk_Pr hP) (ci := 7) (q0 := 0) rfl rfl) hK hP hD hS hA rfl hl.1 rfl (Nat.le_of_ble_eq_true rfl) dL_law_549 ⟨by decide, by decide⟩ (fun H locs hP hD hS => ?_)
    refine lv_icmp_eq (tgt := 893) hx hb dL_law_552 (by decide) (fun _ => ?_) (fun q => absurd rfl q)
    exact kk a c0 sd bm mu1 sm H locs ls hR hP hD hS hl
set_option maxHeartbeats 4000000 in
set_option maxRecDepth 100000 in
theorem law_c15 {Rel : CU → Int64 → TU → Int64 → Prop} (st : ∀ (c0 : CU) (sd : Int64) (u0 : TU) (sm : Int64), Rel c0 sd u0 sm → ∃ (r : Int32) (c1 : CU) (mu1 : TU), f_X6_toAsk NN c0 sd  = some (r, c1) ∧ f_X7_toAsk NN u0 sm  = some (r, mu1) ∧ Rel c1 sd mu1 sm) {p : Program} {l : Launch} {e : Env} {s : State} {m : MethodId} {below : List Frame} {meth : Method} {c : Code} {D : va_G} {cI cZ cO : ClassId} {t b L : Nat} {xs : Nat → Int32} (hL : L ≤ 2048) (C0 : lw_At p s m meth c b L xs) (hK : va_K D vwCl (tyA cI cZ cO) s) (hZ : mk_Z cI t (fun q : Nat => s.heap.size ≤ q) s s.heap) (k : Nat) (hk : k + 4 ≤ L) (kk : ∀ (a : Nat → Nat → Nat) (c0 : CU) (sd : Int64) (bm : Nat → Nat) (u0 : TU) (sm : Int64) (H : Heap) (locs : List Loc) (ls : Array Slot), Rel c0 sd u0 sm → va_P D vwCl (wX6 cI cO a c0 sd ++ wX7 cI cZ bm u0 sm) H → va_D (fun q : Nat => s.heap.size ≤ q) (wX6 cI cO a c0 sd ++ wX7 cI cZ bm u0 sm) → va_S (fun q : Nat => s.heap.size ≤ q) s.heap H locs → lv_has ls 4 [(0, .ref b), (1, .ref (a 0 0)), (2, .ref (bm 0)), (3, .int (nI k))] → W p l e room_1 s m #[Value.ref b] below meth c H locs 64 691 (lw_Z below #[Value.ref b] s) (F0 m 893 ls [])) : ∀ (a : Nat → Nat → Nat) (c0 : CU) (sd : Int64) (bm : Nat → Nat) (u0 : TU) (sm : Int64) (H : Heap) (locs : List Loc) (ls : Array Slot), Rel c0 sd u0 sm → va_P D vwCl (wX6 cI cO a c0 sd ++ wX7 cI cZ bm u0 sm) H → va_D (fun q : Nat => s.heap.size ≤ q) (wX6 cI cO a c0 sd ++ wX7 cI cZ bm u0 sm) → va_S (fun q : Nat => s.heap.size ≤ q) s.heap H locs → lv_has ls 4 [(0, .ref b), (1, .ref (a 0 0)), (2, .ref (bm 0)), (3, .int (nI k))] → W p l e room_1 s m #[Value.ref b] below meth c H locs 64 691 (lw_Z below #[Value.ref b] s) (F0 m 557 ls []) := by
  obtain ⟨hx, hb, hr, hml, hown, hts, hX, hbl, hlocks, hgv⟩ := C0
  have hA : ∀ q : Nat, s.heap.size ≤ q → (fun q : Nat => s.heap.size ≤ q) q := fun _ h => h
  have hbA : ¬ (fun q : Nat => s.heap.size ≤ q) b := Nat.not_le.mpr hbl
  intro a c0 sd bm u0 sm H locs ls hR hP hD hS hl
  obtain ⟨z1, ez1⟩ : ∃ z, z = xs (nI k + (1 : Int32)).toNatClampNeg := ⟨_, rfl⟩
  have hin1 : vp_in (nI k + (1 : Int32)) L := by rw [show nI k + (1 : Int32) = nI (k + 1) from nI_add k 1]; exact vp_in_nI (by omega) (by omega)
  obtain ⟨z2, ez2⟩ : ∃ z, z = xs (nI k + (2 : Int32)).toNatClampNeg := ⟨_, rfl⟩
  have hin2 : vp_in (nI k + (2 : Int32)) L := by rw [show nI k + (2 : Int32) = nI (k + 2) from nI_add k 2]; exact vp_in_nI (by omega) (by omega)
  obtain ⟨z3, ez3⟩ : ∃ z, z = xs (nI k + (3 : Int32)).toNatClampNeg := ⟨_, rfl⟩
  have hin3 : vp_in (nI k + (3 : Int32)) L := by rw [show nI k + (3 : Int32) = nI (k + 3) from nI_add k 3]; exact vp_in_nI (by omega) (by omega)
  refine lv_aload_n hx hb dL_law_557 rfl (lv_at hl 1 rfl) ?_
  obtain ⟨r, c1, mu1, h6, h7, hR⟩ := st c0 sd u0 sm  hR 
  refine el_vi (As := []) (rest := []) ⟨hx, hb, hml, hown, hts⟩ (c_X6_toAsk l D cI cZ cO NN a c0 sd  H.size (r, c1) h6) (cwV 0 hts kL_X6_toAsk rfl rfl rfl (by decide +kernel) ⟨(Nat.le_of_ble_eq_true rfl), (Nat.le_of_ble_eq_true rfl)⟩) (va_recv hK (mk_Pl hP) (ci := 6) (q0 := 0) rfl rfl) hK hP hD hS hA rfl hl.1 rfl (Nat.le_of_ble_eq_true rfl) dL_law_558 ⟨by decide, by decide⟩ (fun H locs hP hD hS => ?_)
  have hP : va_P D vwCl (wX6 cI cO a c1 sd ++ wX7 cI cZ bm u0 sm) H := hP
  have hD : va_D (fun q : Nat => s.heap.size ≤ q) (wX6 cI cO a c1 sd ++ wX7 cI cZ bm u0 sm) := hD
  refine lv_aload_n hx hb dL_law_561 rfl (lv_at hl 2 rfl) ?_
  refine er_vi (As := []) (rest := [.int r]) ⟨hx, hb, hml, hown, hts⟩ (c_X7_toAsk l D cI cZ cO NN bm u0 sm  H.size (r, mu1) h7) (cwV 0 hts kL_X7_toAsk rfl rfl rfl (by decide +kernel) ⟨(Nat.le_of_ble_eq_true rfl), (Nat.le_of_ble_eq_true rfl)⟩) (va_recv hK (mk_Pr hP) (ci := 7) (q0 := 0) rfl rfl) hK hP hD hS hA rfl hl.1 rfl (Nat.le_of_ble_eq_true rfl) dL_law_562 ⟨by decide, by decide⟩ (fun H locs hP hD hS => ?_)
  refine lv_icmp_eq (tgt := 893) hx hb dL_law_565 (by decide) (fun _ => ?_) (fun q => absurd rfl q)
  exact kk a c1 sd bm mu1 sm H locs ls hR hP hD hS hl
set_option maxHeartbeats 4000000 in
set_option maxRecDepth 100000 in
theorem law_c16 {Rel : CU → Int64 → TU → Int64 → Prop} (st : ∀ (c0 : CU) (sd : Int64) (u0 : TU) (sm : Int64) (p0 : Int32), Rel c0 sd u0 sm → ∃ (r : Int32) (c1 : CU) (mu1 : TU), f_X6_by NN c0 sd p0 = some (r, c1) ∧ f_X7_by NN u0 sm p0 = some (r, mu1) ∧ Rel c1 sd mu1 sm) {p : Program} {l : Launch} {e : Env} {s : State} {m : MethodId} {below : List Frame} {meth : Method} {c : Code} {D : va_G} {cI cZ cO : ClassId} {t b L : Nat} {xs : Nat → Int32} (hL : L ≤ 2048) (C0 : lw_At p s m meth c b L xs) (hK : va_K D vwCl (tyA cI cZ cO) s) (hZ : mk_Z cI t (fun q : Nat => s.heap.size ≤ q) s s.heap) (k : Nat) (hk : k + 4 ≤ L) (kk : ∀ (a : Nat → Nat → Nat) (c0 : CU) (sd : Int64) (bm : Nat → Nat) (u0 : TU) (sm : Int64) (H : Heap) (locs : List Loc) (ls : Array Slot), Rel c0 sd u0 sm → va_P D vwCl (wX6 cI cO a c0 sd ++ wX7 cI cZ bm u0 sm) H → va_D (fun q : Nat => s.heap.size ≤ q) (wX6 cI cO a c0 sd ++ wX7 cI cZ bm u0 sm) → va_S (fun q : Nat => s.heap.size ≤ q) s.heap H locs → lv_has ls 4 [(0, .ref b), (1, .ref (a 0 0)), (2, .ref (bm 0)), (3, .int (nI k))] → W p l e room_1 s m #[Value.ref b] below meth c H locs 64 691 (lw_Z below #[Value.ref b] s) (F0 m 893 ls [])) : ∀ (a : Nat → Nat → Nat) (c0 : CU) (sd : Int64) (bm : Nat → Nat) (u0 : TU) (sm : Int64) (H : Heap) (locs : List Loc) (ls : Array Slot), Rel c0 sd u0 sm → va_P D vwCl (wX6 cI cO a c0 sd ++ wX7 cI cZ bm u0 sm) H → va_D (fun q : Nat => s.heap.size ≤ q) (wX6 cI cO a c0 sd ++ wX7 cI cZ bm u0 sm) → va_S (fun q : Nat => s.heap.size ≤ q) s.heap H locs → lv_has ls 4 [(0, .ref b), (1, .ref (a 0 0)), (2, .ref (bm 0)), (3, .int (nI k))] → W p l e room_1 s m #[Value.ref b] below meth c H locs 64 691 (lw_Z below #[Value.ref b] s) (F0 m 570 ls []) := by
  obtain ⟨hx, hb, hr, hml, hown, hts, hX, hbl, hlocks, hgv⟩ := C0
  have hA : ∀ q : Nat, s.heap.size ≤ q → (fun q : Nat => s.heap.size ≤ q) q := fun _ h => h
  have hbA : ¬ (fun q : Nat => s.heap.size ≤ q) b := Nat.not_le.mpr hbl
  intro a c0 sd bm u0 sm H locs ls hR hP hD hS hl
  obtain ⟨z1, ez1⟩ : ∃ z, z = xs (nI k + (1 : Int32)).toNatClampNeg := ⟨_, rfl⟩
  have hin1 : vp_in (nI k + (1 : Int32)) L := by rw [show nI k + (1 : Int32) = nI (k + 1) from nI_add k 1]; exact vp_in_nI (by omega) (by omega)
  obtain ⟨z2, ez2⟩ : ∃ z, z = xs (nI k + (2 : Int32)).toNatClampNeg := ⟨_, rfl⟩
  have hin2 : vp_in (nI k + (2 : Int32)) L := by rw [show nI k + (2 : Int32) = nI (k + 2) from nI_add k 2]; exact vp_in_nI (by omega) (by omega)
  obtain ⟨z3, ez3⟩ : ∃ z, z = xs (nI k + (3 : Int32)).toNatClampNeg := ⟨_, rfl⟩
  have hin3 : vp_in (nI k + (3 : Int32)) L := by rw [show nI k + (3 : Int32) = nI (k + 3) from nI_add k 3]; exact vp_in_nI (by omega) (by omega)
  refine lv_aload_n hx hb dL_law_570 rfl (lv_at hl 1 rfl) ?_
  refine lv_aload_n hx hb dL_law_571 rfl (lv_at hl 0 rfl) ?_
  refine lv_iload_n hx hb dL_law_572 rfl (lv_at hl 3 rfl) ?_
  refine lv_iconst (v := (1 : Int32)) hx hb dL_law_573 (by decide) ?_
  refine lv_iadd hx hb dL_law_574 ?_
  refine va_sld hx hb hX hbl hbA hS hin1 dL_law_575 ?_
  refine mk_topi ez1 ?_
  obtain ⟨r, c1, mu1, h6, h7, hR⟩ := st c0 sd u0 sm z1 hR 
  refine el_vi (As := [.int z1]) (rest := []) ⟨hx, hb, hml, hown, hts⟩ (c_X6_by l D cI cZ cO NN a c0 sd z1 H.size (r, c1) h6) (cwV 1 hts kL_X6_by rfl rfl rfl (by decide +kernel) ⟨(Nat.le_of_ble_eq_true rfl), (Nat.le_of_ble_eq_true rfl)⟩) (va_recv hK (mk_Pl hP) (ci := 6) (q0 := 0) rfl rfl) hK hP hD hS hA rfl hl.1 rfl (Nat.le_of_ble_eq_true rfl) dL_law_576 ⟨by decide, by decide⟩ (fun H locs hP hD hS => ?_)
  have hP : va_P D vwCl (wX6 cI cO a c1 sd ++ wX7 cI cZ bm u0 sm) H := hP
  have hD : va_D (fun q : Nat => s.heap.size ≤ q) (wX6 cI cO a c1 sd ++ wX7 cI cZ bm u0 sm) := hD
  refine lv_aload_n hx hb dL_law_579 rfl (lv_at hl 2 rfl) ?_
  refine lv_aload_n hx hb dL_law_580 rfl (lv_at hl 0 rfl) ?_
  refine lv_iload_n hx hb dL_law_581 rfl (lv_at hl 3 rfl) ?_
  refine lv_iconst (v := (1 : Int32)) hx hb dL_law_582 (by decide) ?_
  refine lv_iadd hx hb dL_law_583 ?_
  refine va_sld hx hb hX hbl hbA hS hin1 dL_law_584 ?_
  refine mk_topi ez1 ?_
  refine er_vi (As := [.int z1]) (rest := [.int r]) ⟨hx, hb, hml, hown, hts⟩ (c_X7_by l D cI cZ cO NN bm u0 sm z1 H.size (r, mu1) h7) (cwV 1 hts kL_X7_by rfl rfl rfl (by decide +kernel) ⟨(Nat.le_of_ble_eq_true rfl), (Nat.le_of_ble_eq_true rfl)⟩) (va_recv hK (mk_Pr hP) (ci := 7) (q0 := 0) rfl rfl) hK hP hD hS hA rfl hl.1 rfl (Nat.le_of_ble_eq_true rfl) dL_law_585 ⟨by decide, by decide⟩ (fun H locs hP hD hS => ?_)
  refine lv_icmp_eq (tgt := 893) hx hb dL_law_588 (by decide) (fun _ => ?_) (fun q => absurd rfl q)
  exact kk a c1 sd bm mu1 sm H locs ls hR hP hD hS hl
set_option maxHeartbeats 4000000 in
set_option maxRecDepth 100000 in
theorem law_c17 {Rel : CU → Int64 → TU → Int64 → Prop} (st : ∀ (c0 : CU) (sd : Int64) (u0 : TU) (sm : Int64), Rel c0 sd u0 sm → ∃ (r : Int32), f_X6_fewest NN c0 sd  = some r ∧ f_X7_fewest NN u0 sm  = some r ∧ Rel c0 sd u0 sm) {p : Program} {l : Launch} {e : Env} {s : State} {m : MethodId} {below : List Frame} {meth : Method} {c : Code} {D : va_G} {cI cZ cO : ClassId} {t b L : Nat} {xs : Nat → Int32} (hL : L ≤ 2048) (C0 : lw_At p s m meth c b L xs) (hK : va_K D vwCl (tyA cI cZ cO) s) (hZ : mk_Z cI t (fun q : Nat => s.heap.size ≤ q) s s.heap) (k : Nat) (hk : k + 4 ≤ L) (kk : ∀ (a : Nat → Nat → Nat) (c0 : CU) (sd : Int64) (bm : Nat → Nat) (u0 : TU) (sm : Int64) (H : Heap) (locs : List Loc) (ls : Array Slot), Rel c0 sd u0 sm → va_P D vwCl (wX6 cI cO a c0 sd ++ wX7 cI cZ bm u0 sm) H → va_D (fun q : Nat => s.heap.size ≤ q) (wX6 cI cO a c0 sd ++ wX7 cI cZ bm u0 sm) → va_S (fun q : Nat => s.heap.size ≤ q) s.heap H locs → lv_has ls 4 [(0, .ref b), (1, .ref (a 0 0)), (2, .ref (bm 0)), (3, .int (nI k))] → W p l e room_1 s m #[Value.ref b] below meth c H locs 64 691 (lw_Z below #[Value.ref b] s) (F0 m 893 ls [])) : ∀ (a : Nat → Nat → Nat) (c0 : CU) (sd : Int64) (bm : Nat → Nat) (u0 : TU) (sm : Int64) (H : Heap) (locs : List Loc) (ls : Array Slot), Rel c0 sd u0 sm → va_P D vwCl (wX6 cI cO a c0 sd ++ wX7 cI cZ bm u0 sm) H → va_D (fun q : Nat => s.heap.size ≤ q) (wX6 cI cO a c0 sd ++ wX7 cI cZ bm u0 sm) → va_S (fun q : Nat => s.heap.size ≤ q) s.heap H locs → lv_has ls 4 [(0, .ref b), (1, .ref (a 0 0)), (2, .ref (bm 0)), (3, .int (nI k))] → W p l e room_1 s m #[Value.ref b] below meth c H locs 64 691 (lw_Z below #[Value.ref b] s) (F0 m 593 ls []) := by
  obtain ⟨hx, hb, hr, hml, hown, hts, hX, hbl, hlocks, hgv⟩ := C0
  have hA : ∀ q : Nat, s.heap.size ≤ q → (fun q : Nat => s.heap.size ≤ q) q := fun _ h => h
  have hbA : ¬ (fun q : Nat => s.heap.size ≤ q) b := Nat.not_le.mpr hbl
  intro a c0 sd bm u0 sm H locs ls hR hP hD hS hl
  obtain ⟨z1, ez1⟩ : ∃ z, z = xs (nI k + (1 : Int32)).toNatClampNeg := ⟨_, rfl⟩
  have hin1 : vp_in (nI k + (1 : Int32)) L := by rw [show nI k + (1 : Int32) = nI (k + 1) from nI_add k 1]; exact vp_in_nI (by omega) (by omega)
  obtain ⟨z2, ez2⟩ : ∃ z, z = xs (nI k + (2 : Int32)).toNatClampNeg := ⟨_, rfl⟩
  have hin2 : vp_in (nI k + (2 : Int32)) L := by rw [show nI k + (2 : Int32) = nI (k + 2) from nI_add k 2]; exact vp_in_nI (by omega) (by omega)
  obtain ⟨z3, ez3⟩ : ∃ z, z = xs (nI k + (3 : Int32)).toNatClampNeg := ⟨_, rfl⟩
  have hin3 : vp_in (nI k + (3 : Int32)) L := by rw [show nI k + (3 : Int32) = nI (k + 3) from nI_add k 3]; exact vp_in_nI (by omega) (by omega)
  refine lv_aload_n hx hb dL_law_593 rfl (lv_at hl 1 rfl) ?_
  obtain ⟨r, h6, h7, hR⟩ := st c0 sd u0 sm  hR 
  refine pc_v (As := []) (rest := []) ⟨hx, hb, hml, hown, hts⟩ (c_X6_fewest l D cI cZ cO NN a c0 sd  r h6) (cwV 0 hts kL_X6_fewest rfl rfl rfl (by decide +kernel) ⟨(Nat.le_of_ble_eq_true rfl), (Nat.le_of_ble_eq_true rfl)⟩) (va_recv hK (mk_Pl hP) (ci := 6) (q0 := 0) rfl rfl) (mk_Pl hP) hK rfl hl.1 rfl (Nat.le_of_ble_eq_true rfl) dL_law_594 ⟨by decide, by decide⟩ ?_
  refine lv_aload_n hx hb dL_law_597 rfl (lv_at hl 2 rfl) ?_
  refine pc_v (As := []) (rest := [.int r]) ⟨hx, hb, hml, hown, hts⟩ (c_X7_fewest l D cI cZ cO NN bm u0 sm  r h7) (cwV 0 hts kL_X7_fewest rfl rfl rfl (by decide +kernel) ⟨(Nat.le_of_ble_eq_true rfl), (Nat.le_of_ble_eq_true rfl)⟩) (va_recv hK (mk_Pr hP) (ci := 7) (q0 := 0) rfl rfl) (mk_Pr hP) hK rfl hl.1 rfl (Nat.le_of_ble_eq_true rfl) dL_law_598 ⟨by decide, by decide⟩ ?_
  refine lv_icmp_eq (tgt := 893) hx hb dL_law_601 (by decide) (fun _ => ?_) (fun q => absurd rfl q)
  exact kk a c0 sd bm u0 sm H locs ls hR hP hD hS hl
set_option maxHeartbeats 4000000 in
set_option maxRecDepth 100000 in
theorem law_c18 {Rel : CU → Int64 → TU → Int64 → Prop} (st : ∀ (c0 : CU) (sd : Int64) (u0 : TU) (sm : Int64) (p0 : Int32) (p1 : Int32), Rel c0 sd u0 sm → (p1 = 0 ∨ p1 = 1) → ∃ (r : Int32) (c1 : CU) (mu1 : TU), f_X6_share NN c0 sd p0 p1 = some (r, c1) ∧ f_X7_share NN u0 sm p0 p1 = some (r, mu1) ∧ Rel c1 sd mu1 sm) {p : Program} {l : Launch} {e : Env} {s : State} {m : MethodId} {below : List Frame} {meth : Method} {c : Code} {D : va_G} {cI cZ cO : ClassId} {t b L : Nat} {xs : Nat → Int32} (hL : L ≤ 2048) (C0 : lw_At p s m meth c b L xs) (hK : va_K D vwCl (tyA cI cZ cO) s) (hZ : mk_Z cI t (fun q : Nat => s.heap.size ≤ q) s s.heap) (k : Nat) (hk : k + 4 ≤ L) (kk : ∀ (a : Nat → Nat → Nat) (c0 : CU) (sd : Int64) (bm : Nat → Nat) (u0 : TU) (sm : Int64) (H : Heap) (locs : List Loc) (ls : Array Slot), Rel c0 sd u0 sm → va_P D vwCl (wX6 cI cO a c0 sd ++ wX7 cI cZ bm u0 sm) H → va_D (fun q : Nat => s.heap.size ≤ q) (wX6 cI cO a c0 sd ++ wX7 cI cZ bm u0 sm) → va_S (fun q : Nat => s.heap.size ≤ q) s.heap H locs → lv_has ls 4 [(0, .ref b), (1, .ref (a 0 0)), (2, .ref (bm 0)), (3, .int (nI k))] → W p l e room_1 s m #[Value.ref b] below meth c H locs 64 691 (lw_Z below #[Value.ref b] s) (F0 m 893 ls [])) : ∀ (a : Nat → Nat → Nat) (c0 : CU) (sd : Int64) (bm : Nat → Nat) (u0 : TU) (sm : Int64) (H : Heap) (locs : List Loc) (ls : Array Slot), Rel c0 sd u0 sm → va_P D vwCl (wX6 cI cO a c0 sd ++ wX7 cI cZ bm u0 sm) H → va_D (fun q : Nat => s.heap.size ≤ q) (wX6 cI cO a c0 sd ++ wX7 cI cZ bm u0 sm) → va_S (fun q : Nat => s.heap.size ≤ q) s.heap H locs → lv_has ls 4 [(0, .ref b), (1, .ref (a 0 0)), (2, .ref (bm 0)), (3, .int (nI k))] → W p l e room_1 s m #[Value.ref b] below meth c H locs 64 691 (lw_Z below #[Value.ref b] s) (F0 m 606 ls []) := by
  obtain ⟨hx, hb, hr, hml, hown, hts, hX, hbl, hlocks, hgv⟩ := C0
  have hA : ∀ q : Nat, s.heap.size ≤ q → (fun q : Nat => s.heap.size ≤ q) q := fun _ h => h
  have hbA : ¬ (fun q : Nat => s.heap.size ≤ q) b := Nat.not_le.mpr hbl
  intro a c0 sd bm u0 sm H locs ls hR hP hD hS hl
  obtain ⟨z1, ez1⟩ : ∃ z, z = xs (nI k + (1 : Int32)).toNatClampNeg := ⟨_, rfl⟩
  have hin1 : vp_in (nI k + (1 : Int32)) L := by rw [show nI k + (1 : Int32) = nI (k + 1) from nI_add k 1]; exact vp_in_nI (by omega) (by omega)
  obtain ⟨z2, ez2⟩ : ∃ z, z = xs (nI k + (2 : Int32)).toNatClampNeg := ⟨_, rfl⟩
  have hin2 : vp_in (nI k + (2 : Int32)) L := by rw [show nI k + (2 : Int32) = nI (k + 2) from nI_add k 2]; exact vp_in_nI (by omega) (by omega)
  obtain ⟨z3, ez3⟩ : ∃ z, z = xs (nI k + (3 : Int32)).toNatClampNeg := ⟨_, rfl⟩
  have hin3 : vp_in (nI k + (3 : Int32)) L := by rw [show nI k + (3 : Int32) = nI (k + 3) from nI_add k 3]; exact vp_in_nI (by omega) (by omega)
  refine lv_aload_n hx hb dL_law_606 rfl (lv_at hl 1 rfl) ?_
  refine lv_aload_n hx hb dL_law_607 rfl (lv_at hl 0 rfl) ?_
  refine lv_iload_n hx hb dL_law_608 rfl (lv_at hl 3 rfl) ?_
  refine lv_iconst (v := (1 : Int32)) hx hb dL_law_609 (by decide) ?_
  refine lv_iadd hx hb dL_law_610 ?_
  refine va_sld hx hb hX hbl hbA hS hin1 dL_law_611 ?_
  refine mk_topi ez1 ?_
  refine lv_aload_n hx hb dL_law_612 rfl (lv_at hl 0 rfl) ?_
  refine lv_iload_n hx hb dL_law_613 rfl (lv_at hl 3 rfl) ?_
  refine lv_iconst (v := (2 : Int32)) hx hb dL_law_614 (by decide) ?_
  refine lv_iadd hx hb dL_law_615 ?_
  refine va_sld hx hb hX hbl hbA hS hin2 dL_law_616 ?_
  refine mk_topi ez2 ?_
  refine lv_if_eq (tgt := 624) hx hb dL_law_617 (by decide) (fun hqz2 => ?_) (fun hqz2 => ?_)
  ·
    refine lv_iconst (v := (0 : Int32)) hx hb dL_law_624 (by decide) ?_
    obtain ⟨r, c1, mu1, h6, h7, hR⟩ := st c0 sd u0 sm z1 (0 : Int32) hR (Or.inl rfl)
    refine el_viZ (As := [.int z1, .int (0 : Int32)]) (rest := []) ⟨hx, hb, hml, hown, hts⟩ (c_X6_share l D cI cZ cO NN a c0 sd z1 (0 : Int32) t H.size (r, c1) h6) (cwV 2 hts kL_X6_share rfl rfl rfl (by decide +kernel) ⟨(Nat.le_of_ble_eq_true rfl), (Nat.le_of_ble_eq_true rfl)⟩) (va_recv hK (mk_Pl hP) (ci := 6) (q0 := 0) rfl rfl) hK hP hD hS hA hZ hS rfl hl.1 rfl (Nat.le_of_ble_eq_true rfl) dL_law_625 ⟨by decide, by decide⟩ (fun H locs hP hD hS => ?_)
    have hP : va_P D vwCl (wX6 cI cO a c1 sd ++ wX7 cI cZ bm u0 sm) H := hP
    have hD : va_D (fun q : Nat => s.heap.size ≤ q) (wX6 cI cO a c1 sd ++ wX7 cI cZ bm u0 sm) := hD
    refine lv_aload_n hx hb dL_law_628 rfl (lv_at hl 2 rfl) ?_
    refine lv_aload_n hx hb dL_law_629 rfl (lv_at hl 0 rfl) ?_
    refine lv_iload_n hx hb dL_law_630 rfl (lv_at hl 3 rfl) ?_
    refine lv_iconst (v := (1 : Int32)) hx hb dL_law_631 (by decide) ?_
    refine lv_iadd hx hb dL_law_632 ?_
    refine va_sld hx hb hX hbl hbA hS hin1 dL_law_633 ?_
    refine mk_topi ez1 ?_
    refine lv_aload_n hx hb dL_law_634 rfl (lv_at hl 0 rfl) ?_
    refine lv_iload_n hx hb dL_law_635 rfl (lv_at hl 3 rfl) ?_
    refine lv_iconst (v := (2 : Int32)) hx hb dL_law_636 (by decide) ?_
    refine lv_iadd hx hb dL_law_637 ?_
    refine va_sld hx hb hX hbl hbA hS hin2 dL_law_638 ?_
    refine mk_topi ez2 ?_
    refine lv_if_eq (tgt := 646) hx hb dL_law_639 (by decide) (fun _ => ?_) (fun q => absurd hqz2 q)
    refine lv_iconst (v := (0 : Int32)) hx hb dL_law_646 (by decide) ?_
    refine er_vi (As := [.int z1, .int (0 : Int32)]) (rest := [.int r]) ⟨hx, hb, hml, hown, hts⟩ (c_X7_share l D cI cZ cO NN bm u0 sm z1 (0 : Int32) H.size (r, mu1) h7) (cwV 2 hts kL_X7_share rfl rfl rfl (by decide +kernel) ⟨(Nat.le_of_ble_eq_true rfl), (Nat.le_of_ble_eq_true rfl)⟩) (va_recv hK (mk_Pr hP) (ci := 7) (q0 := 0) rfl rfl) hK hP hD hS hA rfl hl.1 rfl (Nat.le_of_ble_eq_true rfl) dL_law_647 ⟨by decide, by decide⟩ (fun H locs hP hD hS => ?_)
    refine lv_icmp_eq (tgt := 893) hx hb dL_law_650 (by decide) (fun _ => ?_) (fun q => absurd rfl q)
    exact kk a c1 sd bm mu1 sm H locs ls hR hP hD hS hl
  ·
    refine lv_iconst (v := (1 : Int32)) hx hb dL_law_620 (by decide) ?_
    refine lv_goto (tgt := 625) hx hb dL_law_621 (by decide) ?_
    obtain ⟨r, c1, mu1, h6, h7, hR⟩ := st c0 sd u0 sm z1 (1 : Int32) hR (Or.inr rfl)
    refine el_viZ (As := [.int z1, .int (1 : Int32)]) (rest := []) ⟨hx, hb, hml, hown, hts⟩ (c_X6_share l D cI cZ cO NN a c0 sd z1 (1 : Int32) t H.size (r, c1) h6) (cwV 2 hts kL_X6_share rfl rfl rfl (by decide +kernel) ⟨(Nat.le_of_ble_eq_true rfl), (Nat.le_of_ble_eq_true rfl)⟩) (va_recv hK (mk_Pl hP) (ci := 6) (q0 := 0) rfl rfl) hK hP hD hS hA hZ hS rfl hl.1 rfl (Nat.le_of_ble_eq_true rfl) dL_law_625 ⟨by decide, by decide⟩ (fun H locs hP hD hS => ?_)
    have hP : va_P D vwCl (wX6 cI cO a c1 sd ++ wX7 cI cZ bm u0 sm) H := hP
    have hD : va_D (fun q : Nat => s.heap.size ≤ q) (wX6 cI cO a c1 sd ++ wX7 cI cZ bm u0 sm) := hD
    refine lv_aload_n hx hb dL_law_628 rfl (lv_at hl 2 rfl) ?_
    refine lv_aload_n hx hb dL_law_629 rfl (lv_at hl 0 rfl) ?_
    refine lv_iload_n hx hb dL_law_630 rfl (lv_at hl 3 rfl) ?_
    refine lv_iconst (v := (1 : Int32)) hx hb dL_law_631 (by decide) ?_
    refine lv_iadd hx hb dL_law_632 ?_
    refine va_sld hx hb hX hbl hbA hS hin1 dL_law_633 ?_
    refine mk_topi ez1 ?_
    refine lv_aload_n hx hb dL_law_634 rfl (lv_at hl 0 rfl) ?_
    refine lv_iload_n hx hb dL_law_635 rfl (lv_at hl 3 rfl) ?_
    refine lv_iconst (v := (2 : Int32)) hx hb dL_law_636 (by decide) ?_
    refine lv_iadd hx hb dL_law_637 ?_
    refine va_sld hx hb hX hbl hbA hS hin2 dL_law_638 ?_
    refine mk_topi ez2 ?_
    refine lv_if_eq (tgt := 646) hx hb dL_law_639 (by decide) (fun q => absurd q hqz2) (fun _ => ?_)
    refine lv_iconst (v := (1 : Int32)) hx hb dL_law_642 (by decide) ?_
    refine lv_goto (tgt := 647) hx hb dL_law_643 (by decide) ?_
    refine er_vi (As := [.int z1, .int (1 : Int32)]) (rest := [.int r]) ⟨hx, hb, hml, hown, hts⟩ (c_X7_share l D cI cZ cO NN bm u0 sm z1 (1 : Int32) H.size (r, mu1) h7) (cwV 2 hts kL_X7_share rfl rfl rfl (by decide +kernel) ⟨(Nat.le_of_ble_eq_true rfl), (Nat.le_of_ble_eq_true rfl)⟩) (va_recv hK (mk_Pr hP) (ci := 7) (q0 := 0) rfl rfl) hK hP hD hS hA rfl hl.1 rfl (Nat.le_of_ble_eq_true rfl) dL_law_647 ⟨by decide, by decide⟩ (fun H locs hP hD hS => ?_)
    refine lv_icmp_eq (tgt := 893) hx hb dL_law_650 (by decide) (fun _ => ?_) (fun q => absurd rfl q)
    exact kk a c1 sd bm mu1 sm H locs ls hR hP hD hS hl
set_option maxHeartbeats 4000000 in
set_option maxRecDepth 100000 in
theorem law_c19 {Rel : CU → Int64 → TU → Int64 → Prop} (st : ∀ (c0 : CU) (sd : Int64) (u0 : TU) (sm : Int64) (p0 : Int32) (p1 : Int32), Rel c0 sd u0 sm → ∃ (r : Int32) (c1 : CU) (mu1 : TU), f_X6_see NN c0 sd p0 p1 = some (r, c1) ∧ f_X7_see NN u0 sm p0 p1 = some (r, mu1) ∧ Rel c1 sd mu1 sm) {p : Program} {l : Launch} {e : Env} {s : State} {m : MethodId} {below : List Frame} {meth : Method} {c : Code} {D : va_G} {cI cZ cO : ClassId} {t b L : Nat} {xs : Nat → Int32} (hL : L ≤ 2048) (C0 : lw_At p s m meth c b L xs) (hK : va_K D vwCl (tyA cI cZ cO) s) (hZ : mk_Z cI t (fun q : Nat => s.heap.size ≤ q) s s.heap) (k : Nat) (hk : k + 4 ≤ L) (kk : ∀ (a : Nat → Nat → Nat) (c0 : CU) (sd : Int64) (bm : Nat → Nat) (u0 : TU) (sm : Int64) (H : Heap) (locs : List Loc) (ls : Array Slot), Rel c0 sd u0 sm → va_P D vwCl (wX6 cI cO a c0 sd ++ wX7 cI cZ bm u0 sm) H → va_D (fun q : Nat => s.heap.size ≤ q) (wX6 cI cO a c0 sd ++ wX7 cI cZ bm u0 sm) → va_S (fun q : Nat => s.heap.size ≤ q) s.heap H locs → lv_has ls 4 [(0, .ref b), (1, .ref (a 0 0)), (2, .ref (bm 0)), (3, .int (nI k))] → W p l e room_1 s m #[Value.ref b] below meth c H locs 64 691 (lw_Z below #[Value.ref b] s) (F0 m 893 ls [])) : ∀ (a : Nat → Nat → Nat) (c0 : CU) (sd : Int64) (bm : Nat → Nat) (u0 : TU) (sm : Int64) (H : Heap) (locs : List Loc) (ls : Array Slot), Rel c0 sd u0 sm → va_P D vwCl (wX6 cI cO a c0 sd ++ wX7 cI cZ bm u0 sm) H → va_D (fun q : Nat => s.heap.size ≤ q) (wX6 cI cO a c0 sd ++ wX7 cI cZ bm u0 sm) → va_S (fun q : Nat => s.heap.size ≤ q) s.heap H locs → lv_has ls 4 [(0, .ref b), (1, .ref (a 0 0)), (2, .ref (bm 0)), (3, .int (nI k))] → W p l e room_1 s m #[Value.ref b] below meth c H locs 64 691 (lw_Z below #[Value.ref b] s) (F0 m 655 ls []) := by
  obtain ⟨hx, hb, hr, hml, hown, hts, hX, hbl, hlocks, hgv⟩ := C0
  have hA : ∀ q : Nat, s.heap.size ≤ q → (fun q : Nat => s.heap.size ≤ q) q := fun _ h => h
  have hbA : ¬ (fun q : Nat => s.heap.size ≤ q) b := Nat.not_le.mpr hbl
  intro a c0 sd bm u0 sm H locs ls hR hP hD hS hl
  obtain ⟨z1, ez1⟩ : ∃ z, z = xs (nI k + (1 : Int32)).toNatClampNeg := ⟨_, rfl⟩
  have hin1 : vp_in (nI k + (1 : Int32)) L := by rw [show nI k + (1 : Int32) = nI (k + 1) from nI_add k 1]; exact vp_in_nI (by omega) (by omega)
  obtain ⟨z2, ez2⟩ : ∃ z, z = xs (nI k + (2 : Int32)).toNatClampNeg := ⟨_, rfl⟩
  have hin2 : vp_in (nI k + (2 : Int32)) L := by rw [show nI k + (2 : Int32) = nI (k + 2) from nI_add k 2]; exact vp_in_nI (by omega) (by omega)
  obtain ⟨z3, ez3⟩ : ∃ z, z = xs (nI k + (3 : Int32)).toNatClampNeg := ⟨_, rfl⟩
  have hin3 : vp_in (nI k + (3 : Int32)) L := by rw [show nI k + (3 : Int32) = nI (k + 3) from nI_add k 3]; exact vp_in_nI (by omega) (by omega)
  refine lv_aload_n hx hb dL_law_655 rfl (lv_at hl 1 rfl) ?_
  refine lv_aload_n hx hb dL_law_656 rfl (lv_at hl 0 rfl) ?_
  refine lv_iload_n hx hb dL_law_657 rfl (lv_at hl 3 rfl) ?_
  refine lv_iconst (v := (1 : Int32)) hx hb dL_law_658 (by decide) ?_
  refine lv_iadd hx hb dL_law_659 ?_
  refine va_sld hx hb hX hbl hbA hS hin1 dL_law_660 ?_
  refine mk_topi ez1 ?_
  refine lv_aload_n hx hb dL_law_661 rfl (lv_at hl 0 rfl) ?_
  refine lv_iload_n hx hb dL_law_662 rfl (lv_at hl 3 rfl) ?_
  refine lv_iconst (v := (2 : Int32)) hx hb dL_law_663 (by decide) ?_
  refine lv_iadd hx hb dL_law_664 ?_
  refine va_sld hx hb hX hbl hbA hS hin2 dL_law_665 ?_
  refine mk_topi ez2 ?_
  obtain ⟨r, c1, mu1, h6, h7, hR⟩ := st c0 sd u0 sm z1 z2 hR 
  refine el_vi (As := [.int z1, .int z2]) (rest := []) ⟨hx, hb, hml, hown, hts⟩ (c_X6_see l D cI cZ cO NN a c0 sd z1 z2 H.size (r, c1) h6) (cwV 2 hts kL_X6_see rfl rfl rfl (by decide +kernel) ⟨(Nat.le_of_ble_eq_true rfl), (Nat.le_of_ble_eq_true rfl)⟩) (va_recv hK (mk_Pl hP) (ci := 6) (q0 := 0) rfl rfl) hK hP hD hS hA rfl hl.1 rfl (Nat.le_of_ble_eq_true rfl) dL_law_666 ⟨by decide, by decide⟩ (fun H locs hP hD hS => ?_)
  have hP : va_P D vwCl (wX6 cI cO a c1 sd ++ wX7 cI cZ bm u0 sm) H := hP
  have hD : va_D (fun q : Nat => s.heap.size ≤ q) (wX6 cI cO a c1 sd ++ wX7 cI cZ bm u0 sm) := hD
  refine lv_aload_n hx hb dL_law_669 rfl (lv_at hl 2 rfl) ?_
  refine lv_aload_n hx hb dL_law_670 rfl (lv_at hl 0 rfl) ?_
  refine lv_iload_n hx hb dL_law_671 rfl (lv_at hl 3 rfl) ?_
  refine lv_iconst (v := (1 : Int32)) hx hb dL_law_672 (by decide) ?_
  refine lv_iadd hx hb dL_law_673 ?_
  refine va_sld hx hb hX hbl hbA hS hin1 dL_law_674 ?_
  refine mk_topi ez1 ?_
  refine lv_aload_n hx hb dL_law_675 rfl (lv_at hl 0 rfl) ?_
  refine lv_iload_n hx hb dL_law_676 rfl (lv_at hl 3 rfl) ?_
  refine lv_iconst (v := (2 : Int32)) hx hb dL_law_677 (by decide) ?_
  refine lv_iadd hx hb dL_law_678 ?_
  refine va_sld hx hb hX hbl hbA hS hin2 dL_law_679 ?_
  refine mk_topi ez2 ?_
  refine er_vi (As := [.int z1, .int z2]) (rest := [.int r]) ⟨hx, hb, hml, hown, hts⟩ (c_X7_see l D cI cZ cO NN bm u0 sm z1 z2 H.size (r, mu1) h7) (cwV 2 hts kL_X7_see rfl rfl rfl (by decide +kernel) ⟨(Nat.le_of_ble_eq_true rfl), (Nat.le_of_ble_eq_true rfl)⟩) (va_recv hK (mk_Pr hP) (ci := 7) (q0 := 0) rfl rfl) hK hP hD hS hA rfl hl.1 rfl (Nat.le_of_ble_eq_true rfl) dL_law_680 ⟨by decide, by decide⟩ (fun H locs hP hD hS => ?_)
  refine lv_icmp_eq (tgt := 893) hx hb dL_law_683 (by decide) (fun _ => ?_) (fun q => absurd rfl q)
  exact kk a c1 sd bm mu1 sm H locs ls hR hP hD hS hl
set_option maxHeartbeats 4000000 in
set_option maxRecDepth 100000 in
theorem law_c20 {Rel : CU → Int64 → TU → Int64 → Prop} (st : ∀ (c0 : CU) (sd : Int64) (u0 : TU) (sm : Int64), Rel c0 sd u0 sm → ∃ (r : Int32) (c1 : CU) (mu1 : TU), f_X6_unsee NN c0 sd  = some (r, c1) ∧ f_X7_unsee NN u0 sm  = some (r, mu1) ∧ Rel c1 sd mu1 sm) {p : Program} {l : Launch} {e : Env} {s : State} {m : MethodId} {below : List Frame} {meth : Method} {c : Code} {D : va_G} {cI cZ cO : ClassId} {t b L : Nat} {xs : Nat → Int32} (hL : L ≤ 2048) (C0 : lw_At p s m meth c b L xs) (hK : va_K D vwCl (tyA cI cZ cO) s) (hZ : mk_Z cI t (fun q : Nat => s.heap.size ≤ q) s s.heap) (k : Nat) (hk : k + 4 ≤ L) (kk : ∀ (a : Nat → Nat → Nat) (c0 : CU) (sd : Int64) (bm : Nat → Nat) (u0 : TU) (sm : Int64) (H : Heap) (locs : List Loc) (ls : Array Slot), Rel c0 sd u0 sm → va_P D vwCl (wX6 cI cO a c0 sd ++ wX7 cI cZ bm u0 sm) H → va_D (fun q : Nat => s.heap.size ≤ q) (wX6 cI cO a c0 sd ++ wX7 cI cZ bm u0 sm) → va_S (fun q : Nat => s.heap.size ≤ q) s.heap H locs → lv_has ls 4 [(0, .ref b), (1, .ref (a 0 0)), (2, .ref (bm 0)), (3, .int (nI k))] → W p l e room_1 s m #[Value.ref b] below meth c H locs 64 691 (lw_Z below #[Value.ref b] s) (F0 m 893 ls [])) : ∀ (a : Nat → Nat → Nat) (c0 : CU) (sd : Int64) (bm : Nat → Nat) (u0 : TU) (sm : Int64) (H : Heap) (locs : List Loc) (ls : Array Slot), Rel c0 sd u0 sm → va_P D vwCl (wX6 cI cO a c0 sd ++ wX7 cI cZ bm u0 sm) H → va_D (fun q : Nat => s.heap.size ≤ q) (wX6 cI cO a c0 sd ++ wX7 cI cZ bm u0 sm) → va_S (fun q : Nat => s.heap.size ≤ q) s.heap H locs → lv_has ls 4 [(0, .ref b), (1, .ref (a 0 0)), (2, .ref (bm 0)), (3, .int (nI k))] → W p l e room_1 s m #[Value.ref b] below meth c H locs 64 691 (lw_Z below #[Value.ref b] s) (F0 m 688 ls []) := by
  obtain ⟨hx, hb, hr, hml, hown, hts, hX, hbl, hlocks, hgv⟩ := C0
  have hA : ∀ q : Nat, s.heap.size ≤ q → (fun q : Nat => s.heap.size ≤ q) q := fun _ h => h
  have hbA : ¬ (fun q : Nat => s.heap.size ≤ q) b := Nat.not_le.mpr hbl
  intro a c0 sd bm u0 sm H locs ls hR hP hD hS hl
  obtain ⟨z1, ez1⟩ : ∃ z, z = xs (nI k + (1 : Int32)).toNatClampNeg := ⟨_, rfl⟩
  have hin1 : vp_in (nI k + (1 : Int32)) L := by rw [show nI k + (1 : Int32) = nI (k + 1) from nI_add k 1]; exact vp_in_nI (by omega) (by omega)
  obtain ⟨z2, ez2⟩ : ∃ z, z = xs (nI k + (2 : Int32)).toNatClampNeg := ⟨_, rfl⟩
  have hin2 : vp_in (nI k + (2 : Int32)) L := by rw [show nI k + (2 : Int32) = nI (k + 2) from nI_add k 2]; exact vp_in_nI (by omega) (by omega)
  obtain ⟨z3, ez3⟩ : ∃ z, z = xs (nI k + (3 : Int32)).toNatClampNeg := ⟨_, rfl⟩
  have hin3 : vp_in (nI k + (3 : Int32)) L := by rw [show nI k + (3 : Int32) = nI (k + 3) from nI_add k 3]; exact vp_in_nI (by omega) (by omega)
  refine lv_aload_n hx hb dL_law_688 rfl (lv_at hl 1 rfl) ?_
  obtain ⟨r, c1, mu1, h6, h7, hR⟩ := st c0 sd u0 sm  hR 
  refine el_vi (As := []) (rest := []) ⟨hx, hb, hml, hown, hts⟩ (c_X6_unsee l D cI cZ cO NN a c0 sd  H.size (r, c1) h6) (cwV 0 hts kL_X6_unsee rfl rfl rfl (by decide +kernel) ⟨(Nat.le_of_ble_eq_true rfl), (Nat.le_of_ble_eq_true rfl)⟩) (va_recv hK (mk_Pl hP) (ci := 6) (q0 := 0) rfl rfl) hK hP hD hS hA rfl hl.1 rfl (Nat.le_of_ble_eq_true rfl) dL_law_689 ⟨by decide, by decide⟩ (fun H locs hP hD hS => ?_)
  have hP : va_P D vwCl (wX6 cI cO a c1 sd ++ wX7 cI cZ bm u0 sm) H := hP
  have hD : va_D (fun q : Nat => s.heap.size ≤ q) (wX6 cI cO a c1 sd ++ wX7 cI cZ bm u0 sm) := hD
  refine lv_aload_n hx hb dL_law_692 rfl (lv_at hl 2 rfl) ?_
  refine er_vi (As := []) (rest := [.int r]) ⟨hx, hb, hml, hown, hts⟩ (c_X7_unsee l D cI cZ cO NN bm u0 sm  H.size (r, mu1) h7) (cwV 0 hts kL_X7_unsee rfl rfl rfl (by decide +kernel) ⟨(Nat.le_of_ble_eq_true rfl), (Nat.le_of_ble_eq_true rfl)⟩) (va_recv hK (mk_Pr hP) (ci := 7) (q0 := 0) rfl rfl) hK hP hD hS hA rfl hl.1 rfl (Nat.le_of_ble_eq_true rfl) dL_law_693 ⟨by decide, by decide⟩ (fun H locs hP hD hS => ?_)
  refine lv_icmp_eq (tgt := 893) hx hb dL_law_696 (by decide) (fun _ => ?_) (fun q => absurd rfl q)
  exact kk a c1 sd bm mu1 sm H locs ls hR hP hD hS hl
set_option maxHeartbeats 4000000 in
set_option maxRecDepth 100000 in
theorem law_c21 {Rel : CU → Int64 → TU → Int64 → Prop} (st : ∀ (c0 : CU) (sd : Int64) (u0 : TU) (sm : Int64), Rel c0 sd u0 sm → ∃ (r : Int32) (mu1 : TU), f_X6_which NN c0 sd  = some r ∧ f_X7_which NN u0 sm  = some (r, mu1) ∧ Rel c0 sd mu1 sm) {p : Program} {l : Launch} {e : Env} {s : State} {m : MethodId} {below : List Frame} {meth : Method} {c : Code} {D : va_G} {cI cZ cO : ClassId} {t b L : Nat} {xs : Nat → Int32} (hL : L ≤ 2048) (C0 : lw_At p s m meth c b L xs) (hK : va_K D vwCl (tyA cI cZ cO) s) (hZ : mk_Z cI t (fun q : Nat => s.heap.size ≤ q) s s.heap) (k : Nat) (hk : k + 4 ≤ L) (kk : ∀ (a : Nat → Nat → Nat) (c0 : CU) (sd : Int64) (bm : Nat → Nat) (u0 : TU) (sm : Int64) (H : Heap) (locs : List Loc) (ls : Array Slot), Rel c0 sd u0 sm → va_P D vwCl (wX6 cI cO a c0 sd ++ wX7 cI cZ bm u0 sm) H → va_D (fun q : Nat => s.heap.size ≤ q) (wX6 cI cO a c0 sd ++ wX7 cI cZ bm u0 sm) → va_S (fun q : Nat => s.heap.size ≤ q) s.heap H locs → lv_has ls 4 [(0, .ref b), (1, .ref (a 0 0)), (2, .ref (bm 0)), (3, .int (nI k))] → W p l e room_1 s m #[Value.ref b] below meth c H locs 64 691 (lw_Z below #[Value.ref b] s) (F0 m 893 ls [])) : ∀ (a : Nat → Nat → Nat) (c0 : CU) (sd : Int64) (bm : Nat → Nat) (u0 : TU) (sm : Int64) (H : Heap) (locs : List Loc) (ls : Array Slot), Rel c0 sd u0 sm → va_P D vwCl (wX6 cI cO a c0 sd ++ wX7 cI cZ bm u0 sm) H → va_D (fun q : Nat => s.heap.size ≤ q) (wX6 cI cO a c0 sd ++ wX7 cI cZ bm u0 sm) → va_S (fun q : Nat => s.heap.size ≤ q) s.heap H locs → lv_has ls 4 [(0, .ref b), (1, .ref (a 0 0)), (2, .ref (bm 0)), (3, .int (nI k))] → W p l e room_1 s m #[Value.ref b] below meth c H locs 64 691 (lw_Z below #[Value.ref b] s) (F0 m 701 ls []) := by
  obtain ⟨hx, hb, hr, hml, hown, hts, hX, hbl, hlocks, hgv⟩ := C0
  have hA : ∀ q : Nat, s.heap.size ≤ q → (fun q : Nat => s.heap.size ≤ q) q := fun _ h => h
  have hbA : ¬ (fun q : Nat => s.heap.size ≤ q) b := Nat.not_le.mpr hbl
  intro a c0 sd bm u0 sm H locs ls hR hP hD hS hl
  obtain ⟨z1, ez1⟩ : ∃ z, z = xs (nI k + (1 : Int32)).toNatClampNeg := ⟨_, rfl⟩
  have hin1 : vp_in (nI k + (1 : Int32)) L := by rw [show nI k + (1 : Int32) = nI (k + 1) from nI_add k 1]; exact vp_in_nI (by omega) (by omega)
  obtain ⟨z2, ez2⟩ : ∃ z, z = xs (nI k + (2 : Int32)).toNatClampNeg := ⟨_, rfl⟩
  have hin2 : vp_in (nI k + (2 : Int32)) L := by rw [show nI k + (2 : Int32) = nI (k + 2) from nI_add k 2]; exact vp_in_nI (by omega) (by omega)
  obtain ⟨z3, ez3⟩ : ∃ z, z = xs (nI k + (3 : Int32)).toNatClampNeg := ⟨_, rfl⟩
  have hin3 : vp_in (nI k + (3 : Int32)) L := by rw [show nI k + (3 : Int32) = nI (k + 3) from nI_add k 3]; exact vp_in_nI (by omega) (by omega)
  refine lv_aload_n hx hb dL_law_701 rfl (lv_at hl 1 rfl) ?_
  obtain ⟨r, mu1, h6, h7, hR⟩ := st c0 sd u0 sm  hR 
  refine pc_v (As := []) (rest := []) ⟨hx, hb, hml, hown, hts⟩ (c_X6_which l D cI cZ cO NN a c0 sd  r h6) (cwV 0 hts kL_X6_which rfl rfl rfl (by decide +kernel) ⟨(Nat.le_of_ble_eq_true rfl), (Nat.le_of_ble_eq_true rfl)⟩) (va_recv hK (mk_Pl hP) (ci := 6) (q0 := 0) rfl rfl) (mk_Pl hP) hK rfl hl.1 rfl (Nat.le_of_ble_eq_true rfl) dL_law_702 ⟨by decide, by decide⟩ ?_
  refine lv_aload_n hx hb dL_law_705 rfl (lv_at hl 2 rfl) ?_
  refine er_vi (As := []) (rest := [.int r]) ⟨hx, hb, hml, hown, hts⟩ (c_X7_which l D cI cZ cO NN bm u0 sm  H.size (r, mu1) h7) (cwV 0 hts kL_X7_which rfl rfl rfl (by decide +kernel) ⟨(Nat.le_of_ble_eq_true rfl), (Nat.le_of_ble_eq_true rfl)⟩) (va_recv hK (mk_Pr hP) (ci := 7) (q0 := 0) rfl rfl) hK hP hD hS hA rfl hl.1 rfl (Nat.le_of_ble_eq_true rfl) dL_law_706 ⟨by decide, by decide⟩ (fun H locs hP hD hS => ?_)
  refine lv_icmp_eq (tgt := 893) hx hb dL_law_709 (by decide) (fun _ => ?_) (fun q => absurd rfl q)
  exact kk a c0 sd bm mu1 sm H locs ls hR hP hD hS hl
set_option maxHeartbeats 4000000 in
set_option maxRecDepth 100000 in
theorem law_c22 {Rel : CU → Int64 → TU → Int64 → Prop} (st : ∀ (c0 : CU) (sd : Int64) (u0 : TU) (sm : Int64) (p0 : Int32) (p1 : Int32), Rel c0 sd u0 sm → ∃ (r : Int32), f_X6_judge NN c0 sd p0 p1 = some r ∧ f_X7_judge NN u0 sm p0 p1 = some r ∧ Rel c0 sd u0 sm) {p : Program} {l : Launch} {e : Env} {s : State} {m : MethodId} {below : List Frame} {meth : Method} {c : Code} {D : va_G} {cI cZ cO : ClassId} {t b L : Nat} {xs : Nat → Int32} (hL : L ≤ 2048) (C0 : lw_At p s m meth c b L xs) (hK : va_K D vwCl (tyA cI cZ cO) s) (hZ : mk_Z cI t (fun q : Nat => s.heap.size ≤ q) s s.heap) (k : Nat) (hk : k + 4 ≤ L) (kk : ∀ (a : Nat → Nat → Nat) (c0 : CU) (sd : Int64) (bm : Nat → Nat) (u0 : TU) (sm : Int64) (H : Heap) (locs : List Loc) (ls : Array Slot), Rel c0 sd u0 sm → va_P D vwCl (wX6 cI cO a c0 sd ++ wX7 cI cZ bm u0 sm) H → va_D (fun q : Nat => s.heap.size ≤ q) (wX6 cI cO a c0 sd ++ wX7 cI cZ bm u0 sm) → va_S (fun q : Nat => s.heap.size ≤ q) s.heap H locs → lv_has ls 4 [(0, .ref b), (1, .ref (a 0 0)), (2, .ref (bm 0)), (3, .int (nI k))] → W p l e room_1 s m #[Value.ref b] below meth c H locs 64 691 (lw_Z below #[Value.ref b] s) (F0 m 893 ls [])) : ∀ (a : Nat → Nat → Nat) (c0 : CU) (sd : Int64) (bm : Nat → Nat) (u0 : TU) (sm : Int64) (H : Heap) (locs : List Loc) (ls : Array Slot), Rel c0 sd u0 sm → va_P D vwCl (wX6 cI cO a c0 sd ++ wX7 cI cZ bm u0 sm) H → va_D (fun q : Nat => s.heap.size ≤ q) (wX6 cI cO a c0 sd ++ wX7 cI cZ bm u0 sm) → va_S (fun q : Nat => s.heap.size ≤ q) s.heap H locs → lv_has ls 4 [(0, .ref b), (1, .ref (a 0 0)), (2, .ref (bm 0)), (3, .int (nI k))] → W p l e room_1 s m #[Value.ref b] below meth c H locs 64 691 (lw_Z below #[Value.ref b] s) (F0 m 714 ls []) := by
  obtain ⟨hx, hb, hr, hml, hown, hts, hX, hbl, hlocks, hgv⟩ := C0
  have hA : ∀ q : Nat, s.heap.size ≤ q → (fun q : Nat => s.heap.size ≤ q) q := fun _ h => h
  have hbA : ¬ (fun q : Nat => s.heap.size ≤ q) b := Nat.not_le.mpr hbl
  intro a c0 sd bm u0 sm H locs ls hR hP hD hS hl
  obtain ⟨z1, ez1⟩ : ∃ z, z = xs (nI k + (1 : Int32)).toNatClampNeg := ⟨_, rfl⟩
  have hin1 : vp_in (nI k + (1 : Int32)) L := by rw [show nI k + (1 : Int32) = nI (k + 1) from nI_add k 1]; exact vp_in_nI (by omega) (by omega)
  obtain ⟨z2, ez2⟩ : ∃ z, z = xs (nI k + (2 : Int32)).toNatClampNeg := ⟨_, rfl⟩
  have hin2 : vp_in (nI k + (2 : Int32)) L := by rw [show nI k + (2 : Int32) = nI (k + 2) from nI_add k 2]; exact vp_in_nI (by omega) (by omega)
  obtain ⟨z3, ez3⟩ : ∃ z, z = xs (nI k + (3 : Int32)).toNatClampNeg := ⟨_, rfl⟩
  have hin3 : vp_in (nI k + (3 : Int32)) L := by rw [show nI k + (3 : Int32) = nI (k + 3) from nI_add k 3]; exact vp_in_nI (by omega) (by omega)
  refine lv_aload_n hx hb dL_law_714 rfl (lv_at hl 1 rfl) ?_
  refine lv_aload_n hx hb dL_law_715 rfl (lv_at hl 0 rfl) ?_
  refine lv_iload_n hx hb dL_law_716 rfl (lv_at hl 3 rfl) ?_
  refine lv_iconst (v := (1 : Int32)) hx hb dL_law_717 (by decide) ?_
  refine lv_iadd hx hb dL_law_718 ?_
  refine va_sld hx hb hX hbl hbA hS hin1 dL_law_719 ?_
  refine mk_topi ez1 ?_
  refine lv_aload_n hx hb dL_law_720 rfl (lv_at hl 0 rfl) ?_
  refine lv_iload_n hx hb dL_law_721 rfl (lv_at hl 3 rfl) ?_
  refine lv_iconst (v := (2 : Int32)) hx hb dL_law_722 (by decide) ?_
  refine lv_iadd hx hb dL_law_723 ?_
  refine va_sld hx hb hX hbl hbA hS hin2 dL_law_724 ?_
  refine mk_topi ez2 ?_
  obtain ⟨r, h6, h7, hR⟩ := st c0 sd u0 sm z1 z2 hR 
  refine pc_v (As := [.int z1, .int z2]) (rest := []) ⟨hx, hb, hml, hown, hts⟩ (c_X6_judge l D cI cZ cO NN a c0 sd z1 z2 r h6) (cwV 2 hts kL_X6_judge rfl rfl rfl (by decide +kernel) ⟨(Nat.le_of_ble_eq_true rfl), (Nat.le_of_ble_eq_true rfl)⟩) (va_recv hK (mk_Pl hP) (ci := 6) (q0 := 0) rfl rfl) (mk_Pl hP) hK rfl hl.1 rfl (Nat.le_of_ble_eq_true rfl) dL_law_725 ⟨by decide, by decide⟩ ?_
  refine lv_aload_n hx hb dL_law_728 rfl (lv_at hl 2 rfl) ?_
  refine lv_aload_n hx hb dL_law_729 rfl (lv_at hl 0 rfl) ?_
  refine lv_iload_n hx hb dL_law_730 rfl (lv_at hl 3 rfl) ?_
  refine lv_iconst (v := (1 : Int32)) hx hb dL_law_731 (by decide) ?_
  refine lv_iadd hx hb dL_law_732 ?_
  refine va_sld hx hb hX hbl hbA hS hin1 dL_law_733 ?_
  refine mk_topi ez1 ?_
  refine lv_aload_n hx hb dL_law_734 rfl (lv_at hl 0 rfl) ?_
  refine lv_iload_n hx hb dL_law_735 rfl (lv_at hl 3 rfl) ?_
  refine lv_iconst (v := (2 : Int32)) hx hb dL_law_736 (by decide) ?_
  refine lv_iadd hx hb dL_law_737 ?_
  refine va_sld hx hb hX hbl hbA hS hin2 dL_law_738 ?_
  refine mk_topi ez2 ?_
  refine pc_v (As := [.int z1, .int z2]) (rest := [.int r]) ⟨hx, hb, hml, hown, hts⟩ (c_X7_judge l D cI cZ cO NN bm u0 sm z1 z2 r h7) (cwV 2 hts kL_X7_judge rfl rfl rfl (by decide +kernel) ⟨(Nat.le_of_ble_eq_true rfl), (Nat.le_of_ble_eq_true rfl)⟩) (va_recv hK (mk_Pr hP) (ci := 7) (q0 := 0) rfl rfl) (mk_Pr hP) hK rfl hl.1 rfl (Nat.le_of_ble_eq_true rfl) dL_law_739 ⟨by decide, by decide⟩ ?_
  refine lv_icmp_eq (tgt := 893) hx hb dL_law_742 (by decide) (fun _ => ?_) (fun q => absurd rfl q)
  exact kk a c0 sd bm u0 sm H locs ls hR hP hD hS hl
set_option maxHeartbeats 4000000 in
set_option maxRecDepth 100000 in
theorem law_c23 {Rel : CU → Int64 → TU → Int64 → Prop} (st : ∀ (c0 : CU) (sd : Int64) (u0 : TU) (sm : Int64) (p0 : Int64), Rel c0 sd u0 sm → ∃ (r : Int64) (sd1 : Int64) (msd1 : Int64), f_X6_seed NN c0 sd p0 = some (r, sd1) ∧ f_X7_seed NN u0 sm p0 = some (r, msd1) ∧ Rel c0 sd1 u0 msd1) {p : Program} {l : Launch} {e : Env} {s : State} {m : MethodId} {below : List Frame} {meth : Method} {c : Code} {D : va_G} {cI cZ cO : ClassId} {t b L : Nat} {xs : Nat → Int32} (hL : L ≤ 2048) (C0 : lw_At p s m meth c b L xs) (hK : va_K D vwCl (tyA cI cZ cO) s) (hZ : mk_Z cI t (fun q : Nat => s.heap.size ≤ q) s s.heap) (k : Nat) (hk : k + 4 ≤ L) (kk : ∀ (a : Nat → Nat → Nat) (c0 : CU) (sd : Int64) (bm : Nat → Nat) (u0 : TU) (sm : Int64) (H : Heap) (locs : List Loc) (ls : Array Slot), Rel c0 sd u0 sm → va_P D vwCl (wX6 cI cO a c0 sd ++ wX7 cI cZ bm u0 sm) H → va_D (fun q : Nat => s.heap.size ≤ q) (wX6 cI cO a c0 sd ++ wX7 cI cZ bm u0 sm) → va_S (fun q : Nat => s.heap.size ≤ q) s.heap H locs → lv_has ls 4 [(0, .ref b), (1, .ref (a 0 0)), (2, .ref (bm 0)), (3, .int (nI k))] → W p l e room_1 s m #[Value.ref b] below meth c H locs 64 691 (lw_Z below #[Value.ref b] s) (F0 m 893 ls [])) : ∀ (a : Nat → Nat → Nat) (c0 : CU) (sd : Int64) (bm : Nat → Nat) (u0 : TU) (sm : Int64) (H : Heap) (locs : List Loc) (ls : Array Slot), Rel c0 sd u0 sm → va_P D vwCl (wX6 cI cO a c0 sd ++ wX7 cI cZ bm u0 sm) H → va_D (fun q : Nat => s.heap.size ≤ q) (wX6 cI cO a c0 sd ++ wX7 cI cZ bm u0 sm) → va_S (fun q : Nat => s.heap.size ≤ q) s.heap H locs → lv_has ls 4 [(0, .ref b), (1, .ref (a 0 0)), (2, .ref (bm 0)), (3, .int (nI k))] → W p l e room_1 s m #[Value.ref b] below meth c H locs 64 691 (lw_Z below #[Value.ref b] s) (F0 m 747 ls []) := by
  obtain ⟨hx, hb, hr, hml, hown, hts, hX, hbl, hlocks, hgv⟩ := C0
  have hA : ∀ q : Nat, s.heap.size ≤ q → (fun q : Nat => s.heap.size ≤ q) q := fun _ h => h
  have hbA : ¬ (fun q : Nat => s.heap.size ≤ q) b := Nat.not_le.mpr hbl
  intro a c0 sd bm u0 sm H locs ls hR hP hD hS hl
  obtain ⟨z1, ez1⟩ : ∃ z, z = xs (nI k + (1 : Int32)).toNatClampNeg := ⟨_, rfl⟩
  have hin1 : vp_in (nI k + (1 : Int32)) L := by rw [show nI k + (1 : Int32) = nI (k + 1) from nI_add k 1]; exact vp_in_nI (by omega) (by omega)
  obtain ⟨z2, ez2⟩ : ∃ z, z = xs (nI k + (2 : Int32)).toNatClampNeg := ⟨_, rfl⟩
  have hin2 : vp_in (nI k + (2 : Int32)) L := by rw [show nI k + (2 : Int32) = nI (k + 2) from nI_add k 2]; exact vp_in_nI (by omega) (by omega)
  obtain ⟨z3, ez3⟩ : ∃ z, z = xs (nI k + (3 : Int32)).toNatClampNeg := ⟨_, rfl⟩
  have hin3 : vp_in (nI k + (3 : Int32)) L := by rw [show nI k + (3 : Int32) = nI (k + 3) from nI_add k 3]; exact vp_in_nI (by omega) (by omega)
  refine lv_aload_n hx hb dL_law_747 rfl (lv_at hl 1 rfl) ?_
  refine lv_aload_n hx hb dL_law_748 rfl (lv_at hl 0 rfl) ?_
  refine lv_iload_n hx hb dL_law_749 rfl (lv_at hl 3 rfl) ?_
  refine lv_iconst (v := (1 : Int32)) hx hb dL_law_750 (by decide) ?_
  refine lv_iadd hx hb dL_law_751 ?_
  refine va_sld hx hb hX hbl hbA hS hin1 dL_law_752 ?_
  refine mk_topi ez1 ?_
  refine lv_i2l (v := (z1.toInt64)) hx hb dL_law_753 rfl ?_
  refine lv_bipush (v := (32 : Int32)) hx hb dL_law_754 (by decide) ?_
  refine lv_lshl (v := ((z1.toInt64) <<< ((32 : Int32).toInt64 &&& 63))) hx hb dL_law_756 rfl ?_
  refine lv_aload_n hx hb dL_law_757 rfl (lv_at hl 0 rfl) ?_
  refine lv_iload_n hx hb dL_law_758 rfl (lv_at hl 3 rfl) ?_
  refine lv_iconst (v := (2 : Int32)) hx hb dL_law_759 (by decide) ?_
  refine lv_iadd hx hb dL_law_760 ?_
  refine va_sld hx hb hX hbl hbA hS hin2 dL_law_761 ?_
  refine mk_topi ez2 ?_
  refine lv_i2l (v := (z2.toInt64)) hx hb dL_law_762 rfl ?_
  refine lv_ldc2 (v := (4294967295 : Int64)) hx hb hown (hts (.constantLong RL 110 (4294967295)) (mk_tbm 5 77 rfl)) dL_law_763 ?_
  refine lv_land hx hb dL_law_766 ?_
  refine lv_lor hx hb dL_law_767 ?_
  obtain ⟨r, sd1, msd1, h6, h7, hR⟩ := st c0 sd u0 sm (((z1.toInt64) <<< ((32 : Int32).toInt64 &&& 63)) ||| ((z2.toInt64) &&& (4294967295 : Int64))) hR 
  refine el_vl (As := [.long (((z1.toInt64) <<< ((32 : Int32).toInt64 &&& 63)) ||| ((z2.toInt64) &&& (4294967295 : Int64)))]) (rest := []) ⟨hx, hb, hml, hown, hts⟩ (c_X6_seed l D cI cZ cO NN a c0 sd (((z1.toInt64) <<< ((32 : Int32).toInt64 &&& 63)) ||| ((z2.toInt64) &&& (4294967295 : Int64))) H.size (r, sd1) h6) (cwV 1 hts kL_X6_seed rfl rfl rfl (by decide +kernel) ⟨(Nat.le_of_ble_eq_true rfl), (Nat.le_of_ble_eq_true rfl)⟩) (va_recv hK (mk_Pl hP) (ci := 6) (q0 := 0) rfl rfl) hK hP hD hS hA rfl hl.1 rfl (Nat.le_of_ble_eq_true rfl) dL_law_768 ⟨by decide, by decide⟩ (fun H locs hP hD hS => ?_)
  have hP : va_P D vwCl (wX6 cI cO a c0 sd1 ++ wX7 cI cZ bm u0 sm) H := hP
  have hD : va_D (fun q : Nat => s.heap.size ≤ q) (wX6 cI cO a c0 sd1 ++ wX7 cI cZ bm u0 sm) := hD
  refine lv_aload_n hx hb dL_law_771 rfl (lv_at hl 2 rfl) ?_
  refine lv_aload_n hx hb dL_law_772 rfl (lv_at hl 0 rfl) ?_
  refine lv_iload_n hx hb dL_law_773 rfl (lv_at hl 3 rfl) ?_
  refine lv_iconst (v := (1 : Int32)) hx hb dL_law_774 (by decide) ?_
  refine lv_iadd hx hb dL_law_775 ?_
  refine va_sld hx hb hX hbl hbA hS hin1 dL_law_776 ?_
  refine mk_topi ez1 ?_
  refine lv_i2l (v := (z1.toInt64)) hx hb dL_law_777 rfl ?_
  refine lv_bipush (v := (32 : Int32)) hx hb dL_law_778 (by decide) ?_
  refine lv_lshl (v := ((z1.toInt64) <<< ((32 : Int32).toInt64 &&& 63))) hx hb dL_law_780 rfl ?_
  refine lv_aload_n hx hb dL_law_781 rfl (lv_at hl 0 rfl) ?_
  refine lv_iload_n hx hb dL_law_782 rfl (lv_at hl 3 rfl) ?_
  refine lv_iconst (v := (2 : Int32)) hx hb dL_law_783 (by decide) ?_
  refine lv_iadd hx hb dL_law_784 ?_
  refine va_sld hx hb hX hbl hbA hS hin2 dL_law_785 ?_
  refine mk_topi ez2 ?_
  refine lv_i2l (v := (z2.toInt64)) hx hb dL_law_786 rfl ?_
  refine lv_ldc2 (v := (4294967295 : Int64)) hx hb hown (hts (.constantLong RL 110 (4294967295)) (mk_tbm 5 77 rfl)) dL_law_787 ?_
  refine lv_land hx hb dL_law_790 ?_
  refine lv_lor hx hb dL_law_791 ?_
  refine er_vl (As := [.long (((z1.toInt64) <<< ((32 : Int32).toInt64 &&& 63)) ||| ((z2.toInt64) &&& (4294967295 : Int64)))]) (rest := [.long r]) ⟨hx, hb, hml, hown, hts⟩ (c_X7_seed l D cI cZ cO NN bm u0 sm (((z1.toInt64) <<< ((32 : Int32).toInt64 &&& 63)) ||| ((z2.toInt64) &&& (4294967295 : Int64))) H.size (r, msd1) h7) (cwV 1 hts kL_X7_seed rfl rfl rfl (by decide +kernel) ⟨(Nat.le_of_ble_eq_true rfl), (Nat.le_of_ble_eq_true rfl)⟩) (va_recv hK (mk_Pr hP) (ci := 7) (q0 := 0) rfl rfl) hK hP hD hS hA rfl hl.1 rfl (Nat.le_of_ble_eq_true rfl) dL_law_792 ⟨by decide, by decide⟩ (fun H locs hP hD hS => ?_)
  refine W.lcmp hx hb dL_law_795 ?_
  refine lv_if_eq (tgt := 893) hx hb dL_law_796 (by decide) (fun _ => ?_) (fun q => absurd (mk_cmp0 r) q)
  exact kk a c0 sd1 bm u0 msd1 H locs ls hR hP hD hS hl
set_option maxHeartbeats 4000000 in
set_option maxRecDepth 100000 in
theorem law_c24 {Rel : CU → Int64 → TU → Int64 → Prop} (st : ∀ (c0 : CU) (sd : Int64) (u0 : TU) (sm : Int64) (p0 : Int32), Rel c0 sd u0 sm → ∃ (r : Int32) (c1 : CU) (sd1 : Int64) (mu1 : TU) (msd1 : Int64), f_X6_year NN c0 sd p0 = some (r, c1, sd1) ∧ f_X7_year NN u0 sm p0 = some (r, mu1, msd1) ∧ Rel c1 sd1 mu1 msd1) {p : Program} {l : Launch} {e : Env} {s : State} {m : MethodId} {below : List Frame} {meth : Method} {c : Code} {D : va_G} {cI cZ cO : ClassId} {t b L : Nat} {xs : Nat → Int32} (hL : L ≤ 2048) (C0 : lw_At p s m meth c b L xs) (hK : va_K D vwCl (tyA cI cZ cO) s) (hZ : mk_Z cI t (fun q : Nat => s.heap.size ≤ q) s s.heap) (k : Nat) (hk : k + 4 ≤ L) (kk : ∀ (a : Nat → Nat → Nat) (c0 : CU) (sd : Int64) (bm : Nat → Nat) (u0 : TU) (sm : Int64) (H : Heap) (locs : List Loc) (ls : Array Slot), Rel c0 sd u0 sm → va_P D vwCl (wX6 cI cO a c0 sd ++ wX7 cI cZ bm u0 sm) H → va_D (fun q : Nat => s.heap.size ≤ q) (wX6 cI cO a c0 sd ++ wX7 cI cZ bm u0 sm) → va_S (fun q : Nat => s.heap.size ≤ q) s.heap H locs → lv_has ls 4 [(0, .ref b), (1, .ref (a 0 0)), (2, .ref (bm 0)), (3, .int (nI k))] → W p l e room_1 s m #[Value.ref b] below meth c H locs 64 691 (lw_Z below #[Value.ref b] s) (F0 m 893 ls [])) : ∀ (a : Nat → Nat → Nat) (c0 : CU) (sd : Int64) (bm : Nat → Nat) (u0 : TU) (sm : Int64) (H : Heap) (locs : List Loc) (ls : Array Slot), Rel c0 sd u0 sm → va_P D vwCl (wX6 cI cO a c0 sd ++ wX7 cI cZ bm u0 sm) H → va_D (fun q : Nat => s.heap.size ≤ q) (wX6 cI cO a c0 sd ++ wX7 cI cZ bm u0 sm) → va_S (fun q : Nat => s.heap.size ≤ q) s.heap H locs → lv_has ls 4 [(0, .ref b), (1, .ref (a 0 0)), (2, .ref (bm 0)), (3, .int (nI k))] → W p l e room_1 s m #[Value.ref b] below meth c H locs 64 691 (lw_Z below #[Value.ref b] s) (F0 m 801 ls []) := by
  obtain ⟨hx, hb, hr, hml, hown, hts, hX, hbl, hlocks, hgv⟩ := C0
  have hA : ∀ q : Nat, s.heap.size ≤ q → (fun q : Nat => s.heap.size ≤ q) q := fun _ h => h
  have hbA : ¬ (fun q : Nat => s.heap.size ≤ q) b := Nat.not_le.mpr hbl
  intro a c0 sd bm u0 sm H locs ls hR hP hD hS hl
  obtain ⟨z1, ez1⟩ : ∃ z, z = xs (nI k + (1 : Int32)).toNatClampNeg := ⟨_, rfl⟩
  have hin1 : vp_in (nI k + (1 : Int32)) L := by rw [show nI k + (1 : Int32) = nI (k + 1) from nI_add k 1]; exact vp_in_nI (by omega) (by omega)
  obtain ⟨z2, ez2⟩ : ∃ z, z = xs (nI k + (2 : Int32)).toNatClampNeg := ⟨_, rfl⟩
  have hin2 : vp_in (nI k + (2 : Int32)) L := by rw [show nI k + (2 : Int32) = nI (k + 2) from nI_add k 2]; exact vp_in_nI (by omega) (by omega)
  obtain ⟨z3, ez3⟩ : ∃ z, z = xs (nI k + (3 : Int32)).toNatClampNeg := ⟨_, rfl⟩
  have hin3 : vp_in (nI k + (3 : Int32)) L := by rw [show nI k + (3 : Int32) = nI (k + 3) from nI_add k 3]; exact vp_in_nI (by omega) (by omega)
  refine lv_aload_n hx hb dL_law_801 rfl (lv_at hl 1 rfl) ?_
  refine lv_aload_n hx hb dL_law_802 rfl (lv_at hl 0 rfl) ?_
  refine lv_iload_n hx hb dL_law_803 rfl (lv_at hl 3 rfl) ?_
  refine lv_iconst (v := (1 : Int32)) hx hb dL_law_804 (by decide) ?_
  refine lv_iadd hx hb dL_law_805 ?_
  refine va_sld hx hb hX hbl hbA hS hin1 dL_law_806 ?_
  refine mk_topi ez1 ?_
  obtain ⟨r, c1, sd1, mu1, msd1, h6, h7, hR⟩ := st c0 sd u0 sm z1 hR 
  refine el_vi (As := [.int z1]) (rest := []) ⟨hx, hb, hml, hown, hts⟩ (c_X6_year l D cI cZ cO NN a c0 sd z1 H.size (r, c1, sd1) h6) (cwV 1 hts kL_X6_year rfl rfl rfl (by decide +kernel) ⟨(Nat.le_of_ble_eq_true rfl), (Nat.le_of_ble_eq_true rfl)⟩) (va_recv hK (mk_Pl hP) (ci := 6) (q0 := 0) rfl rfl) hK hP hD hS hA rfl hl.1 rfl (Nat.le_of_ble_eq_true rfl) dL_law_807 ⟨by decide, by decide⟩ (fun H locs hP hD hS => ?_)
  have hP : va_P D vwCl (wX6 cI cO a c1 sd1 ++ wX7 cI cZ bm u0 sm) H := hP
  have hD : va_D (fun q : Nat => s.heap.size ≤ q) (wX6 cI cO a c1 sd1 ++ wX7 cI cZ bm u0 sm) := hD
  refine lv_aload_n hx hb dL_law_810 rfl (lv_at hl 2 rfl) ?_
  refine lv_aload_n hx hb dL_law_811 rfl (lv_at hl 0 rfl) ?_
  refine lv_iload_n hx hb dL_law_812 rfl (lv_at hl 3 rfl) ?_
  refine lv_iconst (v := (1 : Int32)) hx hb dL_law_813 (by decide) ?_
  refine lv_iadd hx hb dL_law_814 ?_
  refine va_sld hx hb hX hbl hbA hS hin1 dL_law_815 ?_
  refine mk_topi ez1 ?_
  refine er_vi (As := [.int z1]) (rest := [.int r]) ⟨hx, hb, hml, hown, hts⟩ (c_X7_year l D cI cZ cO NN bm u0 sm z1 H.size (r, mu1, msd1) h7) (cwV 1 hts kL_X7_year rfl rfl rfl (by decide +kernel) ⟨(Nat.le_of_ble_eq_true rfl), (Nat.le_of_ble_eq_true rfl)⟩) (va_recv hK (mk_Pr hP) (ci := 7) (q0 := 0) rfl rfl) hK hP hD hS hA rfl hl.1 rfl (Nat.le_of_ble_eq_true rfl) dL_law_816 ⟨by decide, by decide⟩ (fun H locs hP hD hS => ?_)
  refine lv_icmp_eq (tgt := 893) hx hb dL_law_819 (by decide) (fun _ => ?_) (fun q => absurd rfl q)
  exact kk a c1 sd1 bm mu1 msd1 H locs ls hR hP hD hS hl
set_option maxHeartbeats 4000000 in
set_option maxRecDepth 100000 in
theorem law_c25 {Rel : CU → Int64 → TU → Int64 → Prop} (st : ∀ (c0 : CU) (sd : Int64) (u0 : TU) (sm : Int64) (p0 : Int32), Rel c0 sd u0 sm → ∃ (r : Int32) (c1 : CU) (mu1 : TU), f_X6_keep NN c0 sd p0 = some (r, c1) ∧ f_X7_keep NN u0 sm p0 = some (r, mu1) ∧ Rel c1 sd mu1 sm) {p : Program} {l : Launch} {e : Env} {s : State} {m : MethodId} {below : List Frame} {meth : Method} {c : Code} {D : va_G} {cI cZ cO : ClassId} {t b L : Nat} {xs : Nat → Int32} (hL : L ≤ 2048) (C0 : lw_At p s m meth c b L xs) (hK : va_K D vwCl (tyA cI cZ cO) s) (hZ : mk_Z cI t (fun q : Nat => s.heap.size ≤ q) s s.heap) (k : Nat) (hk : k + 4 ≤ L) (kk : ∀ (a : Nat → Nat → Nat) (c0 : CU) (sd : Int64) (bm : Nat → Nat) (u0 : TU) (sm : Int64) (H : Heap) (locs : List Loc) (ls : Array Slot), Rel c0 sd u0 sm → va_P D vwCl (wX6 cI cO a c0 sd ++ wX7 cI cZ bm u0 sm) H → va_D (fun q : Nat => s.heap.size ≤ q) (wX6 cI cO a c0 sd ++ wX7 cI cZ bm u0 sm) → va_S (fun q : Nat => s.heap.size ≤ q) s.heap H locs → lv_has ls 4 [(0, .ref b), (1, .ref (a 0 0)), (2, .ref (bm 0)), (3, .int (nI k))] → W p l e room_1 s m #[Value.ref b] below meth c H locs 64 691 (lw_Z below #[Value.ref b] s) (F0 m 893 ls [])) : ∀ (a : Nat → Nat → Nat) (c0 : CU) (sd : Int64) (bm : Nat → Nat) (u0 : TU) (sm : Int64) (H : Heap) (locs : List Loc) (ls : Array Slot), Rel c0 sd u0 sm → va_P D vwCl (wX6 cI cO a c0 sd ++ wX7 cI cZ bm u0 sm) H → va_D (fun q : Nat => s.heap.size ≤ q) (wX6 cI cO a c0 sd ++ wX7 cI cZ bm u0 sm) → va_S (fun q : Nat => s.heap.size ≤ q) s.heap H locs → lv_has ls 4 [(0, .ref b), (1, .ref (a 0 0)), (2, .ref (bm 0)), (3, .int (nI k))] → W p l e room_1 s m #[Value.ref b] below meth c H locs 64 691 (lw_Z below #[Value.ref b] s) (F0 m 824 ls []) := by
  obtain ⟨hx, hb, hr, hml, hown, hts, hX, hbl, hlocks, hgv⟩ := C0
  have hA : ∀ q : Nat, s.heap.size ≤ q → (fun q : Nat => s.heap.size ≤ q) q := fun _ h => h
  have hbA : ¬ (fun q : Nat => s.heap.size ≤ q) b := Nat.not_le.mpr hbl
  intro a c0 sd bm u0 sm H locs ls hR hP hD hS hl
  obtain ⟨z1, ez1⟩ : ∃ z, z = xs (nI k + (1 : Int32)).toNatClampNeg := ⟨_, rfl⟩
  have hin1 : vp_in (nI k + (1 : Int32)) L := by rw [show nI k + (1 : Int32) = nI (k + 1) from nI_add k 1]; exact vp_in_nI (by omega) (by omega)
  obtain ⟨z2, ez2⟩ : ∃ z, z = xs (nI k + (2 : Int32)).toNatClampNeg := ⟨_, rfl⟩
  have hin2 : vp_in (nI k + (2 : Int32)) L := by rw [show nI k + (2 : Int32) = nI (k + 2) from nI_add k 2]; exact vp_in_nI (by omega) (by omega)
  obtain ⟨z3, ez3⟩ : ∃ z, z = xs (nI k + (3 : Int32)).toNatClampNeg := ⟨_, rfl⟩
  have hin3 : vp_in (nI k + (3 : Int32)) L := by rw [show nI k + (3 : Int32) = nI (k + 3) from nI_add k 3]; exact vp_in_nI (by omega) (by omega)
  refine lv_aload_n hx hb dL_law_824 rfl (lv_at hl 1 rfl) ?_
  refine lv_aload_n hx hb dL_law_825 rfl (lv_at hl 0 rfl) ?_
  refine lv_iload_n hx hb dL_law_826 rfl (lv_at hl 3 rfl) ?_
  refine lv_iconst (v := (1 : Int32)) hx hb dL_law_827 (by decide) ?_
  refine lv_iadd hx hb dL_law_828 ?_
  refine va_sld hx hb hX hbl hbA hS hin1 dL_law_829 ?_
  refine mk_topi ez1 ?_
  obtain ⟨r, c1, mu1, h6, h7, hR⟩ := st c0 sd u0 sm z1 hR 
  refine el_vi (As := [.int z1]) (rest := []) ⟨hx, hb, hml, hown, hts⟩ (c_X6_keep l D cI cZ cO NN a c0 sd z1 H.size (r, c1) h6) (cwV 1 hts kL_X6_keep rfl rfl rfl (by decide +kernel) ⟨(Nat.le_of_ble_eq_true rfl), (Nat.le_of_ble_eq_true rfl)⟩) (va_recv hK (mk_Pl hP) (ci := 6) (q0 := 0) rfl rfl) hK hP hD hS hA rfl hl.1 rfl (Nat.le_of_ble_eq_true rfl) dL_law_830 ⟨by decide, by decide⟩ (fun H locs hP hD hS => ?_)
  have hP : va_P D vwCl (wX6 cI cO a c1 sd ++ wX7 cI cZ bm u0 sm) H := hP
  have hD : va_D (fun q : Nat => s.heap.size ≤ q) (wX6 cI cO a c1 sd ++ wX7 cI cZ bm u0 sm) := hD
  refine lv_aload_n hx hb dL_law_833 rfl (lv_at hl 2 rfl) ?_
  refine lv_aload_n hx hb dL_law_834 rfl (lv_at hl 0 rfl) ?_
  refine lv_iload_n hx hb dL_law_835 rfl (lv_at hl 3 rfl) ?_
  refine lv_iconst (v := (1 : Int32)) hx hb dL_law_836 (by decide) ?_
  refine lv_iadd hx hb dL_law_837 ?_
  refine va_sld hx hb hX hbl hbA hS hin1 dL_law_838 ?_
  refine mk_topi ez1 ?_
  refine er_vi (As := [.int z1]) (rest := [.int r]) ⟨hx, hb, hml, hown, hts⟩ (c_X7_keep l D cI cZ cO NN bm u0 sm z1 H.size (r, mu1) h7) (cwV 1 hts kL_X7_keep rfl rfl rfl (by decide +kernel) ⟨(Nat.le_of_ble_eq_true rfl), (Nat.le_of_ble_eq_true rfl)⟩) (va_recv hK (mk_Pr hP) (ci := 7) (q0 := 0) rfl rfl) hK hP hD hS hA rfl hl.1 rfl (Nat.le_of_ble_eq_true rfl) dL_law_839 ⟨by decide, by decide⟩ (fun H locs hP hD hS => ?_)
  refine lv_icmp_eq (tgt := 893) hx hb dL_law_842 (by decide) (fun _ => ?_) (fun q => absurd rfl q)
  exact kk a c1 sd bm mu1 sm H locs ls hR hP hD hS hl
set_option maxHeartbeats 4000000 in
set_option maxRecDepth 100000 in
theorem law_c26 {Rel : CU → Int64 → TU → Int64 → Prop} (st : ∀ (c0 : CU) (sd : Int64) (u0 : TU) (sm : Int64) (p0 : Int32), Rel c0 sd u0 sm → ∃ (r : Int32) (c1 : CU) (mu1 : TU), f_X6_again NN c0 sd p0 = some (r, c1) ∧ f_X7_again NN u0 sm p0 = some (r, mu1) ∧ Rel c1 sd mu1 sm) {p : Program} {l : Launch} {e : Env} {s : State} {m : MethodId} {below : List Frame} {meth : Method} {c : Code} {D : va_G} {cI cZ cO : ClassId} {t b L : Nat} {xs : Nat → Int32} (hL : L ≤ 2048) (C0 : lw_At p s m meth c b L xs) (hK : va_K D vwCl (tyA cI cZ cO) s) (hZ : mk_Z cI t (fun q : Nat => s.heap.size ≤ q) s s.heap) (k : Nat) (hk : k + 4 ≤ L) (kk : ∀ (a : Nat → Nat → Nat) (c0 : CU) (sd : Int64) (bm : Nat → Nat) (u0 : TU) (sm : Int64) (H : Heap) (locs : List Loc) (ls : Array Slot), Rel c0 sd u0 sm → va_P D vwCl (wX6 cI cO a c0 sd ++ wX7 cI cZ bm u0 sm) H → va_D (fun q : Nat => s.heap.size ≤ q) (wX6 cI cO a c0 sd ++ wX7 cI cZ bm u0 sm) → va_S (fun q : Nat => s.heap.size ≤ q) s.heap H locs → lv_has ls 4 [(0, .ref b), (1, .ref (a 0 0)), (2, .ref (bm 0)), (3, .int (nI k))] → W p l e room_1 s m #[Value.ref b] below meth c H locs 64 691 (lw_Z below #[Value.ref b] s) (F0 m 893 ls [])) : ∀ (a : Nat → Nat → Nat) (c0 : CU) (sd : Int64) (bm : Nat → Nat) (u0 : TU) (sm : Int64) (H : Heap) (locs : List Loc) (ls : Array Slot), Rel c0 sd u0 sm → va_P D vwCl (wX6 cI cO a c0 sd ++ wX7 cI cZ bm u0 sm) H → va_D (fun q : Nat => s.heap.size ≤ q) (wX6 cI cO a c0 sd ++ wX7 cI cZ bm u0 sm) → va_S (fun q : Nat => s.heap.size ≤ q) s.heap H locs → lv_has ls 4 [(0, .ref b), (1, .ref (a 0 0)), (2, .ref (bm 0)), (3, .int (nI k))] → W p l e room_1 s m #[Value.ref b] below meth c H locs 64 691 (lw_Z below #[Value.ref b] s) (F0 m 847 ls []) := by
  obtain ⟨hx, hb, hr, hml, hown, hts, hX, hbl, hlocks, hgv⟩ := C0
  have hA : ∀ q : Nat, s.heap.size ≤ q → (fun q : Nat => s.heap.size ≤ q) q := fun _ h => h
  have hbA : ¬ (fun q : Nat => s.heap.size ≤ q) b := Nat.not_le.mpr hbl
  intro a c0 sd bm u0 sm H locs ls hR hP hD hS hl
  obtain ⟨z1, ez1⟩ : ∃ z, z = xs (nI k + (1 : Int32)).toNatClampNeg := ⟨_, rfl⟩
  have hin1 : vp_in (nI k + (1 : Int32)) L := by rw [show nI k + (1 : Int32) = nI (k + 1) from nI_add k 1]; exact vp_in_nI (by omega) (by omega)
  obtain ⟨z2, ez2⟩ : ∃ z, z = xs (nI k + (2 : Int32)).toNatClampNeg := ⟨_, rfl⟩
  have hin2 : vp_in (nI k + (2 : Int32)) L := by rw [show nI k + (2 : Int32) = nI (k + 2) from nI_add k 2]; exact vp_in_nI (by omega) (by omega)
  obtain ⟨z3, ez3⟩ : ∃ z, z = xs (nI k + (3 : Int32)).toNatClampNeg := ⟨_, rfl⟩
  have hin3 : vp_in (nI k + (3 : Int32)) L := by rw [show nI k + (3 : Int32) = nI (k + 3) from nI_add k 3]; exact vp_in_nI (by omega) (by omega)
  refine lv_aload_n hx hb dL_law_847 rfl (lv_at hl 1 rfl) ?_
  refine lv_aload_n hx hb dL_law_848 rfl (lv_at hl 0 rfl) ?_
  refine lv_iload_n hx hb dL_law_849 rfl (lv_at hl 3 rfl) ?_
  refine lv_iconst (v := (1 : Int32)) hx hb dL_law_850 (by decide) ?_
  refine lv_iadd hx hb dL_law_851 ?_
  refine va_sld hx hb hX hbl hbA hS hin1 dL_law_852 ?_
  refine mk_topi ez1 ?_
  obtain ⟨r, c1, mu1, h6, h7, hR⟩ := st c0 sd u0 sm z1 hR 
  refine el_vi (As := [.int z1]) (rest := []) ⟨hx, hb, hml, hown, hts⟩ (c_X6_again l D cI cZ cO NN a c0 sd z1 H.size (r, c1) h6) (cwV 1 hts kL_X6_again rfl rfl rfl (by decide +kernel) ⟨(Nat.le_of_ble_eq_true rfl), (Nat.le_of_ble_eq_true rfl)⟩) (va_recv hK (mk_Pl hP) (ci := 6) (q0 := 0) rfl rfl) hK hP hD hS hA rfl hl.1 rfl (Nat.le_of_ble_eq_true rfl) dL_law_853 ⟨by decide, by decide⟩ (fun H locs hP hD hS => ?_)
  have hP : va_P D vwCl (wX6 cI cO a c1 sd ++ wX7 cI cZ bm u0 sm) H := hP
  have hD : va_D (fun q : Nat => s.heap.size ≤ q) (wX6 cI cO a c1 sd ++ wX7 cI cZ bm u0 sm) := hD
  refine lv_aload_n hx hb dL_law_856 rfl (lv_at hl 2 rfl) ?_
  refine lv_aload_n hx hb dL_law_857 rfl (lv_at hl 0 rfl) ?_
  refine lv_iload_n hx hb dL_law_858 rfl (lv_at hl 3 rfl) ?_
  refine lv_iconst (v := (1 : Int32)) hx hb dL_law_859 (by decide) ?_
  refine lv_iadd hx hb dL_law_860 ?_
  refine va_sld hx hb hX hbl hbA hS hin1 dL_law_861 ?_
  refine mk_topi ez1 ?_
  refine er_vi (As := [.int z1]) (rest := [.int r]) ⟨hx, hb, hml, hown, hts⟩ (c_X7_again l D cI cZ cO NN bm u0 sm z1 H.size (r, mu1) h7) (cwV 1 hts kL_X7_again rfl rfl rfl (by decide +kernel) ⟨(Nat.le_of_ble_eq_true rfl), (Nat.le_of_ble_eq_true rfl)⟩) (va_recv hK (mk_Pr hP) (ci := 7) (q0 := 0) rfl rfl) hK hP hD hS hA rfl hl.1 rfl (Nat.le_of_ble_eq_true rfl) dL_law_862 ⟨by decide, by decide⟩ (fun H locs hP hD hS => ?_)
  refine lv_icmp_eq (tgt := 893) hx hb dL_law_865 (by decide) (fun _ => ?_) (fun q => absurd rfl q)
  exact kk a c1 sd bm mu1 sm H locs ls hR hP hD hS hl
set_option maxHeartbeats 4000000 in
set_option maxRecDepth 100000 in
theorem law_c27 {Rel : CU → Int64 → TU → Int64 → Prop} (st : ∀ (c0 : CU) (sd : Int64) (u0 : TU) (sm : Int64) (p0 : Int32), Rel c0 sd u0 sm → ∃ (r : Int32), f_X6_count NN c0 sd p0 = some r ∧ f_X7_count NN u0 sm p0 = some r ∧ Rel c0 sd u0 sm) {p : Program} {l : Launch} {e : Env} {s : State} {m : MethodId} {below : List Frame} {meth : Method} {c : Code} {D : va_G} {cI cZ cO : ClassId} {t b L : Nat} {xs : Nat → Int32} (hL : L ≤ 2048) (C0 : lw_At p s m meth c b L xs) (hK : va_K D vwCl (tyA cI cZ cO) s) (hZ : mk_Z cI t (fun q : Nat => s.heap.size ≤ q) s s.heap) (k : Nat) (hk : k + 4 ≤ L) (kk : ∀ (a : Nat → Nat → Nat) (c0 : CU) (sd : Int64) (bm : Nat → Nat) (u0 : TU) (sm : Int64) (H : Heap) (locs : List Loc) (ls : Array Slot), Rel c0 sd u0 sm → va_P D vwCl (wX6 cI cO a c0 sd ++ wX7 cI cZ bm u0 sm) H → va_D (fun q : Nat => s.heap.size ≤ q) (wX6 cI cO a c0 sd ++ wX7 cI cZ bm u0 sm) → va_S (fun q : Nat => s.heap.size ≤ q) s.heap H locs → lv_has ls 4 [(0, .ref b), (1, .ref (a 0 0)), (2, .ref (bm 0)), (3, .int (nI k))] → W p l e room_1 s m #[Value.ref b] below meth c H locs 64 691 (lw_Z below #[Value.ref b] s) (F0 m 893 ls [])) : ∀ (a : Nat → Nat → Nat) (c0 : CU) (sd : Int64) (bm : Nat → Nat) (u0 : TU) (sm : Int64) (H : Heap) (locs : List Loc) (ls : Array Slot), Rel c0 sd u0 sm → va_P D vwCl (wX6 cI cO a c0 sd ++ wX7 cI cZ bm u0 sm) H → va_D (fun q : Nat => s.heap.size ≤ q) (wX6 cI cO a c0 sd ++ wX7 cI cZ bm u0 sm) → va_S (fun q : Nat => s.heap.size ≤ q) s.heap H locs → lv_has ls 4 [(0, .ref b), (1, .ref (a 0 0)), (2, .ref (bm 0)), (3, .int (nI k))] → W p l e room_1 s m #[Value.ref b] below meth c H locs 64 691 (lw_Z below #[Value.ref b] s) (F0 m 870 ls []) := by
  obtain ⟨hx, hb, hr, hml, hown, hts, hX, hbl, hlocks, hgv⟩ := C0
  have hA : ∀ q : Nat, s.heap.size ≤ q → (fun q : Nat => s.heap.size ≤ q) q := fun _ h => h
  have hbA : ¬ (fun q : Nat => s.heap.size ≤ q) b := Nat.not_le.mpr hbl
  intro a c0 sd bm u0 sm H locs ls hR hP hD hS hl
  obtain ⟨z1, ez1⟩ : ∃ z, z = xs (nI k + (1 : Int32)).toNatClampNeg := ⟨_, rfl⟩
  have hin1 : vp_in (nI k + (1 : Int32)) L := by rw [show nI k + (1 : Int32) = nI (k + 1) from nI_add k 1]; exact vp_in_nI (by omega) (by omega)
  obtain ⟨z2, ez2⟩ : ∃ z, z = xs (nI k + (2 : Int32)).toNatClampNeg := ⟨_, rfl⟩
  have hin2 : vp_in (nI k + (2 : Int32)) L := by rw [show nI k + (2 : Int32) = nI (k + 2) from nI_add k 2]; exact vp_in_nI (by omega) (by omega)
  obtain ⟨z3, ez3⟩ : ∃ z, z = xs (nI k + (3 : Int32)).toNatClampNeg := ⟨_, rfl⟩
  have hin3 : vp_in (nI k + (3 : Int32)) L := by rw [show nI k + (3 : Int32) = nI (k + 3) from nI_add k 3]; exact vp_in_nI (by omega) (by omega)
  refine lv_aload_n hx hb dL_law_870 rfl (lv_at hl 1 rfl) ?_
  refine lv_aload_n hx hb dL_law_871 rfl (lv_at hl 0 rfl) ?_
  refine lv_iload_n hx hb dL_law_872 rfl (lv_at hl 3 rfl) ?_
  refine lv_iconst (v := (1 : Int32)) hx hb dL_law_873 (by decide) ?_
  refine lv_iadd hx hb dL_law_874 ?_
  refine va_sld hx hb hX hbl hbA hS hin1 dL_law_875 ?_
  refine mk_topi ez1 ?_
  obtain ⟨r, h6, h7, hR⟩ := st c0 sd u0 sm z1 hR 
  refine pc_v (As := [.int z1]) (rest := []) ⟨hx, hb, hml, hown, hts⟩ (c_X6_count l D cI cZ cO NN a c0 sd z1 r h6) (cwV 1 hts kL_X6_count rfl rfl rfl (by decide +kernel) ⟨(Nat.le_of_ble_eq_true rfl), (Nat.le_of_ble_eq_true rfl)⟩) (va_recv hK (mk_Pl hP) (ci := 6) (q0 := 0) rfl rfl) (mk_Pl hP) hK rfl hl.1 rfl (Nat.le_of_ble_eq_true rfl) dL_law_876 ⟨by decide, by decide⟩ ?_
  refine lv_aload_n hx hb dL_law_879 rfl (lv_at hl 2 rfl) ?_
  refine lv_aload_n hx hb dL_law_880 rfl (lv_at hl 0 rfl) ?_
  refine lv_iload_n hx hb dL_law_881 rfl (lv_at hl 3 rfl) ?_
  refine lv_iconst (v := (1 : Int32)) hx hb dL_law_882 (by decide) ?_
  refine lv_iadd hx hb dL_law_883 ?_
  refine va_sld hx hb hX hbl hbA hS hin1 dL_law_884 ?_
  refine mk_topi ez1 ?_
  refine pc_v (As := [.int z1]) (rest := [.int r]) ⟨hx, hb, hml, hown, hts⟩ (c_X7_count l D cI cZ cO NN bm u0 sm z1 r h7) (cwV 1 hts kL_X7_count rfl rfl rfl (by decide +kernel) ⟨(Nat.le_of_ble_eq_true rfl), (Nat.le_of_ble_eq_true rfl)⟩) (va_recv hK (mk_Pr hP) (ci := 7) (q0 := 0) rfl rfl) (mk_Pr hP) hK rfl hl.1 rfl (Nat.le_of_ble_eq_true rfl) dL_law_885 ⟨by decide, by decide⟩ ?_
  refine lv_icmp_eq (tgt := 893) hx hb dL_law_888 (by decide) (fun _ => ?_) (fun q => absurd rfl q)
  exact kk a c0 sd bm u0 sm H locs ls hR hP hD hS hl
