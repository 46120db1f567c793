/-! the law's calls: the class's cells stand left, the reference's right -/
theorem mk_cmp0 (x : Int64) : lg_cmp x x = 0 := by
  unfold lg_cmp
  rw [if_neg Int64.lt_irrefl, if_pos rfl]
section LK
variable {p : Program} {l : Launch} {e : Env} {R : Room} {s : State} {m : MethodId} {args : Array Value} {below : List Frame} {meth : Method} {c : Code} {H H0 : Heap} {locs : List Loc} {cells slots : Nat} {Q : State → Prop} {A : Nat → Prop}
variable {D : va_G} {cl : List vw_C} {tys : List (ClassId × FieldType)} {w wc wr : va_W} {y : MethodName} {bytes cc : ByteArray} {maxL nL n index pc : Nat} {ret : Option FieldType} {ws Ts : List Cond} {rm : Room} {own C : String} {b : Addr} {As rest st : List Value} {ls : Array Slot}
theorem el_vi {S : Type} {wf : S → va_W} {out : Int32 × S} (Sx : CallFix p m c cc nL s args Ts own) (hM : Met l y ws rm (va_Pc (.ref b :: As) (mk_Pe D cl tys wc H.size)) (va_Qi (fun r u => (r, u) = out) (mk_Be D cl wc H.size wf) (va_A wc H.size)) 0 0 (va_A wc H.size)) (cw : CallW R s args own C index y bytes maxL ret ws rm 0 0 n) (hrec : ∃ cell : Cell, H[b]? = some cell ∧ cell.vm.isStatics = false ∧ s.vm.findClass C = some cell.cls) (hK : va_K D cl tys s) (hP : va_P D cl (wc ++ wr) H) (hD : va_D A (wc ++ wr)) (hS : va_S A H0 H locs) (hA : ∀ q : Nat, H0.size ≤ q → A q)
    (hn : As.length = n) (hsize : ls.size = nL) (hst : st = As.reverse ++ .ref b :: rest) (hr : (rest.map fun v => v.category).sum ≤ 8) (hdg : decode cc pc = .ok (.invokevirtual index, 3)) (hf : cells + 0 ≤ R.cells ∧ slots + 0 ≤ R.slots)
    (kk : ∀ (H : Heap) (locs : List Loc), va_P D cl (wf out.2 ++ wr) H → va_D A (wf out.2 ++ wr) → va_S A H0 H locs → W p l e R s m args below meth c H locs cells slots Q (F0 m (pc + 3) ls (.int out.1 :: rest))) : W p l e R s m args below meth c H locs cells slots Q (F0 m pc ls st) := by
  have hF := mk_freeB hD hS hA
  refine va_calli (va_runV Sx hM cw ⟨mk_blE, hrec, fun U hU hW => ⟨rfl, by rw [hU], by rw [hU]; exact mk_Pl hP, va_K.moved hW.alike hK, (mk_Dl hD).weaken (fun _ _ _ _ => trivial)⟩⟩ rfl hn hsize hst (lv_room hr) hdg hf) hS (fun q _ h => hF q h) hF (fun r u t H1 locs1 ht hvm hw hB hz1 hk1 hS1 => ?_)
  obtain ⟨hB1, hB2⟩ := hB
  have e1 : r = out.1 := congrArg Prod.fst hw
  have e2 : u = out.2 := congrArg Prod.snd hw
  rw [ht] at hB1
  rw [e2] at hB1 hB2
  obtain ⟨hP', hD'⟩ := mk_joinB hP hD hk1 hF hB1 hB2
  rw [e1]
  exact kk H1 locs1 hP' hD' hS1
theorem el_vl {S : Type} {wf : S → va_W} {out : Int64 × S} (Sx : CallFix p m c cc nL s args Ts own) (hM : Met l y ws rm (va_Pc (.ref b :: As) (mk_Pe D cl tys wc H.size)) (va_Ql (fun r u => (r, u) = out) (mk_Be D cl wc H.size wf) (va_A wc H.size)) 0 0 (va_A wc H.size)) (cw : CallW R s args own C index y bytes maxL ret ws rm 0 0 n) (hrec : ∃ cell : Cell, H[b]? = some cell ∧ cell.vm.isStatics = false ∧ s.vm.findClass C = some cell.cls) (hK : va_K D cl tys s) (hP : va_P D cl (wc ++ wr) H) (hD : va_D A (wc ++ wr)) (hS : va_S A H0 H locs) (hA : ∀ q : Nat, H0.size ≤ q → A q)
    (hn : As.length = n) (hsize : ls.size = nL) (hst : st = As.reverse ++ .ref b :: rest) (hr : (rest.map fun v => v.category).sum ≤ 8) (hdg : decode cc pc = .ok (.invokevirtual index, 3)) (hf : cells + 0 ≤ R.cells ∧ slots + 0 ≤ R.slots)
    (kk : ∀ (H : Heap) (locs : List Loc), va_P D cl (wf out.2 ++ wr) H → va_D A (wf out.2 ++ wr) → va_S A H0 H locs → W p l e R s m args below meth c H locs cells slots Q (F0 m (pc + 3) ls (.long out.1 :: rest))) : W p l e R s m args below meth c H locs cells slots Q (F0 m pc ls st) := by
  have hF := mk_freeB hD hS hA
  refine va_calll (va_runV Sx hM cw ⟨mk_blE, hrec, fun U hU hW => ⟨rfl, by rw [hU], by rw [hU]; exact mk_Pl hP, va_K.moved hW.alike hK, (mk_Dl hD).weaken (fun _ _ _ _ => trivial)⟩⟩ rfl hn hsize hst (lv_room hr) hdg hf) hS (fun q _ h => hF q h) hF (fun r u t H1 locs1 ht hvm hw hB hz1 hk1 hS1 => ?_)
  obtain ⟨hB1, hB2⟩ := hB
  have e1 : r = out.1 := congrArg Prod.fst hw
  have e2 : u = out.2 := congrArg Prod.snd hw
  rw [ht] at hB1
  rw [e2] at hB1 hB2
  obtain ⟨hP', hD'⟩ := mk_joinB hP hD hk1 hF hB1 hB2
  rw [e1]
  exact kk H1 locs1 hP' hD' hS1
theorem el_viZ {S : Type} {wf : S → va_W} {out : Int32 × S} {cI : ClassId} {t : Nat} (Sx : CallFix p m c cc nL s args Ts own) (hM : Met l y ws rm (va_Pc (.ref b :: As) (fun U => mk_Pe D cl tys wc H.size U ∧ mk_Z cI t (va_A wc H.size) U U.heap)) (va_Qi (fun r u => (r, u) = out) (mk_Be D cl wc H.size wf) (va_A wc H.size)) 0 0 (va_A wc H.size)) (cw : CallW R s args own C index y bytes maxL ret ws rm 0 0 n) (hrec : ∃ cell : Cell, H[b]? = some cell ∧ cell.vm.isStatics = false ∧ s.vm.findClass C = some cell.cls) (hK : va_K D cl tys s) (hP : va_P D cl (wc ++ wr) H) (hD : va_D A (wc ++ wr)) (hS : va_S A H0 H locs) (hA : ∀ q : Nat, H0.size ≤ q → A q) (hZ : mk_Z cI t A s s.heap) (hSZ : va_S A s.heap H locs)
    (hn : As.length = n) (hsize : ls.size = nL) (hst : st = As.reverse ++ .ref b :: rest) (hr : (rest.map fun v => v.category).sum ≤ 8) (hdg : decode cc pc = .ok (.invokevirtual index, 3)) (hf : cells + 0 ≤ R.cells ∧ slots + 0 ≤ R.slots)
    (kk : ∀ (H : Heap) (locs : List Loc), va_P D cl (wf out.2 ++ wr) H → va_D A (wf out.2 ++ wr) → va_S A H0 H locs → W p l e R s m args below meth c H locs cells slots Q (F0 m (pc + 3) ls (.int out.1 :: rest))) : W p l e R s m args below meth c H locs cells slots Q (F0 m pc ls st) := by
  have hF := mk_freeB hD hS hA
  refine va_calli (va_runV Sx hM cw ⟨fun a U g mk q => ⟨q.1, (mk_blE (As := .ref b :: As) a U g mk ⟨q.1, q.2.1⟩).2, mk_Zblind q.2.2⟩, hrec, fun U hU hW => ⟨rfl, ⟨by rw [hU], by rw [hU]; exact mk_Pl hP, va_K.moved hW.alike hK, (mk_Dl hD).weaken (fun _ _ _ _ => trivial)⟩, mk_Zn hZ hSZ hF hU hW.alike⟩⟩ rfl hn hsize hst (lv_room hr) hdg hf) hS (fun q _ h => hF q h) hF (fun r u t H1 locs1 ht hvm hw hB hz1 hk1 hS1 => ?_)
  obtain ⟨hB1, hB2⟩ := hB
  have e1 : r = out.1 := congrArg Prod.fst hw
  have e2 : u = out.2 := congrArg Prod.snd hw
  rw [ht] at hB1
  rw [e2] at hB1 hB2
  obtain ⟨hP', hD'⟩ := mk_joinB hP hD hk1 hF hB1 hB2
  rw [e1]
  exact kk H1 locs1 hP' hD' hS1
theorem er_vi {S : Type} {wf : S → va_W} {out : Int32 × S} (Sx : CallFix p m c cc nL s args Ts own) (hM : Met l y ws rm (va_Pc (.ref b :: As) (mk_Pe D cl tys wc H.size)) (va_Qi (fun r u => (r, u) = out) (mk_Be D cl wc H.size wf) (va_A wc H.size)) 0 0 (va_A wc H.size)) (cw : CallW R s args own C index y bytes maxL ret ws rm 0 0 n) (hrec : ∃ cell : Cell, H[b]? = some cell ∧ cell.vm.isStatics = false ∧ s.vm.findClass C = some cell.cls) (hK : va_K D cl tys s) (hP : va_P D cl (wr ++ wc) H) (hD : va_D A (wr ++ wc)) (hS : va_S A H0 H locs) (hA : ∀ q : Nat, H0.size ≤ q → A q)
    (hn : As.length = n) (hsize : ls.size = nL) (hst : st = As.reverse ++ .ref b :: rest) (hr : (rest.map fun v => v.category).sum ≤ 8) (hdg : decode cc pc = .ok (.invokevirtual index, 3)) (hf : cells + 0 ≤ R.cells ∧ slots + 0 ≤ R.slots)
    (kk : ∀ (H : Heap) (locs : List Loc), va_P D cl (wr ++ wf out.2) H → va_D A (wr ++ wf out.2) → va_S A H0 H locs → W p l e R s m args below meth c H locs cells slots Q (F0 m (pc + 3) ls (.int out.1 :: rest))) : W p l e R s m args below meth c H locs cells slots Q (F0 m pc ls st) := by
  have hF := mk_freeA hD hS hA
  refine va_calli (va_runV Sx hM cw ⟨mk_blE, hrec, fun U hU hW => ⟨rfl, by rw [hU], by rw [hU]; exact mk_Pr hP, va_K.moved hW.alike hK, (mk_Dr hD).weaken (fun _ _ _ _ => trivial)⟩⟩ rfl hn hsize hst (lv_room hr) hdg hf) hS (fun q _ h => hF q h) hF (fun r u t H1 locs1 ht hvm hw hB hz1 hk1 hS1 => ?_)
  obtain ⟨hB1, hB2⟩ := hB
  have e1 : r = out.1 := congrArg Prod.fst hw
  have e2 : u = out.2 := congrArg Prod.snd hw
  rw [ht] at hB1
  rw [e2] at hB1 hB2
  obtain ⟨hP', hD'⟩ := mk_joinA hP hD hk1 hF hB1 hB2
  rw [e1]
  exact kk H1 locs1 hP' hD' hS1
theorem er_vl {S : Type} {wf : S → va_W} {out : Int64 × S} (Sx : CallFix p m c cc nL s args Ts own) (hM : Met l y ws rm (va_Pc (.ref b :: As) (mk_Pe D cl tys wc H.size)) (va_Ql (fun r u => (r, u) = out) (mk_Be D cl wc H.size wf) (va_A wc H.size)) 0 0 (va_A wc H.size)) (cw : CallW R s args own C index y bytes maxL ret ws rm 0 0 n) (hrec : ∃ cell : Cell, H[b]? = some cell ∧ cell.vm.isStatics = false ∧ s.vm.findClass C = some cell.cls) (hK : va_K D cl tys s) (hP : va_P D cl (wr ++ wc) H) (hD : va_D A (wr ++ wc)) (hS : va_S A H0 H locs) (hA : ∀ q : Nat, H0.size ≤ q → A q)
    (hn : As.length = n) (hsize : ls.size = nL) (hst : st = As.reverse ++ .ref b :: rest) (hr : (rest.map fun v => v.category).sum ≤ 8) (hdg : decode cc pc = .ok (.invokevirtual index, 3)) (hf : cells + 0 ≤ R.cells ∧ slots + 0 ≤ R.slots)
    (kk : ∀ (H : Heap) (locs : List Loc), va_P D cl (wr ++ wf out.2) H → va_D A (wr ++ wf out.2) → va_S A H0 H locs → W p l e R s m args below meth c H locs cells slots Q (F0 m (pc + 3) ls (.long out.1 :: rest))) : W p l e R s m args below meth c H locs cells slots Q (F0 m pc ls st) := by
  have hF := mk_freeA hD hS hA
  refine va_calll (va_runV Sx hM cw ⟨mk_blE, hrec, fun U hU hW => ⟨rfl, by rw [hU], by rw [hU]; exact mk_Pr hP, va_K.moved hW.alike hK, (mk_Dr hD).weaken (fun _ _ _ _ => trivial)⟩⟩ rfl hn hsize hst (lv_room hr) hdg hf) hS (fun q _ h => hF q h) hF (fun r u t H1 locs1 ht hvm hw hB hz1 hk1 hS1 => ?_)
  obtain ⟨hB1, hB2⟩ := hB
  have e1 : r = out.1 := congrArg Prod.fst hw
  have e2 : u = out.2 := congrArg Prod.snd hw
  rw [ht] at hB1
  rw [e2] at hB1 hB2
  obtain ⟨hP', hD'⟩ := mk_joinA hP hD hk1 hF hB1 hB2
  rw [e1]
  exact kk H1 locs1 hP' hD' hS1
end LK
