/-! constructors: new cells come behind the others -/
def mk_ad (qs : List Nat) : Nat → Nat := fun k => qs.getD k 0
theorem mk_cI {D : va_G} {cl : List vw_C} {cI cZ cO cA : ClassId} {s : State} (h : va_K D cl (tyA cI cZ cO ++ [(cA, .int)]) s) : cA = cI := by
  have h1 : s.vm.findClass ("[" ++ (FieldType.int).toString) = some cI := (h.2 0 (cI, .int) rfl).2
  have h2 : s.vm.findClass ("[" ++ (FieldType.int).toString) = some cA := (h.2 3 (cA, .int) rfl).2
  exact Option.some.inj (h2.symm.trans h1)
theorem mk_cZ {D : va_G} {cl : List vw_C} {cI cZ cO cA : ClassId} {s : State} (h : va_K D cl (tyA cI cZ cO ++ [(cA, .boolean)]) s) : cA = cZ := by
  have h1 : s.vm.findClass ("[" ++ (FieldType.boolean).toString) = some cZ := (h.2 1 (cZ, .boolean) rfl).2
  have h2 : s.vm.findClass ("[" ++ (FieldType.boolean).toString) = some cA := (h.2 3 (cA, .boolean) rfl).2
  exact Option.some.inj (h2.symm.trans h1)
theorem mk_cO {D : va_G} {cl : List vw_C} {cI cZ cO cA : ClassId} {s : State} (h : va_K D cl (tyA cI cZ cO ++ [(cA, .object "ClockOnce$Life")]) s) : cA = cO := by
  obtain ⟨_, _, _, _, _, h1⟩ := (h.2 2 (cO, .object "ClockOnce$Life") rfl).2
  obtain ⟨_, _, _, _, _, h2⟩ := (h.2 3 (cA, .object "ClockOnce$Life") rfl).2
  exact Option.some.inj (h2.symm.trans h1)
theorem mk_joinA {A : Nat → Prop} {D : va_G} {cl : List vw_C} {wr wc w1 : va_W} {H H1 : Heap} (hP : va_P D cl (wr ++ wc) H) (hD : va_D A (wr ++ wc)) (hk : ∀ q : Nat, q < H.size → ¬ va_A wc H.size q → H1[q]? = H[q]?) (hF : ∀ q, va_A wc H.size q → A q) (hP1 : va_P D cl w1 H1) (hD1 : va_D (va_A wc H.size) w1) : va_P D cl (wr ++ w1) H1 ∧ va_D A (wr ++ w1) := by
  have up : ∀ {k : Nat} {q : Nat × va_E}, wr[k]? = some q → (wr ++ wc)[k]? = some q := fun {k q} h => by
    rw [List.getElem?_append_left (List.getElem?_eq_some_iff.mp h).1]; exact h
  have up2 : ∀ {k : Nat} {q : Nat × va_E}, wc[k]? = some q → (wr ++ wc)[wr.length + k]? = some q := fun {k q} h => by
    rw [List.getElem?_append_right (Nat.le_add_right _ _), Nat.add_sub_cancel_left]; exact h
  have apart : ∀ (k : Nat) (q : Nat × va_E), wr[k]? = some q → q.1 < H.size ∧ ¬ va_A wc H.size q.1 := by
    intro k q hq
    have hl := (hP k q (up hq)).lt
    refine ⟨hl, fun h => ?_⟩
    rcases h with ⟨k2, e, h⟩ | h
    · have hij := hD.1 k (wr.length + k2) q (q.1, e) (up hq) (up2 h) rfl
      have := (List.getElem?_eq_some_iff.mp hq).1
      omega
    · omega
  refine ⟨va_P.app (fun k q hq => ?_) hP1, va_D.app ⟨fun i j p q hi hj e => hD.1 i j p q (up hi) (up hj) e, fun k q hk => hD.2 k q (up hk)⟩ (hD1.weaken (fun k q _ h => hF q.1 h)) (fun i j x y hx hy hxy => ?_)⟩
  · obtain ⟨g1, g2⟩ := apart k q hq
    exact (hP k q (up hq)).kept (hk q.1 g1 g2)
  · exact (apart i x hx).2 (by rw [hxy]; exact hD1.2 j y hy)
theorem mk_joinB {A : Nat → Prop} {D : va_G} {cl : List vw_C} {wr wc w1 : va_W} {H H1 : Heap} (hP : va_P D cl (wc ++ wr) H) (hD : va_D A (wc ++ wr)) (hk : ∀ q : Nat, q < H.size → ¬ va_A wc H.size q → H1[q]? = H[q]?) (hF : ∀ q, va_A wc H.size q → A q) (hP1 : va_P D cl w1 H1) (hD1 : va_D (va_A wc H.size) w1) : va_P D cl (w1 ++ wr) H1 ∧ va_D A (w1 ++ wr) := by
  have up : ∀ {k : Nat} {q : Nat × va_E}, wc[k]? = some q → (wc ++ wr)[k]? = some q := fun {k q} h => by
    rw [List.getElem?_append_left (List.getElem?_eq_some_iff.mp h).1]; exact h
  have up2 : ∀ {k : Nat} {q : Nat × va_E}, wr[k]? = some q → (wc ++ wr)[wc.length + k]? = some q := fun {k q} h => by
    rw [List.getElem?_append_right (Nat.le_add_right _ _), Nat.add_sub_cancel_left]; exact h
  have apart : ∀ (k : Nat) (q : Nat × va_E), wr[k]? = some q → q.1 < H.size ∧ ¬ va_A wc H.size q.1 := by
    intro k q hq
    have hl := (hP _ q (up2 hq)).lt
    refine ⟨hl, fun h => ?_⟩
    rcases h with ⟨k2, e, h⟩ | h
    · have hij := hD.1 k2 (wc.length + k) (q.1, e) q (up h) (up2 hq) rfl
      have := (List.getElem?_eq_some_iff.mp h).1
      omega
    · omega
  refine ⟨va_P.app hP1 (fun k q hq => ?_), va_D.app (hD1.weaken (fun k q _ h => hF q.1 h)) ⟨fun i j p q hi hj e => by have := hD.1 _ _ p q (up2 hi) (up2 hj) e; omega, fun k q hk => hD.2 _ q (up2 hk)⟩ (fun i j x y hx hy hxy => ?_)⟩
  · obtain ⟨g1, g2⟩ := apart k q hq
    exact (hP _ q (up2 hq)).kept (hk q.1 g1 g2)
  · exact (apart j y hy).2 (by rw [← hxy]; exact hD1.2 i x hx)
theorem mk_freeA {A0 : Nat → Prop} {wr wc : va_W} {H0 H : Heap} {locs : List Loc} (hD : va_D A0 (wr ++ wc)) (hS : va_S A0 H0 H locs) (hA : ∀ q, H0.size ≤ q → A0 q) : ∀ q, va_A wc H.size q → A0 q := by
  intro q h
  rcases h with ⟨k, e, h⟩ | h
  · exact hD.2 (wr.length + k) (q, e) (by rw [List.getElem?_append_right (Nat.le_add_right _ _), Nat.add_sub_cancel_left]; exact h)
  · exact hA q (Nat.le_trans hS.1 h)
theorem mk_freeB {A0 : Nat → Prop} {wr wc : va_W} {H0 H : Heap} {locs : List Loc} (hD : va_D A0 (wc ++ wr)) (hS : va_S A0 H0 H locs) (hA : ∀ q, H0.size ≤ q → A0 q) : ∀ q, va_A wc H.size q → A0 q := by
  intro q h
  rcases h with ⟨k, e, h⟩ | h
  · exact hD.2 k (q, e) (by rw [List.getElem?_append_left (List.getElem?_eq_some_iff.mp h).1]; exact h)
  · exact hA q (Nat.le_trans hS.1 h)
theorem mk_Pr {D : va_G} {cl : List vw_C} {w1 w2 : va_W} {H : Heap} (h : va_P D cl (w1 ++ w2) H) : va_P D cl w2 H := fun k q hk => h (w1.length + k) q (by rw [List.getElem?_append_right (Nat.le_add_right _ _), Nat.add_sub_cancel_left]; exact hk)
theorem mk_Pl {D : va_G} {cl : List vw_C} {w1 w2 : va_W} {H : Heap} (h : va_P D cl (w1 ++ w2) H) : va_P D cl w1 H := fun k q hk => h k q (by rw [List.getElem?_append_left (List.getElem?_eq_some_iff.mp hk).1]; exact hk)
theorem mk_Dr {A : Nat → Prop} {w1 w2 : va_W} (h : va_D A (w1 ++ w2)) : va_D A w2 := by
  have up2 : ∀ {k : Nat} {q : Nat × va_E}, w2[k]? = some q → (w1 ++ w2)[w1.length + k]? = some q := fun {k q} h => by
    rw [List.getElem?_append_right (Nat.le_add_right _ _), Nat.add_sub_cancel_left]; exact h
  exact ⟨fun i j p q hi hj e => by have := h.1 _ _ p q (up2 hi) (up2 hj) e; omega, fun k q hk => h.2 _ q (up2 hk)⟩
theorem mk_Dl {A : Nat → Prop} {w1 w2 : va_W} (h : va_D A (w1 ++ w2)) : va_D A w1 := by
  have up : ∀ {k : Nat} {q : Nat × va_E}, w1[k]? = some q → (w1 ++ w2)[k]? = some q := fun {k q} h => by
    rw [List.getElem?_append_left (List.getElem?_eq_some_iff.mp h).1]; exact h
  exact ⟨fun i j p q hi hj e => h.1 _ _ p q (up hi) (up hj) e, fun k q hk => h.2 _ q (up hk)⟩
section MK3
variable {l : Launch} {y : MethodName} {ws ws' : List Cond} {R : Room} {cc : ByteArray} {maxL : Nat} {own : String} {av : List Value} {D : va_G} {cl : List vw_C} {w : va_W} {tys : List (ClassId × FieldType)}
theorem em_c {S : Type} {wf : S → va_W} {post : S → Prop} {sz mc ms : Nat} (hy : plainName y.cls = true) (hw : ws = Cond.code y cc maxL none :: ws') (hown : y.cls = own) (hlen : (lg_sl av).length ≤ maxL) (hyn : y.name = "<init>")
    (K : ∀ (p : Program) (e : Env) (s : State) (m : MethodId) (args : Array Value) (below : List Frame) (meth : Method) (c : Code) (Q : State → Prop) (A : Nat → Prop) (H0 H : Heap) (locs : List Loc) (ls : Array Slot), p.tables.exec = Jvm.exec → c.code = cc → c.maxLocals = maxL → s.vm.findClass own = some m.cls → (∀ w ∈ ws, w.before args s = true) → meth.name = "<init>" → va_P D cl w H → va_K D cl tys s → va_D A w → va_S A H0 H locs → (∀ q : Nat, H0.size ≤ q → A q) → lv_has ls maxL (lv_args 0 av) →
      (∀ (pc : Nat) (ls : Array Slot) (H : Heap) (locs : List Loc) (u : S), post u → va_P D cl (wf u) H → va_D A (wf u) → va_S A H0 H locs → decode cc pc = .ok (.return_, 1) → W p l e R s m args below meth c H locs mc ms Q (F0 m pc ls [])) → W p l e R s m args below meth c H locs 0 0 Q (F0 m 0 ls [])) :
    Met l y ws R (va_Pc av (mk_Pe D cl tys w sz)) (va_Qv post (mk_Be D cl w sz wf) (va_A w sz)) mc ms (va_A w sz) := by
  refine Met.ofW (cc := cc) (maxL := maxL) (ret := none) hy hw ?_
  intro p e s m args below meth c s₁ B hml hv
  obtain ⟨rfl, rfl, hP, hK, hD⟩ := hv
  have hown' : s.vm.findClass y.cls = some m.cls := findClass_of_methodNamed B.named
  rw [hown] at hown'
  have hin : meth.name = "<init>" := (name_of_methodNamed B.named B.method).1.trans hyn
  have hl := lv_entry av (n := maxL) hlen
  rw [lg_entry_eq]
  exact K p e s m _ below meth c _ (va_A w s.heap.size) s.heap s.heap [] _ B.exec B.bytes hml hown' (atoms_spec (ws := ws) B.pre) hin hP hK (hD.self (sz := s.heap.size)) va_S.rf (fun q h => Or.inr h) hl (fun pc ls H locs u hv hP hD hS hd => W.vret B.exec B.bytes B.returns (fun t ht _ => ⟨⟨_, rfl, hv, by rw [ht]; exact hP, hD⟩, hS.F ht⟩) hS.2.2 hd B.notSynchronized)
theorem em_cX {S : Type} {X : State → Prop} {wf : S → va_W} {post : S → Prop} {sz mc ms : Nat} (hy : plainName y.cls = true) (hw : ws = Cond.code y cc maxL none :: ws') (hown : y.cls = own) (hlen : (lg_sl av).length ≤ maxL) (hyn : y.name = "<init>")
    (K : ∀ (p : Program) (e : Env) (s : State) (m : MethodId) (args : Array Value) (below : List Frame) (meth : Method) (c : Code) (Q : State → Prop) (A : Nat → Prop) (H0 H : Heap) (locs : List Loc) (ls : Array Slot), p.tables.exec = Jvm.exec → c.code = cc → c.maxLocals = maxL → s.vm.findClass own = some m.cls → (∀ w ∈ ws, w.before args s = true) → meth.name = "<init>" → X s → va_P D cl w H → va_K D cl tys s → va_D A w → va_S A H0 H locs → (∀ q : Nat, H0.size ≤ q → A q) → lv_has ls maxL (lv_args 0 av) →
      (∀ (pc : Nat) (ls : Array Slot) (H : Heap) (locs : List Loc) (u : S), post u → va_P D cl (wf u) H → va_D A (wf u) → va_S A H0 H locs → decode cc pc = .ok (.return_, 1) → W p l e R s m args below meth c H locs mc ms Q (F0 m pc ls [])) → W p l e R s m args below meth c H locs 0 0 Q (F0 m 0 ls [])) :
    Met l y ws R (va_Pc av (fun U => mk_Pe D cl tys w sz U ∧ X U)) (va_Qv post (mk_Be D cl w sz wf) (va_A w sz)) mc ms (va_A w sz) := by
  refine Met.ofW (cc := cc) (maxL := maxL) (ret := none) hy hw ?_
  intro p e s m args below meth c s₁ B hml hv
  obtain ⟨rfl, ⟨rfl, hP, hK, hD⟩, hX⟩ := hv
  have hown' : s.vm.findClass y.cls = some m.cls := findClass_of_methodNamed B.named
  rw [hown] at hown'
  have hin : meth.name = "<init>" := (name_of_methodNamed B.named B.method).1.trans hyn
  have hl := lv_entry av (n := maxL) hlen
  rw [lg_entry_eq]
  exact K p e s m _ below meth c _ (va_A w s.heap.size) s.heap s.heap [] _ B.exec B.bytes hml hown' (atoms_spec (ws := ws) B.pre) hin hX hP hK (hD.self (sz := s.heap.size)) va_S.rf (fun q h => Or.inr h) hl (fun pc ls H locs u hv hP hD hS hd => W.vret B.exec B.bytes B.returns (fun t ht _ => ⟨⟨_, rfl, hv, by rw [ht]; exact hP, hD⟩, hS.F ht⟩) hS.2.2 hd B.notSynchronized)
end MK3
section MC3
variable {p : Program} {l : Launch} {e : Env} {R : Room} {s : State} {m : MethodId} {args : Array Value} {below : List Frame} {meth : Method} {c : Code} {H H0 : Heap} {locs : List Loc} {cells slots : Nat} {Q : State → Prop} {A : Nat → Prop}
variable {D : va_G} {cl : List vw_C} {tys : List (ClassId × FieldType)} {w wr : va_W} {y : MethodName} {bytes cc : ByteArray} {maxL nL index pc mc ms : Nat} {ws Ts : List Cond} {rm : Room} {own C : String} {b : Addr} {rest st : List Value} {ls : Array Slot}
/-- a constructor's call: its object is the last cell -/
theorem ec_I {S : Type} {wf : S → va_W} {post : S → Prop} {x : Nat × va_E} (Sx : CallFix p m c cc nL s args Ts own) (hM : Met l y ws rm (va_Pc [.ref b] (mk_Pe D cl tys [x] H.size)) (va_Qv post (mk_Be D cl [x] H.size wf) (va_A [x] H.size)) mc ms (va_A [x] H.size)) (cw : CallB R s args own index y bytes maxL none ws rm mc ms 0 ∧ y.name = "<init>" ∧ (Cond.instanceMethod y).before args s = true) (hK : va_K D cl tys s) (hP : va_P D cl (wr ++ [x]) H) (hD : va_D A (wr ++ [x])) (hS : va_S A H0 H locs) (hA : ∀ q : Nat, H0.size ≤ q → A q)
    (hsize : ls.size = nL) (hst : st = .ref b :: rest) (hr : (rest.map fun v => v.category).sum ≤ 8) (hdg : decode cc pc = .ok (.invokespecial index, 3)) (hf : cells + mc ≤ R.cells ∧ slots + ms ≤ R.slots)
    (kk : ∀ (u : S) (H : Heap) (locs : List Loc), post u → va_P D cl (wr ++ wf u) H → va_D A (wr ++ wf u) → va_S A H0 H locs → W p l e R s m args below meth c H locs (cells + mc) (slots + ms) Q (F0 m (pc + 3) ls rest)) : W p l e R s m args below meth c H locs cells slots Q (F0 m pc ls st) := by
  have hF := mk_freeA hD hS hA
  refine va_callv (va_runI (As := []) Sx hM cw ⟨mk_blE, fun U hU hW => ⟨rfl, by rw [hU], by rw [hU]; exact mk_Pr hP, va_K.moved hW.alike hK, (mk_Dr hD).weaken (fun _ _ _ _ => trivial)⟩⟩ rfl rfl hsize hst (lv_room hr) hdg hf) hS (fun q _ h => hF q h) hF (fun u t H1 locs1 ht hvm hw hB hz1 hk1 hS1 => ?_)
  obtain ⟨hB1, hB2⟩ := hB
  rw [ht] at hB1
  obtain ⟨hP', hD'⟩ := mk_joinA hP hD hk1 hF hB1 hB2
  exact kk u H1 locs1 hw hP' hD' hS1
/-- .. a private one of a nest mate -/
theorem ec_IN {S : Type} {wf : S → va_W} {post : S → Prop} {x : Nat × va_E} {host : String} (Sx : CallFix p m c cc nL s args Ts own) (hM : Met l y ws rm (va_Pc [.ref b] (mk_Pe D cl tys [x] H.size)) (va_Qv post (mk_Be D cl [x] H.size wf) (va_A [x] H.size)) mc ms (va_A [x] H.size)) (cw : va_CN R s args own index y host bytes maxL none ws rm mc ms 0 ∧ y.name = "<init>" ∧ (Cond.instanceMethod y).before args s = true) (hK : va_K D cl tys s) (hP : va_P D cl (wr ++ [x]) H) (hD : va_D A (wr ++ [x])) (hS : va_S A H0 H locs) (hA : ∀ q : Nat, H0.size ≤ q → A q)
    (hsize : ls.size = nL) (hst : st = .ref b :: rest) (hr : (rest.map fun v => v.category).sum ≤ 8) (hdg : decode cc pc = .ok (.invokespecial index, 3)) (hf : cells + mc ≤ R.cells ∧ slots + ms ≤ R.slots)
    (kk : ∀ (u : S) (H : Heap) (locs : List Loc), post u → va_P D cl (wr ++ wf u) H → va_D A (wr ++ wf u) → va_S A H0 H locs → W p l e R s m args below meth c H locs (cells + mc) (slots + ms) Q (F0 m (pc + 3) ls rest)) : W p l e R s m args below meth c H locs cells slots Q (F0 m pc ls st) := by
  have hF := mk_freeA hD hS hA
  refine va_callv (va_runIN (As := []) Sx hM cw ⟨mk_blE, fun U hU hW => ⟨rfl, by rw [hU], by rw [hU]; exact mk_Pr hP, va_K.moved hW.alike hK, (mk_Dr hD).weaken (fun _ _ _ _ => trivial)⟩⟩ rfl rfl hsize hst (lv_room hr) hdg hf) hS (fun q _ h => hF q h) hF (fun u t H1 locs1 ht hvm hw hB hz1 hk1 hS1 => ?_)
  obtain ⟨hB1, hB2⟩ := hB
  rw [ht] at hB1
  obtain ⟨hP', hD'⟩ := mk_joinA hP hD hk1 hF hB1 hB2
  exact kk u H1 locs1 hw hP' hD' hS1
/-- .. one that asks more of the tables -/
theorem ec_IX {S : Type} {wf : S → va_W} {post : S → Prop} {x : Nat × va_E} {X : State → Prop} (Sx : CallFix p m c cc nL s args Ts own) (hM : Met l y ws rm (va_Pc [.ref b] (fun U => mk_Pe D cl tys [x] H.size U ∧ X U)) (va_Qv post (mk_Be D cl [x] H.size wf) (va_A [x] H.size)) mc ms (va_A [x] H.size)) (cw : CallB R s args own index y bytes maxL none ws rm mc ms 0 ∧ y.name = "<init>" ∧ (Cond.instanceMethod y).before args s = true) (hXb : ∀ (a : Array Value) (U : State) (g : JFrame) (mk : MethodId), X U → X (U.calling g mk a)) (hX : ∀ U : State, s.WarmedH U.vm → X U) (hK : va_K D cl tys s) (hP : va_P D cl (wr ++ [x]) H) (hD : va_D A (wr ++ [x])) (hS : va_S A H0 H locs) (hA : ∀ q : Nat, H0.size ≤ q → A q)
    (hsize : ls.size = nL) (hst : st = .ref b :: rest) (hr : (rest.map fun v => v.category).sum ≤ 8) (hdg : decode cc pc = .ok (.invokespecial index, 3)) (hf : cells + mc ≤ R.cells ∧ slots + ms ≤ R.slots)
    (kk : ∀ (u : S) (H : Heap) (locs : List Loc), post u → va_P D cl (wr ++ wf u) H → va_D A (wr ++ wf u) → va_S A H0 H locs → W p l e R s m args below meth c H locs (cells + mc) (slots + ms) Q (F0 m (pc + 3) ls rest)) : W p l e R s m args below meth c H locs cells slots Q (F0 m pc ls st) := by
  have hF := mk_freeA hD hS hA
  refine va_callv (va_runI (As := []) Sx hM cw ⟨fun a U g mk q => ⟨q.1, (mk_blE (As := [.ref b]) a U g mk ⟨q.1, q.2.1⟩).2, hXb a U g mk q.2.2⟩, fun U hU hW => ⟨rfl, ⟨by rw [hU], by rw [hU]; exact mk_Pr hP, va_K.moved hW.alike hK, (mk_Dr hD).weaken (fun _ _ _ _ => trivial)⟩, hX U hW⟩⟩ rfl rfl hsize hst (lv_room hr) hdg hf) hS (fun q _ h => hF q h) hF (fun u t H1 locs1 ht hvm hw hB hz1 hk1 hS1 => ?_)
  obtain ⟨hB1, hB2⟩ := hB
  rw [ht] at hB1
  obtain ⟨hP', hD'⟩ := mk_joinA hP hD hk1 hF hB1 hB2
  exact kk u H1 locs1 hw hP' hD' hS1
end MC3
def mk_N6 (U : State) : Prop := va_Nw (.methodLinkNest RX6 19 yX3_init "ClockOnce") U ∧ va_Nw (.methodLinkNest RX6 43 yX0_init "ClockOnce") U ∧ va_Nw (.methodLinkNest RX6 54 yX4_init "ClockOnce") U ∧ va_Nw (.methodLinkNest RX6 61 yX1_init "ClockOnce") U ∧ va_AO "ClockOnce$Life" U
theorem mk_N6b (a : Array Value) (U : State) (g : JFrame) (mk : MethodId) (h : mk_N6 U) : mk_N6 (U.calling g mk a) := ⟨va_Nw.same rfl (u := U) rfl h.1, va_Nw.same rfl (u := U) rfl h.2.1, va_Nw.same rfl (u := U) rfl h.2.2.1, va_Nw.same rfl (u := U) rfl h.2.2.2.1, va_AO.moved (u := U) (Vm.Alike.refl U.vm) h.2.2.2.2⟩
theorem mk_N6w {s U : State} (hW : s.WarmedH U.vm) (h : mk_N6 s) : mk_N6 U := ⟨va_Nw.warmM hW h.1, va_Nw.warmM hW h.2.1, va_Nw.warmM hW h.2.2.1, va_Nw.warmM hW h.2.2.2.1, va_AO.moved hW.alike h.2.2.2.2⟩
