/-! references to a kept life; the static row ORDERS -/
def mk_sl (a : Nat → Nat → Nat) (v : Int32) : Option Nat := if v = 0 then some (a 6 0) else if v = 1 then some (a 7 0) else none
theorem mk_rf01 (r : Option Nat) : va_rf r = .null ∨ ∃ a, va_rf r = .ref a := by
  cases r with
  | none => exact Or.inl rfl
  | some x => exact Or.inr ⟨x, rfl⟩
theorem mk_slin {a : Nat → Nat → Nat} {i : Int32} (h : vp_in i 2) : (if i.toNatClampNeg = 0 then some (a 6 0) else some (a 7 0)) = mk_sl a i := by
  obtain ⟨j, hj, rfl⟩ := vp_in_of h (by decide)
  have hj2 : j = 0 ∨ j = 1 := by omega
  rcases hj2 with rfl | rfl <;> rfl
def mk_Z (_cI : ClassId) (t : Nat) (A : Nat → Prop) (U : State) (H : Heap) : Prop := va_Z RX1 "ORDERS" "[I" (.ref t) A U H ∧ va_T .int t 5 (fun j => .int (mk_od j)) A U H
theorem mk_Zn {cI : ClassId} {t : Nat} {A B : Nat → Prop} {s U : State} {H : Heap} {locs : List Loc} (h : mk_Z cI t A s s.heap) (hS : va_S A s.heap H locs) (hB : ∀ q, B q → A q) (hU : U.heap = H) (hvm : s.vm.Alike U.vm) : mk_Z cI t B U U.heap := by
  refine ⟨?_, ?_⟩
  · rw [hU]
    exact ((h.1.kept (fun a h1 h2 => hS.2.1 a h1 h2)).narrow hB).moved hvm
  · rw [hU]
    exact ((h.2.kept (fun a h1 h2 => hS.2.1 a h1 h2)).narrow hB).moved hvm
theorem mk_Zat {cI : ClassId} {t : Nat} {A : Nat → Prop} {s U : State} {H : Heap} {locs : List Loc} (h : mk_Z cI t A s s.heap) (hS : va_S A s.heap H locs) (hU : U.heap = H) (hvm : s.vm.Alike U.vm) : mk_Z cI t (fun _ => False) U U.heap := mk_Zn h hS (fun _ q => q.elim) hU hvm
theorem mk_Zblind {cI : ClassId} {t : Nat} {A : Nat → Prop} {U : State} {g : JFrame} {mk : MethodId} {a : Array Value} (h : mk_Z cI t A U U.heap) : mk_Z cI t A (U.calling g mk a) (U.calling g mk a).heap := ⟨va_Z.moved (u := U) (U := U.calling g mk a) (Vm.Alike.refl U.vm) h.1, va_T.moved (u := U) (U := U.calling g mk a) (Vm.Alike.refl U.vm) h.2⟩
section MK2
variable {l : Launch} {y : MethodName} {ws ws' : List Cond} {R : Room} {cc : ByteArray} {maxL : Nat} {own : String} {av : List Value} {D : va_G} {cl : List vw_C} {w : va_W} {tys : List (ClassId × FieldType)}
theorem pm_q {a0 : Nat → Nat → Nat} {out : Int32} {C : String} (hy : plainName y.cls = true) (hw : ws = Cond.code y cc maxL (some (.object C)) :: ws') (hown : y.cls = own) (hlen : (lg_sl av).length ≤ maxL)
    (K : ∀ (p : Program) (e : Env) (s : State) (m : MethodId) (args : Array Value) (below : List Frame) (meth : Method) (c : Code) (Q : State → Prop) (H : Heap) (ls : Array Slot), p.tables.exec = Jvm.exec → c.code = cc → c.maxLocals = maxL → s.vm.findClass own = some m.cls → (∀ w ∈ ws, w.before args s = true) → va_P D cl w H → va_K D cl tys s → lv_has ls maxL (lv_args 0 av) →
      (∀ (pc : Nat) (ls : Array Slot) (v : Int32) (r : Option Nat), some v = some out → r = mk_sl a0 v → decode cc pc = .ok (.areturn, 1) → W p l e R s m args below meth c H [] 0 0 Q (F0 m pc ls [va_rf r])) → W p l e R s m args below meth c H [] 0 0 Q (F0 m 0 ls [])) :
    Met l y ws R (va_Pc av (fun U => va_P D cl w U.heap ∧ va_K D cl tys U)) (va_Sq (fun r => r = mk_sl a0 out)) 0 0 (fun _ => False) := by
  refine Met.ofW (cc := cc) (maxL := maxL) (ret := some (.object C)) hy hw ?_
  intro p e s m args below meth c s₁ B hml hv
  obtain ⟨rfl, hP, hK⟩ := hv
  have hown' : s.vm.findClass y.cls = some m.cls := findClass_of_methodNamed B.named
  rw [hown] at hown'
  have hl := lv_entry av (n := maxL) hlen
  rw [lg_entry_eq]
  exact K p e s m _ below meth c _ s.heap _ B.exec B.bytes hml hown' (atoms_spec (ws := ws) B.pre) hP hK hl (fun pc ls v r hv hr hd => by
    cases hv
    subst hr
    refine W.aret B.exec B.bytes B.returns (Or.inl ⟨_, rfl⟩) ?_ (fun t ht _ => ⟨_, rfl, rfl, ht⟩) (fun q h => by cases h) hd B.notSynchronized
    exact mk_rf01 _)
theorem pm_iZ {out : Int32} {cI : ClassId} {t : Nat} (hy : plainName y.cls = true) (hw : ws = Cond.code y cc maxL (some .int) :: ws') (hown : y.cls = own) (hlen : (lg_sl av).length ≤ maxL)
    (K : ∀ (p : Program) (e : Env) (s : State) (m : MethodId) (args : Array Value) (below : List Frame) (meth : Method) (c : Code) (Q : State → Prop) (H : Heap) (ls : Array Slot), p.tables.exec = Jvm.exec → c.code = cc → c.maxLocals = maxL → s.vm.findClass own = some m.cls → (∀ w ∈ ws, w.before args s = true) → va_P D cl w H → va_K D cl tys s → mk_Z cI t (fun _ => False) s s.heap → va_S (fun _ => False) s.heap H [] → lv_has ls maxL (lv_args 0 av) →
      (∀ (pc : Nat) (ls : Array Slot) (v : Int32), some v = some out → decode cc pc = .ok (.ireturn, 1) → W p l e R s m args below meth c H [] 0 0 Q (F0 m pc ls [.int v])) → W p l e R s m args below meth c H [] 0 0 Q (F0 m 0 ls [])) :
    Met l y ws R (va_Pc av (fun U => (va_P D cl w U.heap ∧ va_K D cl tys U) ∧ mk_Z cI t (fun _ => False) U U.heap)) (vp_Si (fun r => r = out)) 0 0 (fun _ => False) := by
  refine Met.ofW (cc := cc) (maxL := maxL) (ret := some .int) hy hw ?_
  intro p e s m args below meth c s₁ B hml hv
  obtain ⟨rfl, ⟨hP, hK⟩, hZ⟩ := hv
  have hown' : s.vm.findClass y.cls = some m.cls := findClass_of_methodNamed B.named
  rw [hown] at hown'
  have hl := lv_entry av (n := maxL) hlen
  rw [lg_entry_eq]
  exact K p e s m _ below meth c _ s.heap _ B.exec B.bytes hml hown' (atoms_spec (ws := ws) B.pre) hP hK hZ va_S.rf hl (fun pc ls v hv hd => by cases hv; exact W.iret B.exec B.bytes B.returns (fun t ht _ => ⟨_, rfl, rfl, ht⟩) (fun q h => by cases h) hd B.notSynchronized)
theorem em_iZ {S : Type} {wf : S → va_W} {out : Int32 × S} {sz : Nat} {cI : ClassId} {t : Nat} (hy : plainName y.cls = true) (hw : ws = Cond.code y cc maxL (some .int) :: ws') (hown : y.cls = own) (hlen : (lg_sl av).length ≤ maxL)
    (K : ∀ (p : Program) (e : Env) (s : State) (m : MethodId) (args : Array Value) (below : List Frame) (meth : Method) (c : Code) (Q : State → Prop) (A : Nat → Prop) (H : Heap) (locs : List Loc) (ls : Array Slot), p.tables.exec = Jvm.exec → c.code = cc → c.maxLocals = maxL → s.vm.findClass own = some m.cls → (∀ w ∈ ws, w.before args s = true) → va_P D cl w H → va_K D cl tys s → mk_Z cI t A s s.heap → va_D A w → va_S A s.heap H locs → (∀ q : Nat, s.heap.size ≤ q → A q) → lv_has ls maxL (lv_args 0 av) →
      (∀ (pc : Nat) (ls : Array Slot) (H : Heap) (locs : List Loc) (v : Int32) (u : S), some (v, u) = some out → va_P D cl (wf u) H → va_D A (wf u) → va_S A s.heap H locs → decode cc pc = .ok (.ireturn, 1) → W p l e R s m args below meth c H locs 0 0 Q (F0 m pc ls [.int v])) → W p l e R s m args below meth c H locs 0 0 Q (F0 m 0 ls [])) :
    Met l y ws R (va_Pc av (fun U => mk_Pe D cl tys w sz U ∧ mk_Z cI t (va_A w sz) U U.heap)) (va_Qi (fun r u => (r, u) = out) (mk_Be D cl w sz wf) (va_A w sz)) 0 0 (va_A w sz) := by
  refine Met.ofW (cc := cc) (maxL := maxL) (ret := some .int) hy hw ?_
  intro p e s m args below meth c s₁ B hml hv
  obtain ⟨rfl, ⟨rfl, hP, hK, hD⟩, hZ⟩ := hv
  have hown' : s.vm.findClass y.cls = some m.cls := findClass_of_methodNamed B.named
  rw [hown] at hown'
  have hl := lv_entry av (n := maxL) hlen
  rw [lg_entry_eq]
  exact K p e s m _ below meth c _ (va_A w s.heap.size) s.heap [] _ B.exec B.bytes hml hown' (atoms_spec (ws := ws) B.pre) hP hK hZ (hD.self (sz := s.heap.size)) va_S.rf (fun q h => Or.inr h) hl (fun pc ls H locs v u hv hP hD hS hd => by cases hv; exact W.iret B.exec B.bytes B.returns (fun t ht _ => ⟨⟨_, _, rfl, rfl, by rw [ht]; exact hP, hD⟩, hS.F ht⟩) hS.2.2 hd B.notSynchronized)
end MK2
section MC2
variable {p : Program} {l : Launch} {e : Env} {R : Room} {s : State} {m : MethodId} {args : Array Value} {below : List Frame} {meth : Method} {c : Code} {H H0 : Heap} {locs : List Loc} {cells slots : Nat} {Q : State → Prop} {A : Nat → Prop}
variable {D : va_G} {cl : List vw_C} {tys : List (ClassId × FieldType)} {w wc : va_W} {y : MethodName} {bytes cc : ByteArray} {maxL nL n index pc : Nat} {ret : Option FieldType} {ws Ts : List Cond} {rm : Room} {own C : String} {b : Addr} {As rest st : List Value} {ls : Array Slot} {cI : ClassId} {t : Nat}
theorem pc_vq {a0 : Nat → Nat → Nat} {out : Int32} (S : CallFix p m c cc nL s args Ts own) (hM : Met l y ws rm (va_Pc (.ref b :: As) (fun U => va_P D cl wc U.heap ∧ va_K D cl tys U)) (va_Sq (fun r => r = mk_sl a0 out)) 0 0 (fun _ => False)) (cw : CallW R s args own C index y bytes maxL ret ws rm 0 0 n) (hrec : ∃ cell : Cell, H[b]? = some cell ∧ cell.vm.isStatics = false ∧ s.vm.findClass C = some cell.cls) (hP : va_P D cl wc H) (hK : va_K D cl tys s)
    (hn : As.length = n) (hsize : ls.size = nL) (hst : st = As.reverse ++ .ref b :: rest) (hr : (rest.map fun v => v.category).sum ≤ 8) (hdg : decode cc pc = .ok (.invokevirtual index, 3)) (hf : cells + 0 ≤ R.cells ∧ slots + 0 ≤ R.slots)
    (kk : W p l e R s m args below meth c H locs cells slots Q (F0 m (pc + 3) ls (va_rf (mk_sl a0 out) :: rest))) : W p l e R s m args below meth c H locs cells slots Q (F0 m pc ls st) :=
  va_csq (W.runV S hM cw ⟨mk_blP, hrec, fun U hU hW => ⟨rfl, by rw [hU]; exact hP, va_K.moved hW.alike hK⟩⟩ rfl hn hsize hst (lv_room hr) hdg hf) (fun r h => by rw [h]; exact kk)
theorem mk_sl0 {a0 : Nat → Nat → Nat} {v : Int32} (h : v = 0) (k : W p l e R s m args below meth c H locs cells slots Q (F0 m pc ls (.ref (a0 6 0) :: rest))) : W p l e R s m args below meth c H locs cells slots Q (F0 m pc ls (va_rf (mk_sl a0 v) :: rest)) := by
  subst h; exact k
theorem mk_sl1 {a0 : Nat → Nat → Nat} {v : Int32} (h : v = 1) (k : W p l e R s m args below meth c H locs cells slots Q (F0 m pc ls (.ref (a0 7 0) :: rest))) : W p l e R s m args below meth c H locs cells slots Q (F0 m pc ls (va_rf (mk_sl a0 v) :: rest)) := by
  subst h; exact k
theorem mk_sl2 {a0 : Nat → Nat → Nat} {v : Int32} (h0 : ¬ v = 0) (h1 : ¬ v = 1) (k : W p l e R s m args below meth c H locs cells slots Q (F0 m pc ls (.null :: rest))) : W p l e R s m args below meth c H locs cells slots Q (F0 m pc ls (va_rf (mk_sl a0 v) :: rest)) := by
  have : mk_sl a0 v = none := by unfold mk_sl; rw [if_neg h0, if_neg h1]
  rw [this]; exact k
theorem pc_vZ {out : Int32} {ZA : Nat → Prop} {zl : List Loc} (S : CallFix p m c cc nL s args Ts own) (hM : Met l y ws rm (va_Pc (.ref b :: As) (fun U => (va_P D cl wc U.heap ∧ va_K D cl tys U) ∧ mk_Z cI t (fun _ => False) U U.heap)) (vp_Si (fun r => r = out)) 0 0 (fun _ => False)) (cw : CallW R s args own C index y bytes maxL ret ws rm 0 0 n) (hrec : ∃ cell : Cell, H[b]? = some cell ∧ cell.vm.isStatics = false ∧ s.vm.findClass C = some cell.cls) (hP : va_P D cl wc H) (hK : va_K D cl tys s) (hZ : mk_Z cI t ZA s s.heap) (hSZ : va_S ZA s.heap H zl)
    (hn : As.length = n) (hsize : ls.size = nL) (hst : st = As.reverse ++ .ref b :: rest) (hr : (rest.map fun v => v.category).sum ≤ 8) (hdg : decode cc pc = .ok (.invokevirtual index, 3)) (hf : cells + 0 ≤ R.cells ∧ slots + 0 ≤ R.slots)
    (kk : W p l e R s m args below meth c H locs cells slots Q (F0 m (pc + 3) ls (.int out :: rest))) : W p l e R s m args below meth c H locs cells slots Q (F0 m pc ls st) :=
  vp_callSi (W.runV S hM cw ⟨fun a U g mk q => ⟨q.1, ⟨q.2.1.1, va_K.moved (u := U) (U := U.calling g mk a) (Vm.Alike.refl U.vm) q.2.1.2⟩, mk_Zblind q.2.2⟩, hrec, fun U hU hW => ⟨rfl, ⟨by rw [hU]; exact hP, va_K.moved hW.alike hK⟩, mk_Zat hZ hSZ hU hW.alike⟩⟩ rfl hn hsize hst (lv_room hr) hdg hf) (fun r h => by rw [h]; exact kk)
theorem pc_sZ {out : Int32} {ZA : Nat → Prop} {zl : List Loc} (S : CallFix p m c cc nL s args Ts own) (hM : Met l y ws rm (va_Pc As (fun U => (va_P D cl wc U.heap ∧ va_K D cl tys U) ∧ mk_Z cI t (fun _ => False) U U.heap)) (vp_Si (fun r => r = out)) 0 0 (fun _ => False)) (cw : CallB R s args own index y bytes maxL ret ws rm 0 0 n ∧ (Cond.static y).before args s = true) (hP : va_P D cl wc H) (hK : va_K D cl tys s) (hZ : mk_Z cI t ZA s s.heap) (hSZ : va_S ZA s.heap H zl)
    (hn : As.length = n) (hsize : ls.size = nL) (hst : st = As.reverse ++ rest) (hr : (rest.map fun v => v.category).sum ≤ 8) (hdg : decode cc pc = .ok (.invokestatic index, 3)) (hf : cells + 0 ≤ R.cells ∧ slots + 0 ≤ R.slots)
    (kk : W p l e R s m args below meth c H locs cells slots Q (F0 m (pc + 3) ls (.int out :: rest))) : W p l e R s m args below meth c H locs cells slots Q (F0 m pc ls st) :=
  vp_callSi (W.runS S hM cw ⟨fun a U g mk q => ⟨q.1, ⟨q.2.1.1, va_K.moved (u := U) (U := U.calling g mk a) (Vm.Alike.refl U.vm) q.2.1.2⟩, mk_Zblind q.2.2⟩, fun U hU hW => ⟨rfl, ⟨by rw [hU]; exact hP, va_K.moved hW.alike hK⟩, mk_Zat hZ hSZ hU hW.alike⟩⟩ rfl hn hsize hst (lv_room hr) hdg hf) (fun r h => by rw [h]; exact kk)
end MC2
