/-! the walker's own words: states, reads, writes, loops of the shallow functions; one row for a method's entry, one for a call -/
theorem lq1_W {A w : Type} {b : (A → Option w) → A → Option w} {out : w} {Wd : A → Prop} (hb : ∀ rec, (∀ x, rec x = some out → Wd x) → ∀ x, b rec x = some out → Wd x) : ∀ n x, lq1 b n x = some out → Wd x := by
  intro n
  induction n with
  | zero => intro x h; cases h
  | succ n ih => intro x h; exact hb (lq1 b n) ih x h
theorem lq2_W {A B w : Type} {b : (A → B → Option w) → A → B → Option w} {out : w} {Wd : A → B → Prop} (hb : ∀ rec, (∀ x y, rec x y = some out → Wd x y) → ∀ x y, b rec x y = some out → Wd x y) : ∀ n x y, lq2 b n x y = some out → Wd x y := by
  intro n
  induction n with
  | zero => intro x y h; cases h
  | succ n ih => intro x y h; exact hb (lq2 b n) ih x y h
theorem lq3_W {A B C w : Type} {b : (A → B → C → Option w) → A → B → C → Option w} {out : w} {Wd : A → B → C → Prop} (hb : ∀ rec, (∀ x y z, rec x y z = some out → Wd x y z) → ∀ x y z, b rec x y z = some out → Wd x y z) : ∀ n x y z, lq3 b n x y z = some out → Wd x y z := by
  intro n
  induction n with
  | zero => intro x y z h; cases h
  | succ n ih => intro x y z h; exact hb (lq3 b n) ih x y z h
theorem lq4_W {A B C D w : Type} {b : (A → B → C → D → Option w) → A → B → C → D → Option w} {out : w} {Wd : A → B → C → D → Prop} (hb : ∀ rec, (∀ x y z t, rec x y z t = some out → Wd x y z t) → ∀ x y z t, b rec x y z t = some out → Wd x y z t) : ∀ n x y z t, lq4 b n x y z t = some out → Wd x y z t := by
  intro n
  induction n with
  | zero => intro x y z t h; cases h
  | succ n ih => intro x y z t h; exact hb (lq4 b n) ih x y z t h
theorem lq5_W {A B C D E w : Type} {b : (A → B → C → D → E → Option w) → A → B → C → D → E → Option w} {out : w} {Wd : A → B → C → D → E → Prop} (hb : ∀ rec, (∀ x y z t v, rec x y z t v = some out → Wd x y z t v) → ∀ x y z t v, b rec x y z t v = some out → Wd x y z t v) : ∀ n x y z t v, lq5 b n x y z t v = some out → Wd x y z t v := by
  intro n
  induction n with
  | zero => intro x y z t v h; cases h
  | succ n ih => intro x y z t v h; exact hb (lq5 b n) ih x y z t v h
/-! what a shallow function's answer says of its first word -/
theorem mk_ifp {w : Type} {c : Prop} {i : Decidable c} {a b : Option w} {o : w} (hc : c) (h : (@ite _ c i a b) = some o) : a = some o := by rw [if_pos hc] at h; exact h
theorem mk_ifn {w : Type} {c : Prop} {i : Decidable c} {a b : Option w} {o : w} (hc : ¬ c) (h : (@ite _ c i a b) = some o) : b = some o := by rw [if_neg hc] at h; exact h
theorem mk_bd {v w : Type} {a : Option v} {k : v → Option w} {o : w} (h : a.bind k = some o) : ∃ r, a = some r ∧ k r = some o := by
  cases a with
  | none => cases h
  | some r => exact ⟨r, rfl, h⟩
theorem mk_rdE {w : Type} {f : Nat → Int32} {n : Nat} {i : Int32} {k : Int32 → Option w} {o : w} (h : (mk_rd f n i).bind k = some o) : ∃ v, v = f i.toNatClampNeg ∧ vp_in i n ∧ k v = some o := by
  unfold mk_rd at h
  by_cases c : i < 0 ∨ n ≤ i.toNatClampNeg
  · rw [if_pos c] at h; cases h
  · rw [if_neg c] at h; exact ⟨_, rfl, c, h⟩
theorem mk_ixE {w : Type} {n : Nat} {i : Int32} {k : Unit → Option w} {o : w} (h : (mk_ix n i).bind k = some o) : vp_in i n ∧ k () = some o := by
  unfold mk_ix at h
  by_cases c : i < 0 ∨ n ≤ i.toNatClampNeg
  · rw [if_pos c] at h; cases h
  · rw [if_neg c] at h; exact ⟨c, h⟩
theorem mk_nzE {w : Type} {y : Int32} {k : Unit → Option w} {o : w} (h : (mk_nz y).bind k = some o) : ¬ y = 0 ∧ k () = some o := by
  unfold mk_nz at h
  by_cases c : y = 0
  · rw [if_pos c] at h; cases h
  · rw [if_neg c] at h; exact ⟨c, h⟩
theorem mk_nzlE {w : Type} {y : Int64} {k : Unit → Option w} {o : w} (h : (mk_nzl y).bind k = some o) : ¬ y = 0 ∧ k () = some o := by
  unfold mk_nzl at h
  by_cases c : y = 0
  · rw [if_pos c] at h; cases h
  · rw [if_neg c] at h; exact ⟨c, h⟩
theorem mk_zE {w : Type} {v : Int32} {k : Unit → Option w} {o : w} (h : (mk_z v).bind k = some o) : (v = 0 ∨ v = 1) ∧ k () = some o := by
  unfold mk_z at h
  by_cases c : v = 0 ∨ v = 1
  · rw [if_pos c] at h; exact ⟨c, h⟩
  · rw [if_neg c] at h; cases h
theorem mk_cpE {w : Type} {n0 n1 : Nat} {sp dp n : Int32} {k : Unit → Option w} {o : w} (h : (mk_cp n0 n1 sp dp n).bind k = some o) : (¬ sp < 0 ∧ ¬ dp < 0 ∧ ¬ n < 0 ∧ sp.toNatClampNeg + n.toNatClampNeg ≤ n0 ∧ dp.toNatClampNeg + n.toNatClampNeg ≤ n1) ∧ k () = some o := by
  unfold mk_cp at h
  by_cases c : sp < 0 ∨ dp < 0 ∨ n < 0 ∨ n0 < sp.toNatClampNeg + n.toNatClampNeg ∨ n1 < dp.toNatClampNeg + n.toNatClampNeg
  · rw [if_pos c] at h; cases h
  · rw [if_neg c] at h
    exact ⟨⟨fun q => c (Or.inl q), fun q => c (Or.inr (Or.inl q)), fun q => c (Or.inr (Or.inr (Or.inl q))), Nat.not_lt.mp fun q => c (Or.inr (Or.inr (Or.inr (Or.inl q)))), Nat.not_lt.mp fun q => c (Or.inr (Or.inr (Or.inr (Or.inr q))))⟩, h⟩
theorem mk_nmE {v w : Type} {x : v} {k : v → Option w} {o : w} (h : mk_nm x k = some o) : ∃ y, y = x ∧ k y = some o := ⟨x, rfl, h⟩
theorem mk_z01 {v : Int32} (h : v = 0 ∨ v = 1) : narrow .boolean (.int v) = .int v ∧ fits .boolean (.int v) = true ∧ vp_nar .boolean v = v := by
  rcases h with rfl | rfl <;> decide
theorem mk_seg {big small : List Cond} (o n : Nat) (h : (big.drop o).take n = small) : ∀ w ∈ small, w ∈ big := fun w hw => by
  rw [← h] at hw
  exact List.mem_of_mem_drop (List.mem_of_mem_take hw)
theorem mk_ne {x k : Int32} {z : Int} (hk : k.toInt = z) (h : ¬ x = k) : ¬ x.toInt = z := fun q => h (Int32.toInt_inj.mp (q.trans hk.symm))
section MK
variable {l : Launch} {y : MethodName} {ws ws' : List Cond} {R : Room} {cc : ByteArray} {maxL : Nat} {own : String} {av : List Value} {D : va_G} {cl : List vw_C} {w : va_W} {tys : List (ClassId × FieldType)}
/-- a method that changes nothing, and answers an int -/
theorem pm_i {out : Int32} (hy : plainName y.cls = true) (hw : ws = Cond.code y cc maxL (some .int) :: ws') (hown : y.cls = own) (hlen : (lg_sl av).length ≤ maxL)
    (K : ∀ (p : Program) (e : Env) (s : State) (m : MethodId) (args : Array Value) (below : List Frame) (meth : Method) (c : Code) (Q : State → Prop) (H : Heap) (ls : Array Slot), p.tables.exec = Jvm.exec → c.code = cc → c.maxLocals = maxL → s.vm.findClass own = some m.cls → (∀ w ∈ ws, w.before args s = true) → va_P D cl w H → va_K D cl tys s → lv_has ls maxL (lv_args 0 av) →
      (∀ (pc : Nat) (ls : Array Slot) (v : Int32), some v = some out → decode cc pc = .ok (.ireturn, 1) → W p l e R s m args below meth c H [] 0 0 Q (F0 m pc ls [.int v])) → W p l e R s m args below meth c H [] 0 0 Q (F0 m 0 ls [])) :
    Met l y ws R (va_Pc av (fun U => va_P D cl w U.heap ∧ va_K D cl tys U)) (vp_Si (fun r => r = out)) 0 0 (fun _ => False) := by
  refine Met.ofW (cc := cc) (maxL := maxL) (ret := some .int) hy hw ?_
  intro p e s m args below meth c s₁ B hml hv
  obtain ⟨rfl, hP, hK⟩ := hv
  have hown' : s.vm.findClass y.cls = some m.cls := findClass_of_methodNamed B.named
  rw [hown] at hown'
  have hl := lv_entry av (n := maxL) hlen
  rw [lg_entry_eq]
  exact K p e s m _ below meth c _ s.heap _ B.exec B.bytes hml hown' (atoms_spec (ws := ws) B.pre) hP hK hl (fun pc ls v hv hd => by cases hv; exact W.iret B.exec B.bytes B.returns (fun t ht _ => ⟨_, rfl, rfl, ht⟩) (fun q h => by cases h) hd B.notSynchronized)
/-- a method that changes nothing, and answers a boolean -/
theorem pm_z {out : Int32} (hy : plainName y.cls = true) (hw : ws = Cond.code y cc maxL (some .boolean) :: ws') (hown : y.cls = own) (hlen : (lg_sl av).length ≤ maxL)
    (K : ∀ (p : Program) (e : Env) (s : State) (m : MethodId) (args : Array Value) (below : List Frame) (meth : Method) (c : Code) (Q : State → Prop) (H : Heap) (ls : Array Slot), p.tables.exec = Jvm.exec → c.code = cc → c.maxLocals = maxL → s.vm.findClass own = some m.cls → (∀ w ∈ ws, w.before args s = true) → va_P D cl w H → va_K D cl tys s → lv_has ls maxL (lv_args 0 av) →
      (∀ (pc : Nat) (ls : Array Slot) (v : Int32), some v = some out → (v = 0 ∨ v = 1) → decode cc pc = .ok (.ireturn, 1) → W p l e R s m args below meth c H [] 0 0 Q (F0 m pc ls [.int v])) → W p l e R s m args below meth c H [] 0 0 Q (F0 m 0 ls [])) :
    Met l y ws R (va_Pc av (fun U => va_P D cl w U.heap ∧ va_K D cl tys U)) (vp_Si (fun r => r = out)) 0 0 (fun _ => False) := by
  refine Met.ofW (cc := cc) (maxL := maxL) (ret := some .boolean) hy hw ?_
  intro p e s m args below meth c s₁ B hml hv
  obtain ⟨rfl, hP, hK⟩ := hv
  have hown' : s.vm.findClass y.cls = some m.cls := findClass_of_methodNamed B.named
  rw [hown] at hown'
  have hl := lv_entry av (n := maxL) hlen
  rw [lg_entry_eq]
  exact K p e s m _ below meth c _ s.heap _ B.exec B.bytes hml hown' (atoms_spec (ws := ws) B.pre) hP hK hl (fun pc ls v hv hz hd => by cases hv; exact W.zret B.exec B.bytes B.returns (mk_z01 hz).1 (fun t ht _ => ⟨_, rfl, rfl, ht⟩) (fun q h => by cases h) hd B.notSynchronized)
/-- what a method that may write has at its entry, and what it owes at its end -/
abbrev mk_Pe (D : va_G) (cl : List vw_C) (tys : List (ClassId × FieldType)) (w : va_W) (sz : Nat) : State → Prop := fun U => U.heap.size = sz ∧ va_P D cl w U.heap ∧ va_K D cl tys U ∧ va_D (fun _ => True) w
abbrev mk_Be {S : Type} (D : va_G) (cl : List vw_C) (w : va_W) (sz : Nat) (wf : S → va_W) : S → State → Prop := fun u t => va_P D cl (wf u) t.heap ∧ va_D (va_A w sz) (wf u)
theorem em_i {S : Type} {wf : S → va_W} {out : Int32 × S} {sz : Nat} (hy : plainName y.cls = true) (hw : ws = Cond.code y cc maxL (some .int) :: ws') (hown : y.cls = own) (hlen : (lg_sl av).length ≤ maxL)
    (K : ∀ (p : Program) (e : Env) (s : State) (m : MethodId) (args : Array Value) (below : List Frame) (meth : Method) (c : Code) (Q : State → Prop) (A : Nat → Prop) (H0 H : Heap) (locs : List Loc) (ls : Array Slot), p.tables.exec = Jvm.exec → c.code = cc → c.maxLocals = maxL → s.vm.findClass own = some m.cls → (∀ w ∈ ws, w.before args s = true) → va_P D cl w H → va_K D cl tys s → va_D A w → va_S A H0 H locs → (∀ q : Nat, H0.size ≤ q → A q) → lv_has ls maxL (lv_args 0 av) →
      (∀ (pc : Nat) (ls : Array Slot) (H : Heap) (locs : List Loc) (v : Int32) (u : S), some (v, u) = some out → va_P D cl (wf u) H → va_D A (wf u) → va_S A H0 H locs → decode cc pc = .ok (.ireturn, 1) → W p l e R s m args below meth c H locs 0 0 Q (F0 m pc ls [.int v])) → W p l e R s m args below meth c H locs 0 0 Q (F0 m 0 ls [])) :
    Met l y ws R (va_Pc av (mk_Pe D cl tys w sz)) (va_Qi (fun r u => (r, u) = out) (mk_Be D cl w sz wf) (va_A w sz)) 0 0 (va_A w sz) := by
  refine Met.ofW (cc := cc) (maxL := maxL) (ret := some .int) hy hw ?_
  intro p e s m args below meth c s₁ B hml hv
  obtain ⟨rfl, rfl, hP, hK, hD⟩ := hv
  have hown' : s.vm.findClass y.cls = some m.cls := findClass_of_methodNamed B.named
  rw [hown] at hown'
  have hl := lv_entry av (n := maxL) hlen
  rw [lg_entry_eq]
  exact K p e s m _ below meth c _ (va_A w s.heap.size) s.heap s.heap [] _ B.exec B.bytes hml hown' (atoms_spec (ws := ws) B.pre) hP hK (hD.self (sz := s.heap.size)) va_S.rf (fun q h => Or.inr h) hl (fun pc ls H locs v u hv hP hD hS hd => by cases hv; exact W.iret B.exec B.bytes B.returns (fun t ht _ => ⟨⟨_, _, rfl, rfl, by rw [ht]; exact hP, hD⟩, hS.F ht⟩) hS.2.2 hd B.notSynchronized)
theorem em_z {S : Type} {wf : S → va_W} {out : Int32 × S} {sz : Nat} (hy : plainName y.cls = true) (hw : ws = Cond.code y cc maxL (some .boolean) :: ws') (hown : y.cls = own) (hlen : (lg_sl av).length ≤ maxL)
    (K : ∀ (p : Program) (e : Env) (s : State) (m : MethodId) (args : Array Value) (below : List Frame) (meth : Method) (c : Code) (Q : State → Prop) (A : Nat → Prop) (H0 H : Heap) (locs : List Loc) (ls : Array Slot), p.tables.exec = Jvm.exec → c.code = cc → c.maxLocals = maxL → s.vm.findClass own = some m.cls → (∀ w ∈ ws, w.before args s = true) → va_P D cl w H → va_K D cl tys s → va_D A w → va_S A H0 H locs → (∀ q : Nat, H0.size ≤ q → A q) → lv_has ls maxL (lv_args 0 av) →
      (∀ (pc : Nat) (ls : Array Slot) (H : Heap) (locs : List Loc) (v : Int32) (u : S), some (v, u) = some out → (v = 0 ∨ v = 1) → va_P D cl (wf u) H → va_D A (wf u) → va_S A H0 H locs → decode cc pc = .ok (.ireturn, 1) → W p l e R s m args below meth c H locs 0 0 Q (F0 m pc ls [.int v])) → W p l e R s m args below meth c H locs 0 0 Q (F0 m 0 ls [])) :
    Met l y ws R (va_Pc av (mk_Pe D cl tys w sz)) (va_Qi (fun r u => (r, u) = out) (mk_Be D cl w sz wf) (va_A w sz)) 0 0 (va_A w sz) := by
  refine Met.ofW (cc := cc) (maxL := maxL) (ret := some .boolean) hy hw ?_
  intro p e s m args below meth c s₁ B hml hv
  obtain ⟨rfl, rfl, hP, hK, hD⟩ := hv
  have hown' : s.vm.findClass y.cls = some m.cls := findClass_of_methodNamed B.named
  rw [hown] at hown'
  have hl := lv_entry av (n := maxL) hlen
  rw [lg_entry_eq]
  exact K p e s m _ below meth c _ (va_A w s.heap.size) s.heap s.heap [] _ B.exec B.bytes hml hown' (atoms_spec (ws := ws) B.pre) hP hK (hD.self (sz := s.heap.size)) va_S.rf (fun q h => Or.inr h) hl (fun pc ls H locs v u hv hz hP hD hS hd => by cases hv; exact W.zret B.exec B.bytes B.returns (mk_z01 hz).1 (fun t ht _ => ⟨⟨_, _, rfl, rfl, by rw [ht]; exact hP, hD⟩, hS.F ht⟩) hS.2.2 hd B.notSynchronized)
theorem em_l {S : Type} {wf : S → va_W} {out : Int64 × S} {sz : Nat} (hy : plainName y.cls = true) (hw : ws = Cond.code y cc maxL (some .long) :: ws') (hown : y.cls = own) (hlen : (lg_sl av).length ≤ maxL)
    (K : ∀ (p : Program) (e : Env) (s : State) (m : MethodId) (args : Array Value) (below : List Frame) (meth : Method) (c : Code) (Q : State → Prop) (A : Nat → Prop) (H0 H : Heap) (locs : List Loc) (ls : Array Slot), p.tables.exec = Jvm.exec → c.code = cc → c.maxLocals = maxL → s.vm.findClass own = some m.cls → (∀ w ∈ ws, w.before args s = true) → va_P D cl w H → va_K D cl tys s → va_D A w → va_S A H0 H locs → (∀ q : Nat, H0.size ≤ q → A q) → lv_has ls maxL (lv_args 0 av) →
      (∀ (pc : Nat) (ls : Array Slot) (H : Heap) (locs : List Loc) (v : Int64) (u : S), some (v, u) = some out → va_P D cl (wf u) H → va_D A (wf u) → va_S A H0 H locs → decode cc pc = .ok (.lreturn, 1) → W p l e R s m args below meth c H locs 0 0 Q (F0 m pc ls [.long v])) → W p l e R s m args below meth c H locs 0 0 Q (F0 m 0 ls [])) :
    Met l y ws R (va_Pc av (mk_Pe D cl tys w sz)) (va_Ql (fun r u => (r, u) = out) (mk_Be D cl w sz wf) (va_A w sz)) 0 0 (va_A w sz) := by
  refine Met.ofW (cc := cc) (maxL := maxL) (ret := some .long) hy hw ?_
  intro p e s m args below meth c s₁ B hml hv
  obtain ⟨rfl, rfl, hP, hK, hD⟩ := hv
  have hown' : s.vm.findClass y.cls = some m.cls := findClass_of_methodNamed B.named
  rw [hown] at hown'
  have hl := lv_entry av (n := maxL) hlen
  rw [lg_entry_eq]
  exact K p e s m _ below meth c _ (va_A w s.heap.size) s.heap s.heap [] _ B.exec B.bytes hml hown' (atoms_spec (ws := ws) B.pre) hP hK (hD.self (sz := s.heap.size)) va_S.rf (fun q h => Or.inr h) hl (fun pc ls H locs v u hv hP hD hS hd => by cases hv; exact W.lret B.exec B.bytes B.returns (fun t ht _ => ⟨⟨_, _, rfl, rfl, by rw [ht]; exact hP, hD⟩, hS.F ht⟩) hS.2.2 hd B.notSynchronized)
theorem em_v {S : Type} {wf : S → va_W} {out : S} {sz : Nat} (hy : plainName y.cls = true) (hw : ws = Cond.code y cc maxL none :: ws') (hown : y.cls = own) (hlen : (lg_sl av).length ≤ maxL)
    (K : ∀ (p : Program) (e : Env) (s : State) (m : MethodId) (args : Array Value) (below : List Frame) (meth : Method) (c : Code) (Q : State → Prop) (A : Nat → Prop) (H0 H : Heap) (locs : List Loc) (ls : Array Slot), p.tables.exec = Jvm.exec → c.code = cc → c.maxLocals = maxL → s.vm.findClass own = some m.cls → (∀ w ∈ ws, w.before args s = true) → va_P D cl w H → va_K D cl tys s → va_D A w → va_S A H0 H locs → (∀ q : Nat, H0.size ≤ q → A q) → lv_has ls maxL (lv_args 0 av) →
      (∀ (pc : Nat) (ls : Array Slot) (H : Heap) (locs : List Loc) (u : S), some u = some out → va_P D cl (wf u) H → va_D A (wf u) → va_S A H0 H locs → decode cc pc = .ok (.return_, 1) → W p l e R s m args below meth c H locs 0 0 Q (F0 m pc ls [])) → W p l e R s m args below meth c H locs 0 0 Q (F0 m 0 ls [])) :
    Met l y ws R (va_Pc av (mk_Pe D cl tys w sz)) (va_Qv (fun u => u = out) (mk_Be D cl w sz wf) (va_A w sz)) 0 0 (va_A w sz) := by
  refine Met.ofW (cc := cc) (maxL := maxL) (ret := none) hy hw ?_
  intro p e s m args below meth c s₁ B hml hv
  obtain ⟨rfl, rfl, hP, hK, hD⟩ := hv
  have hown' : s.vm.findClass y.cls = some m.cls := findClass_of_methodNamed B.named
  rw [hown] at hown'
  have hl := lv_entry av (n := maxL) hlen
  rw [lg_entry_eq]
  exact K p e s m _ below meth c _ (va_A w s.heap.size) s.heap s.heap [] _ B.exec B.bytes hml hown' (atoms_spec (ws := ws) B.pre) hP hK (hD.self (sz := s.heap.size)) va_S.rf (fun q h => Or.inr h) hl (fun pc ls H locs u hv hP hD hS hd => by cases hv; exact W.vret B.exec B.bytes B.returns (fun t ht _ => ⟨⟨_, rfl, rfl, by rw [ht]; exact hP, hD⟩, hS.F ht⟩) hS.2.2 hd B.notSynchronized)
end MK
section MC
variable {p : Program} {l : Launch} {e : Env} {R : Room} {s : State} {m : MethodId} {args : Array Value} {below : List Frame} {meth : Method} {c : Code} {H H0 : Heap} {locs : List Loc} {cells slots : Nat} {Q : State → Prop} {A : Nat → Prop}
variable {D : va_G} {cl : List vw_C} {tys : List (ClassId × FieldType)} {w wc : va_W} {y : MethodName} {bytes cc : ByteArray} {maxL nL n index pc : Nat} {ret : Option FieldType} {ws Ts : List Cond} {rm : Room} {own C : String} {b : Addr} {As rest st : List Value} {ls : Array Slot}
theorem mk_blP : FrameBlind (va_Pc As (fun U => va_P D cl wc U.heap ∧ va_K D cl tys U)) := fun a U g mk q => by
  obtain ⟨q0, qP, qK⟩ := q
  exact ⟨q0, qP, va_K.moved (u := U) (U := U.calling g mk a) (Vm.Alike.refl U.vm) qK⟩
theorem mk_blE {sz : Nat} : FrameBlind (va_Pc As (mk_Pe D cl tys wc sz)) := fun a U g mk q => by
  obtain ⟨q0, q1, qP, qK, qD⟩ := q
  exact ⟨q0, q1, qP, va_K.moved (u := U) (U := U.calling g mk a) (Vm.Alike.refl U.vm) qK, qD⟩
/-- calls of methods that change nothing -/
theorem pc_v {out : Int32} (S : CallFix p m c cc nL s args Ts own) (hM : Met l y ws rm (va_Pc (.ref b :: As) (fun U => va_P D cl wc U.heap ∧ va_K D cl tys U)) (vp_Si (fun r => r = out)) 0 0 (fun _ => False)) (cw : CallW R s args own C index y bytes maxL ret ws rm 0 0 n) (hrec : ∃ cell : Cell, H[b]? = some cell ∧ cell.vm.isStatics = false ∧ s.vm.findClass C = some cell.cls) (hP : va_P D cl wc H) (hK : va_K D cl tys s)
    (hn : As.length = n) (hsize : ls.size = nL) (hst : st = As.reverse ++ .ref b :: rest) (hr : (rest.map fun v => v.category).sum ≤ 8) (hdg : decode cc pc = .ok (.invokevirtual index, 3)) (hf : cells + 0 ≤ R.cells ∧ slots + 0 ≤ R.slots)
    (kk : W p l e R s m args below meth c H locs cells slots Q (F0 m (pc + 3) ls (.int out :: rest))) : W p l e R s m args below meth c H locs cells slots Q (F0 m pc ls st) :=
  vp_callSi (W.runV S hM cw ⟨mk_blP, hrec, fun U hU hW => ⟨rfl, by rw [hU]; exact hP, va_K.moved hW.alike hK⟩⟩ rfl hn hsize hst (lv_room hr) hdg hf) (fun r h => by rw [h]; exact kk)
theorem pc_s {out : Int32} (S : CallFix p m c cc nL s args Ts own) (hM : Met l y ws rm (va_Pc As (fun U => va_P D cl wc U.heap ∧ va_K D cl tys U)) (vp_Si (fun r => r = out)) 0 0 (fun _ => False)) (cw : CallB R s args own index y bytes maxL ret ws rm 0 0 n ∧ (Cond.static y).before args s = true) (hP : va_P D cl wc H) (hK : va_K D cl tys s)
    (hn : As.length = n) (hsize : ls.size = nL) (hst : st = As.reverse ++ rest) (hr : (rest.map fun v => v.category).sum ≤ 8) (hdg : decode cc pc = .ok (.invokestatic index, 3)) (hf : cells + 0 ≤ R.cells ∧ slots + 0 ≤ R.slots)
    (kk : W p l e R s m args below meth c H locs cells slots Q (F0 m (pc + 3) ls (.int out :: rest))) : W p l e R s m args below meth c H locs cells slots Q (F0 m pc ls st) :=
  vp_callSi (W.runS S hM cw ⟨mk_blP, fun U hU hW => ⟨rfl, by rw [hU]; exact hP, va_K.moved hW.alike hK⟩⟩ rfl hn hsize hst (lv_room hr) hdg hf) (fun r h => by rw [h]; exact kk)
/-- a callee's cells by their places, the rest's places, and the order in which all come back -/
theorem mk_back {S : Type} {wf : S → va_W} {u : S} {w' wr : va_W} {H1 : Heap} (hP : va_P D cl w H) (hD : va_D A w) (hS : va_S A H0 H locs) (hA : ∀ q : Nat, H0.size ≤ q → A q) (isC isR perm : List Nat) (hC : isC.map (fun i => w[i]?) = wc.map some) (hR : isR.map (fun i => w[i]?) = wr.map some) (hnd : va_nd isR = true) (hdis : ∀ i ∈ isR, i ∉ isC) (hp : perm.map (fun i => (wr ++ wf u)[i]?) = w'.map some) (hnp : va_nd perm = true)
    (hk : ∀ q : Nat, q < H.size → ¬ va_A wc H.size q → H1[q]? = H[q]?) (h1 : va_P D cl (wf u) H1) (h2 : va_D (va_A wc H.size) (wf u)) : va_P D cl w' H1 ∧ va_D A w' := by
  obtain ⟨j1, j2⟩ := va_join (wr := wr) (w1 := wf u) hP hD isC isR hC hR hnd hdis hk (va_free hD hS hA isC hC) h1 h2
  refine ⟨fun k q hq => ?_, j2.sub perm hnp hp⟩
  have e1 : (perm.map (fun i => (wr ++ wf u)[i]?))[k]? = some (some q) := by rw [hp, List.getElem?_map, hq]; rfl
  rw [List.getElem?_map] at e1
  cases hi : perm[k]? with
  | none => rw [hi] at e1; cases e1
  | some i => rw [hi] at e1; exact j1 i q (Option.some.inj e1)
theorem ec_vi {S : Type} {wf : S → va_W} {out : Int32 × S} {w' : va_W} (Sx : CallFix p m c cc nL s args Ts own) (hM : Met l y ws rm (va_Pc (.ref b :: As) (mk_Pe D cl tys wc H.size)) (va_Qi (fun r u => (r, u) = out) (mk_Be D cl wc H.size wf) (va_A wc H.size)) 0 0 (va_A wc H.size)) (cw : CallW R s args own C index y bytes maxL ret ws rm 0 0 n) (hrec : ∃ cell : Cell, H[b]? = some cell ∧ cell.vm.isStatics = false ∧ s.vm.findClass C = some cell.cls) (hK : va_K D cl tys s) (hP : va_P D cl w H) (hD : va_D A w) (hS : va_S A H0 H locs) (hA : ∀ q : Nat, H0.size ≤ q → A q)
    (isC isR perm : List Nat) (hPc : va_P D cl wc H) (hDc : va_D A wc) (hC : isC.map (fun i => w[i]?) = wc.map some) (hR : isR.map (fun i => w[i]?) = (isR.filterMap (fun i => w[i]?)).map some) (hnd : va_nd isR = true) (hdis : ∀ i ∈ isR, i ∉ isC) (hp : perm.map (fun i => (isR.filterMap (fun i => w[i]?) ++ wf out.2)[i]?) = w'.map some) (hnp : va_nd perm = true)
    (hn : As.length = n) (hsize : ls.size = nL) (hst : st = As.reverse ++ .ref b :: rest) (hr : (rest.map fun v => v.category).sum ≤ 8) (hdg : decode cc pc = .ok (.invokevirtual index, 3)) (hf : cells + 0 ≤ R.cells ∧ slots + 0 ≤ R.slots)
    (kk : ∀ (H : Heap) (locs : List Loc), va_P D cl w' H → va_D A w' → va_S A H0 H locs → W p l e R s m args below meth c H locs cells slots Q (F0 m (pc + 3) ls (.int out.1 :: rest))) : W p l e R s m args below meth c H locs cells slots Q (F0 m pc ls st) := by
  have hF := va_free hD hS hA isC hC
  refine va_calli (va_runV Sx hM cw ⟨mk_blE, hrec, fun U hU hW => ⟨rfl, by rw [hU], by rw [hU]; exact hPc, va_K.moved hW.alike hK, hDc.weaken (fun _ _ _ _ => trivial)⟩⟩ rfl hn hsize hst (lv_room hr) hdg hf) hS (fun q _ h => hF q h) hF (fun r u t H1 locs1 ht hvm hw hB hz1 hk1 hS1 => ?_)
  obtain ⟨hB1, hB2⟩ := hB
  have e1 : r = out.1 := congrArg Prod.fst hw
  have e2 : u = out.2 := congrArg Prod.snd hw
  rw [ht] at hB1
  rw [e2] at hB1 hB2
  obtain ⟨hP', hD'⟩ := mk_back hP hD hS hA isC isR perm hC hR hnd hdis hp hnp hk1 hB1 hB2
  rw [e1]
  exact kk H1 locs1 hP' hD' hS1
theorem ec_vl {S : Type} {wf : S → va_W} {out : Int64 × S} {w' : va_W} (Sx : CallFix p m c cc nL s args Ts own) (hM : Met l y ws rm (va_Pc (.ref b :: As) (mk_Pe D cl tys wc H.size)) (va_Ql (fun r u => (r, u) = out) (mk_Be D cl wc H.size wf) (va_A wc H.size)) 0 0 (va_A wc H.size)) (cw : CallW R s args own C index y bytes maxL ret ws rm 0 0 n) (hrec : ∃ cell : Cell, H[b]? = some cell ∧ cell.vm.isStatics = false ∧ s.vm.findClass C = some cell.cls) (hK : va_K D cl tys s) (hP : va_P D cl w H) (hD : va_D A w) (hS : va_S A H0 H locs) (hA : ∀ q : Nat, H0.size ≤ q → A q)
    (isC isR perm : List Nat) (hPc : va_P D cl wc H) (hDc : va_D A wc) (hC : isC.map (fun i => w[i]?) = wc.map some) (hR : isR.map (fun i => w[i]?) = (isR.filterMap (fun i => w[i]?)).map some) (hnd : va_nd isR = true) (hdis : ∀ i ∈ isR, i ∉ isC) (hp : perm.map (fun i => (isR.filterMap (fun i => w[i]?) ++ wf out.2)[i]?) = w'.map some) (hnp : va_nd perm = true)
    (hn : As.length = n) (hsize : ls.size = nL) (hst : st = As.reverse ++ .ref b :: rest) (hr : (rest.map fun v => v.category).sum ≤ 8) (hdg : decode cc pc = .ok (.invokevirtual index, 3)) (hf : cells + 0 ≤ R.cells ∧ slots + 0 ≤ R.slots)
    (kk : ∀ (H : Heap) (locs : List Loc), va_P D cl w' H → va_D A w' → va_S A H0 H locs → W p l e R s m args below meth c H locs cells slots Q (F0 m (pc + 3) ls (.long out.1 :: rest))) : W p l e R s m args below meth c H locs cells slots Q (F0 m pc ls st) := by
  have hF := va_free hD hS hA isC hC
  refine va_calll (va_runV Sx hM cw ⟨mk_blE, hrec, fun U hU hW => ⟨rfl, by rw [hU], by rw [hU]; exact hPc, va_K.moved hW.alike hK, hDc.weaken (fun _ _ _ _ => trivial)⟩⟩ rfl hn hsize hst (lv_room hr) hdg hf) hS (fun q _ h => hF q h) hF (fun r u t H1 locs1 ht hvm hw hB hz1 hk1 hS1 => ?_)
  obtain ⟨hB1, hB2⟩ := hB
  have e1 : r = out.1 := congrArg Prod.fst hw
  have e2 : u = out.2 := congrArg Prod.snd hw
  rw [ht] at hB1
  rw [e2] at hB1 hB2
  obtain ⟨hP', hD'⟩ := mk_back hP hD hS hA isC isR perm hC hR hnd hdis hp hnp hk1 hB1 hB2
  rw [e1]
  exact kk H1 locs1 hP' hD' hS1
theorem ec_vv {S : Type} {wf : S → va_W} {out : S} {w' : va_W} (Sx : CallFix p m c cc nL s args Ts own) (hM : Met l y ws rm (va_Pc (.ref b :: As) (mk_Pe D cl tys wc H.size)) (va_Qv (fun u => u = out) (mk_Be D cl wc H.size wf) (va_A wc H.size)) 0 0 (va_A wc H.size)) (cw : CallW R s args own C index y bytes maxL ret ws rm 0 0 n) (hrec : ∃ cell : Cell, H[b]? = some cell ∧ cell.vm.isStatics = false ∧ s.vm.findClass C = some cell.cls) (hK : va_K D cl tys s) (hP : va_P D cl w H) (hD : va_D A w) (hS : va_S A H0 H locs) (hA : ∀ q : Nat, H0.size ≤ q → A q)
    (isC isR perm : List Nat) (hPc : va_P D cl wc H) (hDc : va_D A wc) (hC : isC.map (fun i => w[i]?) = wc.map some) (hR : isR.map (fun i => w[i]?) = (isR.filterMap (fun i => w[i]?)).map some) (hnd : va_nd isR = true) (hdis : ∀ i ∈ isR, i ∉ isC) (hp : perm.map (fun i => (isR.filterMap (fun i => w[i]?) ++ wf out)[i]?) = w'.map some) (hnp : va_nd perm = true)
    (hn : As.length = n) (hsize : ls.size = nL) (hst : st = As.reverse ++ .ref b :: rest) (hr : (rest.map fun v => v.category).sum ≤ 8) (hdg : decode cc pc = .ok (.invokevirtual index, 3)) (hf : cells + 0 ≤ R.cells ∧ slots + 0 ≤ R.slots)
    (kk : ∀ (H : Heap) (locs : List Loc), va_P D cl w' H → va_D A w' → va_S A H0 H locs → W p l e R s m args below meth c H locs cells slots Q (F0 m (pc + 3) ls rest)) : W p l e R s m args below meth c H locs cells slots Q (F0 m pc ls st) := by
  have hF := va_free hD hS hA isC hC
  refine va_callv (va_runV Sx hM cw ⟨mk_blE, hrec, fun U hU hW => ⟨rfl, by rw [hU], by rw [hU]; exact hPc, va_K.moved hW.alike hK, hDc.weaken (fun _ _ _ _ => trivial)⟩⟩ rfl hn hsize hst (lv_room hr) hdg hf) hS (fun q _ h => hF q h) hF (fun u t H1 locs1 ht hvm hw hB hz1 hk1 hS1 => ?_)
  obtain ⟨hB1, hB2⟩ := hB
  have e2 : u = out := hw
  rw [ht] at hB1
  rw [e2] at hB1 hB2
  obtain ⟨hP', hD'⟩ := mk_back hP hD hS hA isC isR perm hC hR hnd hdis hp hnp hk1 hB1 hB2
  exact kk H1 locs1 hP' hD' hS1
/-- the callee's world is the caller's -/
theorem es_vi {S : Type} {wf : S → va_W} {out : Int32 × S} {w' : va_W} (Sx : CallFix p m c cc nL s args Ts own) (hM : Met l y ws rm (va_Pc (.ref b :: As) (mk_Pe D cl tys w H.size)) (va_Qi (fun r u => (r, u) = out) (mk_Be D cl w H.size wf) (va_A w H.size)) 0 0 (va_A w H.size)) (cw : CallW R s args own C index y bytes maxL ret ws rm 0 0 n) (hrec : ∃ cell : Cell, H[b]? = some cell ∧ cell.vm.isStatics = false ∧ s.vm.findClass C = some cell.cls) (hK : va_K D cl tys s) (hP : va_P D cl w H) (hD : va_D A w) (hS : va_S A H0 H locs) (hA : ∀ q : Nat, H0.size ≤ q → A q) (hw' : wf out.2 = w')
    (hn : As.length = n) (hsize : ls.size = nL) (hst : st = As.reverse ++ .ref b :: rest) (hr : (rest.map fun v => v.category).sum ≤ 8) (hdg : decode cc pc = .ok (.invokevirtual index, 3)) (hf : cells + 0 ≤ R.cells ∧ slots + 0 ≤ R.slots)
    (kk : ∀ (H : Heap) (locs : List Loc), va_P D cl w' H → va_D A w' → va_S A H0 H locs → W p l e R s m args below meth c H locs cells slots Q (F0 m (pc + 3) ls (.int out.1 :: rest))) : W p l e R s m args below meth c H locs cells slots Q (F0 m pc ls st) := by
  subst hw'
  have hF : ∀ q, va_A w H.size q → A q := fun q h => by
    rcases h with ⟨k, e, h⟩ | h
    · exact hD.2 k (q, e) h
    · exact hA q (Nat.le_trans hS.1 h)
  refine va_calli (va_runV Sx hM cw ⟨mk_blE, hrec, fun U hU hW => ⟨rfl, by rw [hU], by rw [hU]; exact hP, va_K.moved hW.alike hK, hD.weaken (fun _ _ _ _ => trivial)⟩⟩ rfl hn hsize hst (lv_room hr) hdg hf) hS (fun q _ h => hF q h) hF (fun r u t H1 locs1 ht hvm hw hB hz1 hk1 hS1 => ?_)
  obtain ⟨hB1, hB2⟩ := hB
  have e1 : r = out.1 := congrArg Prod.fst hw
  have e2 : u = out.2 := congrArg Prod.snd hw
  rw [ht] at hB1
  rw [e2] at hB1 hB2
  rw [e1]
  exact kk H1 locs1 hB1 (hB2.weaken (fun _ q _ h => hF q.1 h)) hS1
/-- the callee's world is the caller's -/
theorem es_vl {S : Type} {wf : S → va_W} {out : Int64 × S} {w' : va_W} (Sx : CallFix p m c cc nL s args Ts own) (hM : Met l y ws rm (va_Pc (.ref b :: As) (mk_Pe D cl tys w H.size)) (va_Ql (fun r u => (r, u) = out) (mk_Be D cl w H.size wf) (va_A w H.size)) 0 0 (va_A w H.size)) (cw : CallW R s args own C index y bytes maxL ret ws rm 0 0 n) (hrec : ∃ cell : Cell, H[b]? = some cell ∧ cell.vm.isStatics = false ∧ s.vm.findClass C = some cell.cls) (hK : va_K D cl tys s) (hP : va_P D cl w H) (hD : va_D A w) (hS : va_S A H0 H locs) (hA : ∀ q : Nat, H0.size ≤ q → A q) (hw' : wf out.2 = w')
    (hn : As.length = n) (hsize : ls.size = nL) (hst : st = As.reverse ++ .ref b :: rest) (hr : (rest.map fun v => v.category).sum ≤ 8) (hdg : decode cc pc = .ok (.invokevirtual index, 3)) (hf : cells + 0 ≤ R.cells ∧ slots + 0 ≤ R.slots)
    (kk : ∀ (H : Heap) (locs : List Loc), va_P D cl w' H → va_D A w' → va_S A H0 H locs → W p l e R s m args below meth c H locs cells slots Q (F0 m (pc + 3) ls (.long out.1 :: rest))) : W p l e R s m args below meth c H locs cells slots Q (F0 m pc ls st) := by
  subst hw'
  have hF : ∀ q, va_A w H.size q → A q := fun q h => by
    rcases h with ⟨k, e, h⟩ | h
    · exact hD.2 k (q, e) h
    · exact hA q (Nat.le_trans hS.1 h)
  refine va_calll (va_runV Sx hM cw ⟨mk_blE, hrec, fun U hU hW => ⟨rfl, by rw [hU], by rw [hU]; exact hP, va_K.moved hW.alike hK, hD.weaken (fun _ _ _ _ => trivial)⟩⟩ rfl hn hsize hst (lv_room hr) hdg hf) hS (fun q _ h => hF q h) hF (fun r u t H1 locs1 ht hvm hw hB hz1 hk1 hS1 => ?_)
  obtain ⟨hB1, hB2⟩ := hB
  have e1 : r = out.1 := congrArg Prod.fst hw
  have e2 : u = out.2 := congrArg Prod.snd hw
  rw [ht] at hB1
  rw [e2] at hB1 hB2
  rw [e1]
  exact kk H1 locs1 hB1 (hB2.weaken (fun _ q _ h => hF q.1 h)) hS1
/-- the callee's world is the caller's -/
theorem es_vv {S : Type} {wf : S → va_W} {out : S} {w' : va_W} (Sx : CallFix p m c cc nL s args Ts own) (hM : Met l y ws rm (va_Pc (.ref b :: As) (mk_Pe D cl tys w H.size)) (va_Qv (fun u => u = out) (mk_Be D cl w H.size wf) (va_A w H.size)) 0 0 (va_A w H.size)) (cw : CallW R s args own C index y bytes maxL ret ws rm 0 0 n) (hrec : ∃ cell : Cell, H[b]? = some cell ∧ cell.vm.isStatics = false ∧ s.vm.findClass C = some cell.cls) (hK : va_K D cl tys s) (hP : va_P D cl w H) (hD : va_D A w) (hS : va_S A H0 H locs) (hA : ∀ q : Nat, H0.size ≤ q → A q) (hw' : wf out = w')
    (hn : As.length = n) (hsize : ls.size = nL) (hst : st = As.reverse ++ .ref b :: rest) (hr : (rest.map fun v => v.category).sum ≤ 8) (hdg : decode cc pc = .ok (.invokevirtual index, 3)) (hf : cells + 0 ≤ R.cells ∧ slots + 0 ≤ R.slots)
    (kk : ∀ (H : Heap) (locs : List Loc), va_P D cl w' H → va_D A w' → va_S A H0 H locs → W p l e R s m args below meth c H locs cells slots Q (F0 m (pc + 3) ls rest)) : W p l e R s m args below meth c H locs cells slots Q (F0 m pc ls st) := by
  subst hw'
  have hF : ∀ q, va_A w H.size q → A q := fun q h => by
    rcases h with ⟨k, e, h⟩ | h
    · exact hD.2 k (q, e) h
    · exact hA q (Nat.le_trans hS.1 h)
  refine va_callv (va_runV Sx hM cw ⟨mk_blE, hrec, fun U hU hW => ⟨rfl, by rw [hU], by rw [hU]; exact hP, va_K.moved hW.alike hK, hD.weaken (fun _ _ _ _ => trivial)⟩⟩ rfl hn hsize hst (lv_room hr) hdg hf) hS (fun q _ h => hF q h) hF (fun u t H1 locs1 ht hvm hw hB hz1 hk1 hS1 => ?_)
  obtain ⟨hB1, hB2⟩ := hB
  have e2 : u = out := hw
  rw [ht] at hB1
  rw [e2] at hB1 hB2
  exact kk H1 locs1 hB1 (hB2.weaken (fun _ q _ h => hF q.1 h)) hS1
theorem mk_topi {x x' : Int32} (e1 : x' = x) (k : W p l e R s m args below meth c H locs cells slots Q (F0 m pc ls (.int x' :: rest))) : W p l e R s m args below meth c H locs cells slots Q (F0 m pc ls (.int x :: rest)) := e1 ▸ k
theorem mk_topl {x x' : Int64} (e1 : x' = x) (k : W p l e R s m args below meth c H locs cells slots Q (F0 m pc ls (.long x' :: rest))) : W p l e R s m args below meth c H locs cells slots Q (F0 m pc ls (.long x :: rest)) := e1 ▸ k
end MC
