/-! Contracts of the class's methods: a state before, a state behind. -/
/-! What nobody writes: Kind's constants, tables, String constants. -/
abbrev KN : List String := ["NULL", "TRUE", "FALSE", "NUMBER", "STRING", "ARRAY", "OBJECT"]
abbrev KO : List (String × String × String × List Int32) := [("java/lang/Enum", "ordinal", "I", [0, 1, 2, 3, 4, 5, 6])]
/-- a static that nobody looks into -/
def fz (Zd : Nat → Nat) : Option Nat := if Zd 4 = 0 then none else some (Zd 5)
def zk (Zd : Nat → Nat) (A : Nat → Prop) (U : State) (H : Heap) : Prop := va_En "PagedValues$Kind" "LPagedValues$Kind;" KN KO (fun i => Zd (8 + i)) A U H ∧ va_Z "PagedValues$1" "$SwitchMap$PagedValues$Kind" "[I" (.ref (Zd 1)) A U H ∧ va_Z "java/lang/Integer" "DigitOnes" "[B" (.ref (Zd 2)) A U H ∧ va_Z "java/lang/Integer" "DigitTens" "[B" (.ref (Zd 3)) A U H ∧ va_Z "jdk/internal/util/Preconditions" "SIOOBE_FORMATTER" "Ljava/util/function/BiFunction;" (va_rf (fz Zd)) A U H
def STR : List (String × Nat × String × Nat) := [("PagedValues$Selector", 7, "", 0), ("PagedValues$ValueParser", 82, "", 0), ("PagedValues$Value", 9, "", 0), ("PagedValues$Text", 68, "", 0), ("PagedValues$Patcher", 97, "", 0), ("PagedValues$ValueParser", 58, "null", 20), ("PagedValues$ValueParser", 67, "true", 21), ("PagedValues$ValueParser", 72, "false", 22), ("PagedValues$Value", 90, "null", 20), ("PagedValues$Value", 98, "true", 21), ("PagedValues$Value", 100, "false", 22), ("PagedValues$Patcher", 60, "op", 23), ("PagedValues$Patcher", 66, "path", 24), ("PagedValues$Patcher", 72, "add", 25), ("PagedValues$Patcher", 80, "replace", 26), ("PagedValues$Patcher", 82, "value", 27), ("PagedValues$Patcher", 88, "copy", 28), ("PagedValues$Patcher", 90, "from", 29), ("PagedValues$Patcher", 92, "remove", 30), ("PagedValues$Patcher", 161, "-", 31)]
def zs (Zd : Nat → Nat) (U : State) : Prop := ∀ q ∈ STR, vk_R q.1 q.2.1 q.2.2.1 (Zd q.2.2.2) U
/-- private methods that are called on objects of a subclass -/
def PRV : List MethodName := [⟨"java/lang/AbstractStringBuilder", "ensureCapacityInternal", "(I)V"⟩, ⟨"java/lang/AbstractStringBuilder", "newCapacity", "(I)I"⟩, ⟨"java/lang/AbstractStringBuilder", "putStringAt", "(ILjava/lang/String;)V"⟩, ⟨"java/lang/AbstractStringBuilder", "inflateIfNeededFor", "(Ljava/lang/String;)V"⟩]
def zp (U : State) : Prop := ∀ y ∈ PRV, (Cond.privateMethod y).before #[] U = true
theorem zp.warm {s U : State} (h : zp s) (hW : s.WarmedH U.vm) : zp U := fun y hy => Cond.privateMethod_warm hW (h y hy)
theorem zp.same {u U : State} (hv : u.vm = U.vm) (h : zp u) : zp U := fun y hy => by
  have h1 := h y hy
  simp only [Cond.before, Cond.holds, Cond.value] at h1 ⊢
  rw [← State.methodNamed?_of_vm hv, ← hv]; exact h1
def zy (Zd : Nat → Nat) (A : Nat → Prop) (U : State) (H : Heap) : Prop := zz Zd A U H ∧ zk Zd A U H ∧ zs Zd U ∧ zp U
theorem zk.moved {Zd : Nat → Nat} {A : Nat → Prop} {u U : State} {H : Heap} (hvm : u.vm.Alike U.vm) (h : zk Zd A u H) : zk Zd A U H := ⟨va_En.moved hvm h.1, va_Z.moved hvm h.2.1, va_Z.moved hvm h.2.2.1, va_Z.moved hvm h.2.2.2.1, va_Z.moved hvm h.2.2.2.2⟩
theorem zy.warm {Zd : Nat → Nat} {A : Nat → Prop} {s U : State} {H : Heap} (h : zy Zd A s H) (hW : s.WarmedH U.vm) : zy Zd A U H := ⟨h.1.warm hW, zk.moved hW.alike h.2.1, fun q hq => (h.2.2.1 q hq).warm hW, h.2.2.2.warm hW⟩
theorem zy.same {Zd : Nat → Nat} {A : Nat → Prop} {u U : State} {H : Heap} (hv : u.vm = U.vm) (h : zy Zd A u H) : zy Zd A U H := ⟨h.1.same hv, zk.moved (by rw [hv]; exact Vm.Alike.refl _) h.2.1, fun q hq => (h.2.2.1 q hq).same hv.symm, zp.same hv h.2.2.2⟩
theorem zy.kept {Zd : Nat → Nat} {A : Nat → Prop} {U : State} {H H1 : Heap} (h : zy Zd A U H) (hq : ∀ a : Nat, a < H.size → ¬ A a → H1[a]? = H[a]?) : zy Zd A U H1 := ⟨h.1.kept hq, ⟨h.2.1.1.kept hq, h.2.1.2.1.kept hq, h.2.1.2.2.1.kept hq, h.2.1.2.2.2.1.kept hq, h.2.1.2.2.2.2.kept hq⟩, h.2.2⟩
theorem zy.narrow {Zd : Nat → Nat} {A B : Nat → Prop} {U : State} {H : Heap} (h : zy Zd A U H) (hAB : ∀ q, B q → A q) : zy Zd B U H := ⟨h.1.narrow hAB, ⟨h.2.1.1.narrow hAB, h.2.1.2.1.narrow hAB, h.2.1.2.2.1.narrow hAB, h.2.1.2.2.2.1.narrow hAB, h.2.1.2.2.2.2.narrow hAB⟩, h.2.2⟩
/-- values of one word each; locals that hold such -/
def c1v (vs : List Value) : Prop := ∀ v ∈ vs, v.category = 1
theorem c1_n : c1v [] := fun v h => by cases h
theorem c1_c {v : Value} {vs : List Value} (h : v.category = 1) (hs : c1v vs) : c1v (v :: vs) := fun w hw => by
  rcases List.mem_cons.mp hw with rfl | h9
  · exact h
  · exact hs w h9
theorem rf_cat (x : Option Nat) : (va_rf x).category = 1 := by
  cases x <;> rfl
theorem rf_narO {n : String} (x : Option Nat) : narrow (.object n) (va_rf x) = va_rf x := by
  cases x <;> rfl
theorem rf_fitO {n : String} (x : Option Nat) : fits (.object n) (va_rf x) = true := by
  cases x <;> rfl
theorem rf_narA {n : FieldType} (x : Option Nat) : narrow (.array n) (va_rf x) = va_rf x := by
  cases x <;> rfl
theorem rf_fitA {n : FieldType} (x : Option Nat) : fits (.array n) (va_rf x) = true := by
  cases x <;> rfl
theorem c1_sum {vs : List Value} (h : c1v vs) : (vs.map fun v => v.category).sum = vs.length := by
  induction vs with
  | nil => rfl
  | cons v vs ih =>
    rw [List.map_cons, List.sum_cons, ih (fun w hw => h w (List.mem_cons_of_mem _ hw)), h v List.mem_cons_self, List.length_cons]
    omega
theorem c1_8 {vs : List Value} (h : c1v vs) (hl : vs.length ≤ 8) : (vs.map fun v => v.category).sum ≤ 8 := by
  rw [c1_sum h]; exact hl
def ar1 : Nat → List Value → List (Nat × Value)
  | _, [] => []
  | i, v :: vs => (i, v) :: ar1 (i + 1) vs
theorem args_c1 {vs : List Value} (h : c1v vs) (i : Nat) : lv_args i vs = ar1 i vs := by
  induction vs generalizing i with
  | nil => rfl
  | cons v vs ih =>
    have h1 := h v List.mem_cons_self
    show (i, v) :: lv_args (if v.category = 2 then i + 2 else i + 1) vs = (i, v) :: ar1 (i + 1) vs
    rw [h1, if_neg (by decide), ih (fun w hw => h w (List.mem_cons_of_mem _ hw))]
theorem sl_c1 {vs : List Value} (h : c1v vs) : (lg_sl vs).length = vs.length := by
  induction vs with
  | nil => rfl
  | cons v vs ih =>
    have h1 := h v List.mem_cons_self
    have h2 := ih (fun w hw => h w (List.mem_cons_of_mem _ hw))
    unfold lg_sl at h2 ⊢
    rw [List.flatMap_cons, h1, if_neg (by decide), List.length_append, h2]
    simp; omega
def lw (ls : Array Slot) (nL : Nat) (lv : List (Nat × Value)) : Prop := lv_has ls nL lv ∧ ∀ q ∈ lv, q.2.category = 1
theorem ar1_c1 {vs : List Value} (h : c1v vs) (i : Nat) : ∀ q ∈ ar1 i vs, q.2.category = 1 := by
  induction vs generalizing i with
  | nil => intro q hq; cases hq
  | cons v vs ih =>
    intro q hq
    rcases List.mem_cons.mp hq with rfl | h9
    · exact h v List.mem_cons_self
    · exact ih (fun w hw => h w (List.mem_cons_of_mem _ hw)) _ q h9
theorem lw_sub {ls : Array Slot} {nL : Nat} {l l' : List (Nat × Value)} (h : lw ls nL l) (ks : List Nat) (hl : lv_pick l ks = l') : lw ls nL l' := by
  refine ⟨lv_sub h.1 ks hl, fun q hq => ?_⟩
  rw [← hl] at hq
  obtain ⟨k, -, hk⟩ := List.mem_filterMap.mp hq
  exact h.2 q (List.mem_of_getElem? hk)
theorem lw_st {ls : Array Slot} {nL : Nat} {i : Nat} {v : Value} {lv lv' : List (Nat × Value)} (h : ∀ q ∈ lv, q.2.category = 1) (hv : v.category = 1) (he : (i, v) :: lv.filter (fun q => !(q.1 == i)) = lv') (h1 : lv_has ls nL ((i, v) :: lv.filter (fun q => !(q.1 == i) && !(q.1 + 1 == i && q.2.category == 2)))) : lw ls nL lv' := by
  have e : lv.filter (fun q => !(q.1 == i) && !(q.1 + 1 == i && q.2.category == 2)) = lv.filter (fun q => !(q.1 == i)) := by
    apply List.filter_congr
    intro q hq
    rw [h q hq]
    simp
  rw [e, he] at h1
  refine ⟨h1, fun q hq => ?_⟩
  rw [← he] at hq
  rcases List.mem_cons.mp hq with rfl | h9
  · exact hv
  · exact h q (List.mem_filter.mp h9).1
/-- how big the heap is, and that it keeps the bounds Zd 6 (cells), Zd 7 (slots) -/
def szH (Zd : Nat → Nat) (x : Nat × Nat) (H : Heap) : Prop := H.size = x.1 ∧ tot H = x.2 ∧ x.1 ≤ Zd 6 ∧ x.2 ≤ Zd 7
theorem szH.put {Zd : Nat → Nat} {x y : Nat × Nat} {H H1 : Heap} (h : szH Zd x H) (e1 : H1.size = H.size) (e2 : tot H1 = tot H) (e : x = y) : szH Zd y H1 := by
  subst e
  exact ⟨e1.trans h.1, e2.trans h.2.1, h.2.2⟩
/-- a room of d frames; cells and slots up to the bounds -/
abbrev rmH (Zd : Nat → Nat) (d : Nat) (x : Nat × Nat) : Room := rmD d (Zd 6 - x.1) (Zd 7 - x.2)
def pcH (G : Gk) (Zd : Nat → Nat) (K : KE) (st : CS) (U : State) : Prop := szH Zd st.1 U.heap ∧ va_P G.1 vwCl (wH G.2 st) U.heap ∧ va_K G.1 vwCl (TY G.2) U ∧ va_D (fun _ => True) (wH G.2 st) ∧ zy Zd (va_A (wH G.2 st) st.1.1) U U.heap ∧ rH G K (va_A (wH G.2 st) st.1.1) U U.heap
/-- where a walk stands: the heap holds the state st -/
def wsH (G : Gk) (Zd : Nat → Nat) (A : Nat → Prop) (s : State) (st : CS) (H : Heap) (locs : List Loc) : Prop := szH Zd st.1 H ∧ va_P G.1 vwCl (wH G.2 st) H ∧ va_D A (wH G.2 st) ∧ va_S A s.heap H locs
/-- what a walk may take as given throughout -/
def cxH (G : Gk) (Zd : Nat → Nat) (K : KE) (A : Nat → Prop) (R : Room) (s : State) : Prop := va_K G.1 vwCl (TY G.2) s ∧ (∀ q, s.heap.size ≤ q → A q) ∧ zy Zd A s s.heap ∧ rH G K A s s.heap ∧ R.cells = Zd 6 - s.heap.size ∧ R.slots = Zd 7 - tot s.heap
abbrev bH (G : Gk) (Zd : Nat → Nat) (st0 : CS) (A : Nat → Prop) (t : State) : Prop := szH Zd st0.1 t.heap ∧ va_P G.1 vwCl (wH G.2 st0) t.heap ∧ va_D A (wH G.2 st0)
abbrev hI (G : Gk) (Zd : Nat → Nat) (r0 : Int32) (st0 : CS) (A : Nat → Prop) : Array Value → State → Outcome → State → Prop := va_Qi (fun r (_ : Unit) => r = r0) (fun _ t => bH G Zd st0 A t) A
abbrev hV (G : Gk) (Zd : Nat → Nat) (st0 : CS) (A : Nat → Prop) : Array Value → State → Outcome → State → Prop := va_Qv (fun (_ : Unit) => True) (fun _ t => bH G Zd st0 A t) A
abbrev hQ (G : Gk) (Zd : Nat → Nat) (r0 : Option Nat) (st0 : CS) (A : Nat → Prop) : Array Value → State → Outcome → State → Prop := va_Qq (fun r (_ : Unit) => r = r0) (fun _ t => bH G Zd st0 A t) A
/-- a method's contract -/
abbrev CT (l : Launch) (y : MethodName) (cc : ByteArray) (maxL : Nat) (ret : Option FieldType) (G : Gk) (Zd : Nat → Nat) (K : KE) (d : Nat) (av : List Value) (st : CS) (Qc : (Nat → Prop) → Array Value → State → Outcome → State → Prop) : Prop := Met l y (Cond.code y cc maxL ret :: TB) (rmH Zd d st.1) (va_Pc av (pcH G Zd K st)) (Qc (va_A (wH G.2 st) st.1.1)) (rmH Zd d st.1).cells (rmH Zd d st.1).slots (va_A (wH G.2 st) st.1.1)
theorem pcH_blind {G : Gk} {Zd : Nat → Nat} {K : KE} {st : CS} {av : List Value} : FrameBlind (va_Pc av (pcH G Zd K st)) := by
  intro a U g mk q
  obtain ⟨q0, q1, q3, q4, q5, q6, q7⟩ := q
  exact ⟨q0, q1, q3, va_K.moved (u := U) (U := U.calling g mk a) (Vm.Alike.refl U.vm) q4, q5, zy.same (u := U) (U := U.calling g mk a) rfl q6, rH.moved (u := U) (U := U.calling g mk a) (Vm.Alike.refl U.vm) q7⟩
theorem frH {A : Nat → Prop} {w0 : va_W} {H0 H : Heap} {locs : List Loc} {sz : Nat} (hz : H.size = sz) (hD : va_D A w0) (hS : va_S A H0 H locs) (hA : ∀ q, H0.size ≤ q → A q) : ∀ q, va_A w0 sz q → A q := by
  subst hz
  exact fr_all hD hS hA
theorem pcH_at {G : Gk} {Zd : Nat → Nat} {K : KE} {st : CS} {s : State} {A : Nat → Prop} {R : Room} {H : Heap} {locs : List Loc} (hE : cxH G Zd K A R s) (hw : wsH G Zd A s st H locs) (U : State) (hU : U.heap = H) (hW : s.WarmedH U.vm) : pcH G Zd K st U := by
  obtain ⟨hK, hA, hZ, hR, -, -⟩ := hE
  obtain ⟨hz, hP, hD, hS⟩ := hw
  have hF := frH hz.1 hD hS hA
  exact ⟨by rw [hU]; exact hz, by rw [hU]; exact hP, va_K.moved hW.alike hK, hD.weaken (fun _ _ _ _ => trivial), by rw [hU]; exact ((hZ.kept hS.2.1).narrow hF).warm hW, by rw [hU]; exact rH.moved hW.alike ((hR.kept hS.2.1).narrow hF)⟩
set_option maxHeartbeats 2000000 in
theorem goH {l : Launch} {y : MethodName} {cc : ByteArray} {maxL d : Nat} {ret : Option FieldType} {G : Gk} {Zd : Nat → Nat} {K : KE} {av : List Value} {st : CS} {Qc : (Nat → Prop) → Array Value → State → Outcome → State → Prop}
    (own : String) (hcls : y.cls = own) (hpl : plainName y.cls = true) (hcat : c1v av) (hlen : av.length ≤ maxL)
    (body : ∀ (p : Program) (e : Env) (s : State) (m : MethodId) (below : List Frame) (meth : Method) (c : Code) (ls : Array Slot) (A : Nat → Prop) (args : Array Value) (Q : State → Prop), Q = MQ below (Qc A) args s (rmH Zd d st.1).cells (rmH Zd d st.1).slots A → p.tables.exec = Jvm.exec → c.code = cc → meth.sig.returnType = ret → meth.locks = false → c.maxLocals = maxL → s.vm.findClass own = some m.cls → (∀ w ∈ (Cond.code y cc maxL ret :: TB), w.before args s = true) → meth.name = y.name → lw ls maxL (ar1 0 av) → cxH G Zd K A (rmH Zd d st.1) s → wsH G Zd A s st s.heap [] → W p l e (rmH Zd d st.1) s m args below meth c s.heap [] 0 0 Q (F0 m 0 ls [])) :
    CT l y cc maxL ret G Zd K d av st Qc := by
  refine Met.ofW (cc := cc) (maxL := maxL) (ret := ret) hpl rfl ?_
  intro p e s m args below meth c s₁ B hml hv
  obtain ⟨rfl, hz, hP, hK, hD0, hZ, hR⟩ := hv
  have hown : s.vm.findClass own = some m.cls := by rw [← hcls]; exact findClass_of_methodNamed B.named
  rw [lg_entry_eq]
  exact body p e s m below meth c _ _ _ _ rfl B.exec B.bytes B.returns B.notSynchronized hml hown (atoms_spec (ws := Cond.code y cc maxL ret :: TB) B.pre) (name_of_methodNamed B.named B.method).1 ⟨by rw [← args_c1 hcat]; exact lv_entry av (n := maxL) (by rw [sl_c1 hcat]; exact hlen), ar1_c1 hcat 0⟩ ⟨hK, fun q h => Or.inr (by rw [← hz.1]; exact h), hZ, hR, by rw [hz.1], by rw [hz.2.1]⟩ ⟨hz, hP, hD0.self (sz := st.1.1), va_S.rf⟩
theorem W.tm {p : Program} {l : Launch} {e : Env} {R : Room} {s : State} {m : MethodId} {args : Array Value} {below : List Frame} {meth : Method} {c : Code} {H : Heap} {locs : List Loc} {cells slots : Nat} {Q : State → Prop} {g : JFrame} (kk : s.heap.size ≤ H.size → tot s.heap ≤ tot H → W p l e R s m args below meth c H locs (H.size - s.heap.size) (tot H - tot s.heap) Q g) : W p l e R s m args below meth c H locs cells slots Q g := by
  intro T hT X
  obtain ⟨h1, h2, h3, h4, h5, h6⟩ := X.same
  have hh : (T.setVm s.vm).heap = H := hT
  have hz : s.heap.size ≤ H.size := by rw [← hh]; exact h2
  have hsp := tot_split (s := s) (H := H) hz (fun a c hc => by
    obtain ⟨c', g1, g2, g3, -⟩ := h6 a c hc
    exact ⟨c', by rw [← hh]; exact g1, g3⟩)
  have ht : tot s.heap ≤ tot H := by omega
  exact W.tight _ _ (by omega) (by omega) (kk hz ht) T hT X
section FINH
variable {p : Program} {l : Launch} {e : Env} {R : Room} {s : State} {m : MethodId} {args : Array Value} {below : List Frame} {meth : Method} {c : Code} {H : Heap} {locs : List Loc} {cells slots : Nat} {cc : ByteArray} {pc : Nat} {ls : Array Slot} {G : Gk} {Zd : Nat → Nat} {K : KE} {A : Nat → Prop} {st0 : CS} {Q : State → Prop}
theorem finH_i {v : Int32} (hQ : Q = MQ below (hI G Zd v st0 A) args s R.cells R.slots A) (hx : p.tables.exec = Jvm.exec) (hb : c.code = cc) (hr : meth.sig.returnType = some .int) (hlk : meth.locks = false) (hE : cxH G Zd K A R s) (hw : wsH G Zd A s st0 H locs) (hdg : decode cc pc = .ok (.ireturn, 1)) :
    W p l e R s m args below meth c H locs cells slots Q (F0 m pc ls [.int v]) := by
  subst hQ
  obtain ⟨hz, hP, hD, hS⟩ := hw
  refine W.tm (fun z1 z2 => W.tight R.cells R.slots (by rw [hE.2.2.2.2.1]; have := hz.1; have := hz.2.2.1; omega) (by rw [hE.2.2.2.2.2]; have := hz.2.1; have := hz.2.2.2; omega) ?_)
  exact W.iret (v := v) hx hb hr (fun t ht2 hW => ⟨⟨v, (), rfl, rfl, by rw [ht2]; exact hz, by rw [ht2]; exact hP, hD⟩, hS.F ht2⟩) hS.2.2 hdg hlk
theorem finH_z {v : Int32} {ty : FieldType} (hQ : Q = MQ below (hI G Zd v st0 A) args s R.cells R.slots A) (hx : p.tables.exec = Jvm.exec) (hb : c.code = cc) (hr : meth.sig.returnType = some ty) (hlk : meth.locks = false) (hn : narrow ty (.int v) = .int v) (hE : cxH G Zd K A R s) (hw : wsH G Zd A s st0 H locs) (hdg : decode cc pc = .ok (.ireturn, 1)) :
    W p l e R s m args below meth c H locs cells slots Q (F0 m pc ls [.int v]) := by
  subst hQ
  obtain ⟨hz, hP, hD, hS⟩ := hw
  refine W.tm (fun z1 z2 => W.tight R.cells R.slots (by rw [hE.2.2.2.2.1]; have := hz.1; have := hz.2.2.1; omega) (by rw [hE.2.2.2.2.2]; have := hz.2.1; have := hz.2.2.2; omega) ?_)
  exact W.zret (v := v) hx hb hr hn (fun t ht2 hW => ⟨⟨v, (), rfl, rfl, by rw [ht2]; exact hz, by rw [ht2]; exact hP, hD⟩, hS.F ht2⟩) hS.2.2 hdg hlk
theorem finH_q {v : Option Nat} {w : Value} {ty : FieldType} (hQ : Q = MQ below (hQ G Zd v st0 A) args s R.cells R.slots A) (hx : p.tables.exec = Jvm.exec) (hb : c.code = cc) (hr : meth.sig.returnType = some ty) (hlk : meth.locks = false) (hv : w = va_rf v) (hrt : (∃ n, ty = FieldType.object n) ∨ ∃ t, ty = FieldType.array t) (hE : cxH G Zd K A R s) (hw : wsH G Zd A s st0 H locs) (hdg : decode cc pc = .ok (.areturn, 1)) :
    W p l e R s m args below meth c H locs cells slots Q (F0 m pc ls [w]) := by
  subst hQ hv
  obtain ⟨hz, hP, hD, hS⟩ := hw
  refine W.tm (fun z1 z2 => W.tight R.cells R.slots (by rw [hE.2.2.2.2.1]; have := hz.1; have := hz.2.2.1; omega) (by rw [hE.2.2.2.2.2]; have := hz.2.1; have := hz.2.2.2; omega) ?_)
  exact W.aret (v := va_rf v) hx hb hr hrt (va_rf_or v) (fun t ht2 hW => ⟨⟨v, (), rfl, rfl, by rw [ht2]; exact hz, by rw [ht2]; exact hP, hD⟩, hS.F ht2⟩) hS.2.2 hdg hlk
theorem finH_v (hQ : Q = MQ below (hV G Zd st0 A) args s R.cells R.slots A) (hx : p.tables.exec = Jvm.exec) (hb : c.code = cc) (hr : meth.sig.returnType = none) (hlk : meth.locks = false) (hE : cxH G Zd K A R s) (hw : wsH G Zd A s st0 H locs) (hdg : decode cc pc = .ok (.return_, 1)) :
    W p l e R s m args below meth c H locs cells slots Q (F0 m pc ls []) := by
  subst hQ
  obtain ⟨hz, hP, hD, hS⟩ := hw
  refine W.tm (fun z1 z2 => W.tight R.cells R.slots (by rw [hE.2.2.2.2.1]; have := hz.1; have := hz.2.2.1; omega) (by rw [hE.2.2.2.2.2]; have := hz.2.1; have := hz.2.2.2; omega) ?_)
  exact W.vret hx hb hr (fun t ht2 hW => ⟨⟨(), rfl, trivial, by rw [ht2]; exact hz, by rw [ht2]; exact hP, hD⟩, hS.F ht2⟩) hS.2.2 hdg hlk
end FINH
/-- a private method is selected on objects of a subclass too -/
theorem sel_priv {s : State} {args : Array Value} {C : String} {x y : MethodName} (h0 : (Cond.selects C x x).before args s = true) (hx : x.cls = y.cls) (hpriv : (Cond.privateMethod y).before #[] s = true) (hinst : (Cond.instanceMethod y).before args s = true) (hy : y.cls ≠ "java/lang/invoke/MethodHandle" ∧ y.cls ≠ "java/lang/invoke/VarHandle") : (Cond.selects C y y).before args s = true := by
  obtain ⟨c, r, m, hc, -, hm, -, k, hk, hni⟩ := Cond.selects_spec h0
  obtain ⟨mk, methM, hnamed, hmethM, -, -⟩ := Cond.instanceMethod_spec hinst
  have hfound : s.methodFound? y.cls y.name y.desc = some mk := State.methodFound?_of_named hnamed hy
  have hcls : mk.cls = m.cls := by
    have h1 := findClass_of_methodNamed hnamed
    have h2 := findClass_of_methodNamed hm
    rw [hx] at h2
    exact Option.some.inj (h1.symm.trans h2)
  have hpr : s.PrivateAt y := Cond.privateMethod_at hpriv
  have hsel : selectMethod {} s.vm c mk = .method mk := selectMethod_private hmethM (hpr mk methM hnamed hmethM)
  simp only [Cond.before, Cond.holds, Cond.value, hc, hfound, hnamed, hsel, hcls, hk]
  simp; exact hni
section KWU
variable {s : State} {args : Array Value} {own C owner : String} {index maxL n : Nat} {x0 y : MethodName} {bytes : ByteArray} {ret : Option FieldType} {R rm : Room} {x : Cond}
theorem kw_U (hts : ∀ w ∈ (x :: TB), w.before args s = true) (hc : Cond.code y bytes maxL ret ∈ TB) (h1 : Cond.methodLink own index x0 ∈ TB) (h4 : Cond.initialized y.cls ∈ TB) (h2 : Cond.instanceMethod y ∈ TB) (h3 : Cond.sameMethod x0.cls owner x0.name x0.desc ∈ TB) (hsel : (Cond.selects C x0 y).before args s = true) (hdc : va_Decl s ⟨owner, x0.name, x0.desc⟩) (hd : owner ≠ "java/lang/invoke/MethodHandle" ∧ owner ≠ "java/lang/invoke/VarHandle" ∧ (parseMethodDescriptor x0.desc).map (fun d => d.parameters.length) = some n) (hR : rm.frames + 1 ≤ R.frames ∧ 8 + (maxL + 11) + rm.locals ≤ R.locals) :
    va_CU R s args own C owner index x0 y bytes maxL ret (Cond.code y bytes maxL ret :: TB) rm rm.cells rm.slots n := by
  refine ⟨⟨rfl, rfl, hR.1, hR.2, pay_in hts (tb_GI hc), List.mem_cons_self⟩, hts _ (List.mem_cons_of_mem _ hc), hts _ (List.mem_cons_of_mem _ h4), ⟨hd.1, hd.2.1⟩, fun sig h => ?_, hts _ (List.mem_cons_of_mem _ h1), hts _ (List.mem_cons_of_mem _ h3), hdc, hsel, hts _ (List.mem_cons_of_mem _ h2)⟩
  have h2 := hd.2.2
  rw [h] at h2
  exact (Option.some.inj h2).symm
end KWU
section CALLH
variable {p : Program} {l : Launch} {e : Env} {R : Room} {s : State} {m : MethodId} {args : Array Value} {below : List Frame} {meth : Method} {c : Code} {H : Heap} {locs : List Loc} {cells slots : Nat} {Q : State → Prop} {cc bytes : ByteArray} {pc : Nat} {ls : Array Slot} {G : Gk} {Zd : Nat → Nat} {K : KE} {A : Nat → Prop} {nL maxL index n d ci : Nat} {st st0 : CS} {As rest stk : List Value} {Ts : List Cond} {own host C owner : String} {x y : MethodName} {ret : Option FieldType} {b : Nat} {q9 : vw_C} {u9 : Unit}
theorem hV_i {r0 : Int32} (F : CallFix p m c cc nL s args Ts own) (hM : CT l y bytes maxL ret G Zd K d (.ref b :: As) st (hI G Zd r0 st0)) (cw : CallW R s args own y.cls index y bytes maxL ret (Cond.code y bytes maxL ret :: TB) (rmH Zd d st.1) (rmH Zd d st.1).cells (rmH Zd d st.1).slots n) (hE : cxH G Zd K A R s) (hw : wsH G Zd A s st H locs) (hci : vwCl[ci]? = some q9) (hqc : q9.1 = y.cls) (ho : isO K st b ci = some u9) (hn : As.length = n) (hls : ls.size = nL) (hst : stk = As.reverse ++ .ref b :: rest) (hW : (rest.map fun v => v.category).sum ≤ 8) (hdg : decode cc pc = .ok (.invokevirtual index, 3))
    (kk : ∀ (H1 : Heap) (locs1 : List Loc) (cells1 slots1 : Nat), wsH G Zd A s st0 H1 locs1 → W p l e R s m args below meth c H1 locs1 cells1 slots1 Q (F0 m (pc + 3) ls (.int r0 :: rest))) : W p l e R s m args below meth c H locs cells slots Q (F0 m pc ls stk) := by
  have hF : ∀ q, va_A (wH G.2 st) st.1.1 q → A q := frH hw.1.1 hw.2.2.1 hw.2.2.2 hE.2.1
  have hz := hw.1
  have hrv := recvH (ci := ci) hE.1 hw.2.1 (hE.2.2.2.1.kept hw.2.2.2.2.1) hci ho
  rw [hqc] at hrv
  refine W.tm (fun z1 z2 => ?_)
  have hf : (H.size - s.heap.size) + (rmH Zd d st.1).cells ≤ R.cells ∧ (tot H - tot s.heap) + (rmH Zd d st.1).slots ≤ R.slots := by
    rw [hE.2.2.2.2.1, hE.2.2.2.2.2]
    show _ + (Zd 6 - st.1.1) ≤ _ ∧ _ + (Zd 7 - st.1.2) ≤ _
    obtain ⟨a1, a2, a3, a4⟩ := hz
    omega
  refine va_calli (va_runV F hM cw ⟨pcH_blind, hrv, fun U hU hW => ⟨rfl, pcH_at hE hw U hU hW⟩⟩ rfl hn hls hst (lv_room hW) hdg hf) hw.2.2.2 (fun q _ h => hF q h) hF (fun r u t H1 locs1 ht2 _ hp hB _ _ hS1 => ?_)
  subst hp
  exact kk H1 locs1 _ _ ⟨by rw [← ht2]; exact hB.1, by rw [← ht2]; exact hB.2.1, hB.2.2.weaken (fun _ _ _ h => hF _ h), hS1⟩
theorem hV_v (F : CallFix p m c cc nL s args Ts own) (hM : CT l y bytes maxL ret G Zd K d (.ref b :: As) st (hV G Zd st0)) (cw : CallW R s args own y.cls index y bytes maxL ret (Cond.code y bytes maxL ret :: TB) (rmH Zd d st.1) (rmH Zd d st.1).cells (rmH Zd d st.1).slots n) (hE : cxH G Zd K A R s) (hw : wsH G Zd A s st H locs) (hci : vwCl[ci]? = some q9) (hqc : q9.1 = y.cls) (ho : isO K st b ci = some u9) (hn : As.length = n) (hls : ls.size = nL) (hst : stk = As.reverse ++ .ref b :: rest) (hW : (rest.map fun v => v.category).sum ≤ 8) (hdg : decode cc pc = .ok (.invokevirtual index, 3))
    (kk : ∀ (H1 : Heap) (locs1 : List Loc) (cells1 slots1 : Nat), wsH G Zd A s st0 H1 locs1 → W p l e R s m args below meth c H1 locs1 cells1 slots1 Q (F0 m (pc + 3) ls (rest))) : W p l e R s m args below meth c H locs cells slots Q (F0 m pc ls stk) := by
  have hF : ∀ q, va_A (wH G.2 st) st.1.1 q → A q := frH hw.1.1 hw.2.2.1 hw.2.2.2 hE.2.1
  have hz := hw.1
  have hrv := recvH (ci := ci) hE.1 hw.2.1 (hE.2.2.2.1.kept hw.2.2.2.2.1) hci ho
  rw [hqc] at hrv
  refine W.tm (fun z1 z2 => ?_)
  have hf : (H.size - s.heap.size) + (rmH Zd d st.1).cells ≤ R.cells ∧ (tot H - tot s.heap) + (rmH Zd d st.1).slots ≤ R.slots := by
    rw [hE.2.2.2.2.1, hE.2.2.2.2.2]
    show _ + (Zd 6 - st.1.1) ≤ _ ∧ _ + (Zd 7 - st.1.2) ≤ _
    obtain ⟨a1, a2, a3, a4⟩ := hz
    omega
  refine va_callv (va_runV F hM cw ⟨pcH_blind, hrv, fun U hU hW => ⟨rfl, pcH_at hE hw U hU hW⟩⟩ rfl hn hls hst (lv_room hW) hdg hf) hw.2.2.2 (fun q _ h => hF q h) hF (fun u t H1 locs1 ht2 _ hp hB _ _ hS1 => ?_)
  exact kk H1 locs1 _ _ ⟨by rw [← ht2]; exact hB.1, by rw [← ht2]; exact hB.2.1, hB.2.2.weaken (fun _ _ _ h => hF _ h), hS1⟩
theorem hV_q {r0 : Option Nat} (F : CallFix p m c cc nL s args Ts own) (hM : CT l y bytes maxL ret G Zd K d (.ref b :: As) st (hQ G Zd r0 st0)) (cw : CallW R s args own y.cls index y bytes maxL ret (Cond.code y bytes maxL ret :: TB) (rmH Zd d st.1) (rmH Zd d st.1).cells (rmH Zd d st.1).slots n) (hE : cxH G Zd K A R s) (hw : wsH G Zd A s st H locs) (hci : vwCl[ci]? = some q9) (hqc : q9.1 = y.cls) (ho : isO K st b ci = some u9) (hn : As.length = n) (hls : ls.size = nL) (hst : stk = As.reverse ++ .ref b :: rest) (hW : (rest.map fun v => v.category).sum ≤ 8) (hdg : decode cc pc = .ok (.invokevirtual index, 3))
    (kk : ∀ (H1 : Heap) (locs1 : List Loc) (cells1 slots1 : Nat), wsH G Zd A s st0 H1 locs1 → W p l e R s m args below meth c H1 locs1 cells1 slots1 Q (F0 m (pc + 3) ls (va_rf r0 :: rest))) : W p l e R s m args below meth c H locs cells slots Q (F0 m pc ls stk) := by
  have hF : ∀ q, va_A (wH G.2 st) st.1.1 q → A q := frH hw.1.1 hw.2.2.1 hw.2.2.2 hE.2.1
  have hz := hw.1
  have hrv := recvH (ci := ci) hE.1 hw.2.1 (hE.2.2.2.1.kept hw.2.2.2.2.1) hci ho
  rw [hqc] at hrv
  refine W.tm (fun z1 z2 => ?_)
  have hf : (H.size - s.heap.size) + (rmH Zd d st.1).cells ≤ R.cells ∧ (tot H - tot s.heap) + (rmH Zd d st.1).slots ≤ R.slots := by
    rw [hE.2.2.2.2.1, hE.2.2.2.2.2]
    show _ + (Zd 6 - st.1.1) ≤ _ ∧ _ + (Zd 7 - st.1.2) ≤ _
    obtain ⟨a1, a2, a3, a4⟩ := hz
    omega
  refine va_callq (va_runV F hM cw ⟨pcH_blind, hrv, fun U hU hW => ⟨rfl, pcH_at hE hw U hU hW⟩⟩ rfl hn hls hst (lv_room hW) hdg hf) hw.2.2.2 (fun q _ h => hF q h) hF (fun r u t H1 locs1 ht2 _ hp hB _ _ hS1 => ?_)
  subst hp
  exact kk H1 locs1 _ _ ⟨by rw [← ht2]; exact hB.1, by rw [← ht2]; exact hB.2.1, hB.2.2.weaken (fun _ _ _ h => hF _ h), hS1⟩
theorem hS_i {r0 : Int32} (F : CallFix p m c cc nL s args Ts own) (hM : CT l y bytes maxL ret G Zd K d As st (hI G Zd r0 st0)) (cw : CallB R s args own index y bytes maxL ret (Cond.code y bytes maxL ret :: TB) (rmH Zd d st.1) (rmH Zd d st.1).cells (rmH Zd d st.1).slots n ∧ (Cond.static y).before args s = true) (hE : cxH G Zd K A R s) (hw : wsH G Zd A s st H locs) (hn : As.length = n) (hls : ls.size = nL) (hst : stk = As.reverse ++ rest) (hW : (rest.map fun v => v.category).sum ≤ 8) (hdg : decode cc pc = .ok (.invokestatic index, 3))
    (kk : ∀ (H1 : Heap) (locs1 : List Loc) (cells1 slots1 : Nat), wsH G Zd A s st0 H1 locs1 → W p l e R s m args below meth c H1 locs1 cells1 slots1 Q (F0 m (pc + 3) ls (.int r0 :: rest))) : W p l e R s m args below meth c H locs cells slots Q (F0 m pc ls stk) := by
  have hF : ∀ q, va_A (wH G.2 st) st.1.1 q → A q := frH hw.1.1 hw.2.2.1 hw.2.2.2 hE.2.1
  have hz := hw.1
  refine W.tm (fun z1 z2 => ?_)
  have hf : (H.size - s.heap.size) + (rmH Zd d st.1).cells ≤ R.cells ∧ (tot H - tot s.heap) + (rmH Zd d st.1).slots ≤ R.slots := by
    rw [hE.2.2.2.2.1, hE.2.2.2.2.2]
    show _ + (Zd 6 - st.1.1) ≤ _ ∧ _ + (Zd 7 - st.1.2) ≤ _
    obtain ⟨a1, a2, a3, a4⟩ := hz
    omega
  refine va_calli (va_runS F hM cw ⟨pcH_blind, fun U hU hW => ⟨rfl, pcH_at hE hw U hU hW⟩⟩ rfl hn hls hst (lv_room hW) hdg hf) hw.2.2.2 (fun q _ h => hF q h) hF (fun r u t H1 locs1 ht2 _ hp hB _ _ hS1 => ?_)
  subst hp
  exact kk H1 locs1 _ _ ⟨by rw [← ht2]; exact hB.1, by rw [← ht2]; exact hB.2.1, hB.2.2.weaken (fun _ _ _ h => hF _ h), hS1⟩
theorem hS_v (F : CallFix p m c cc nL s args Ts own) (hM : CT l y bytes maxL ret G Zd K d As st (hV G Zd st0)) (cw : CallB R s args own index y bytes maxL ret (Cond.code y bytes maxL ret :: TB) (rmH Zd d st.1) (rmH Zd d st.1).cells (rmH Zd d st.1).slots n ∧ (Cond.static y).before args s = true) (hE : cxH G Zd K A R s) (hw : wsH G Zd A s st H locs) (hn : As.length = n) (hls : ls.size = nL) (hst : stk = As.reverse ++ rest) (hW : (rest.map fun v => v.category).sum ≤ 8) (hdg : decode cc pc = .ok (.invokestatic index, 3))
    (kk : ∀ (H1 : Heap) (locs1 : List Loc) (cells1 slots1 : Nat), wsH G Zd A s st0 H1 locs1 → W p l e R s m args below meth c H1 locs1 cells1 slots1 Q (F0 m (pc + 3) ls (rest))) : W p l e R s m args below meth c H locs cells slots Q (F0 m pc ls stk) := by
  have hF : ∀ q, va_A (wH G.2 st) st.1.1 q → A q := frH hw.1.1 hw.2.2.1 hw.2.2.2 hE.2.1
  have hz := hw.1
  refine W.tm (fun z1 z2 => ?_)
  have hf : (H.size - s.heap.size) + (rmH Zd d st.1).cells ≤ R.cells ∧ (tot H - tot s.heap) + (rmH Zd d st.1).slots ≤ R.slots := by
    rw [hE.2.2.2.2.1, hE.2.2.2.2.2]
    show _ + (Zd 6 - st.1.1) ≤ _ ∧ _ + (Zd 7 - st.1.2) ≤ _
    obtain ⟨a1, a2, a3, a4⟩ := hz
    omega
  refine va_callv (va_runS F hM cw ⟨pcH_blind, fun U hU hW => ⟨rfl, pcH_at hE hw U hU hW⟩⟩ rfl hn hls hst (lv_room hW) hdg hf) hw.2.2.2 (fun q _ h => hF q h) hF (fun u t H1 locs1 ht2 _ hp hB _ _ hS1 => ?_)
  exact kk H1 locs1 _ _ ⟨by rw [← ht2]; exact hB.1, by rw [← ht2]; exact hB.2.1, hB.2.2.weaken (fun _ _ _ h => hF _ h), hS1⟩
theorem hS_q {r0 : Option Nat} (F : CallFix p m c cc nL s args Ts own) (hM : CT l y bytes maxL ret G Zd K d As st (hQ G Zd r0 st0)) (cw : CallB R s args own index y bytes maxL ret (Cond.code y bytes maxL ret :: TB) (rmH Zd d st.1) (rmH Zd d st.1).cells (rmH Zd d st.1).slots n ∧ (Cond.static y).before args s = true) (hE : cxH G Zd K A R s) (hw : wsH G Zd A s st H locs) (hn : As.length = n) (hls : ls.size = nL) (hst : stk = As.reverse ++ rest) (hW : (rest.map fun v => v.category).sum ≤ 8) (hdg : decode cc pc = .ok (.invokestatic index, 3))
    (kk : ∀ (H1 : Heap) (locs1 : List Loc) (cells1 slots1 : Nat), wsH G Zd A s st0 H1 locs1 → W p l e R s m args below meth c H1 locs1 cells1 slots1 Q (F0 m (pc + 3) ls (va_rf r0 :: rest))) : W p l e R s m args below meth c H locs cells slots Q (F0 m pc ls stk) := by
  have hF : ∀ q, va_A (wH G.2 st) st.1.1 q → A q := frH hw.1.1 hw.2.2.1 hw.2.2.2 hE.2.1
  have hz := hw.1
  refine W.tm (fun z1 z2 => ?_)
  have hf : (H.size - s.heap.size) + (rmH Zd d st.1).cells ≤ R.cells ∧ (tot H - tot s.heap) + (rmH Zd d st.1).slots ≤ R.slots := by
    rw [hE.2.2.2.2.1, hE.2.2.2.2.2]
    show _ + (Zd 6 - st.1.1) ≤ _ ∧ _ + (Zd 7 - st.1.2) ≤ _
    obtain ⟨a1, a2, a3, a4⟩ := hz
    omega
  refine va_callq (va_runS F hM cw ⟨pcH_blind, fun U hU hW => ⟨rfl, pcH_at hE hw U hU hW⟩⟩ rfl hn hls hst (lv_room hW) hdg hf) hw.2.2.2 (fun q _ h => hF q h) hF (fun r u t H1 locs1 ht2 _ hp hB _ _ hS1 => ?_)
  subst hp
  exact kk H1 locs1 _ _ ⟨by rw [← ht2]; exact hB.1, by rw [← ht2]; exact hB.2.1, hB.2.2.weaken (fun _ _ _ h => hF _ h), hS1⟩
theorem hI_v (F : CallFix p m c cc nL s args Ts own) (hM : CT l y bytes maxL none G Zd K d (.ref b :: As) st (hV G Zd st0)) (cw : CallB R s args own index y bytes maxL none (Cond.code y bytes maxL none :: TB) (rmH Zd d st.1) (rmH Zd d st.1).cells (rmH Zd d st.1).slots n ∧ y.name = "<init>" ∧ (Cond.instanceMethod y).before args s = true) (hE : cxH G Zd K A R s) (hw : wsH G Zd A s st H locs) (hn : As.length = n) (hls : ls.size = nL) (hst : stk = As.reverse ++ .ref b :: rest) (hW : (rest.map fun v => v.category).sum ≤ 8) (hdg : decode cc pc = .ok (.invokespecial index, 3))
    (kk : ∀ (H1 : Heap) (locs1 : List Loc) (cells1 slots1 : Nat), wsH G Zd A s st0 H1 locs1 → W p l e R s m args below meth c H1 locs1 cells1 slots1 Q (F0 m (pc + 3) ls (rest))) : W p l e R s m args below meth c H locs cells slots Q (F0 m pc ls stk) := by
  have hF : ∀ q, va_A (wH G.2 st) st.1.1 q → A q := frH hw.1.1 hw.2.2.1 hw.2.2.2 hE.2.1
  have hz := hw.1
  refine W.tm (fun z1 z2 => ?_)
  have hf : (H.size - s.heap.size) + (rmH Zd d st.1).cells ≤ R.cells ∧ (tot H - tot s.heap) + (rmH Zd d st.1).slots ≤ R.slots := by
    rw [hE.2.2.2.2.1, hE.2.2.2.2.2]
    show _ + (Zd 6 - st.1.1) ≤ _ ∧ _ + (Zd 7 - st.1.2) ≤ _
    obtain ⟨a1, a2, a3, a4⟩ := hz
    omega
  refine va_callv (va_runI F hM cw ⟨pcH_blind, fun U hU hW => ⟨rfl, pcH_at hE hw U hU hW⟩⟩ rfl hn hls hst (lv_room hW) hdg hf) hw.2.2.2 (fun q _ h => hF q h) hF (fun u t H1 locs1 ht2 _ hp hB _ _ hS1 => ?_)
  exact kk H1 locs1 _ _ ⟨by rw [← ht2]; exact hB.1, by rw [← ht2]; exact hB.2.1, hB.2.2.weaken (fun _ _ _ h => hF _ h), hS1⟩
theorem hVN_i {r0 : Int32} (F : CallFix p m c cc nL s args Ts own) (hM : CT l y bytes maxL ret G Zd K d (.ref b :: As) st (hI G Zd r0 st0)) (cw : va_CN R s args own index y host bytes maxL ret (Cond.code y bytes maxL ret :: TB) (rmH Zd d st.1) (rmH Zd d st.1).cells (rmH Zd d st.1).slots n ∧ (Cond.instanceMethod y).before args s = true ∧ (Cond.selects y.cls y y).before args s = true) (hE : cxH G Zd K A R s) (hw : wsH G Zd A s st H locs) (hci : vwCl[ci]? = some q9) (hqc : q9.1 = y.cls) (ho : isO K st b ci = some u9) (hn : As.length = n) (hls : ls.size = nL) (hst : stk = As.reverse ++ .ref b :: rest) (hW : (rest.map fun v => v.category).sum ≤ 8) (hdg : decode cc pc = .ok (.invokevirtual index, 3))
    (kk : ∀ (H1 : Heap) (locs1 : List Loc) (cells1 slots1 : Nat), wsH G Zd A s st0 H1 locs1 → W p l e R s m args below meth c H1 locs1 cells1 slots1 Q (F0 m (pc + 3) ls (.int r0 :: rest))) : W p l e R s m args below meth c H locs cells slots Q (F0 m pc ls stk) := by
  have hF : ∀ q, va_A (wH G.2 st) st.1.1 q → A q := frH hw.1.1 hw.2.2.1 hw.2.2.2 hE.2.1
  have hz := hw.1
  have hrv := recvH (ci := ci) hE.1 hw.2.1 (hE.2.2.2.1.kept hw.2.2.2.2.1) hci ho
  rw [hqc] at hrv
  refine W.tm (fun z1 z2 => ?_)
  have hf : (H.size - s.heap.size) + (rmH Zd d st.1).cells ≤ R.cells ∧ (tot H - tot s.heap) + (rmH Zd d st.1).slots ≤ R.slots := by
    rw [hE.2.2.2.2.1, hE.2.2.2.2.2]
    show _ + (Zd 6 - st.1.1) ≤ _ ∧ _ + (Zd 7 - st.1.2) ≤ _
    obtain ⟨a1, a2, a3, a4⟩ := hz
    omega
  refine va_calli (va_runVN F hM cw ⟨pcH_blind, hrv, fun U hU hW => ⟨rfl, pcH_at hE hw U hU hW⟩⟩ rfl hn hls hst (lv_room hW) hdg hf) hw.2.2.2 (fun q _ h => hF q h) hF (fun r u t H1 locs1 ht2 _ hp hB _ _ hS1 => ?_)
  subst hp
  exact kk H1 locs1 _ _ ⟨by rw [← ht2]; exact hB.1, by rw [← ht2]; exact hB.2.1, hB.2.2.weaken (fun _ _ _ h => hF _ h), hS1⟩
theorem hVN_v (F : CallFix p m c cc nL s args Ts own) (hM : CT l y bytes maxL ret G Zd K d (.ref b :: As) st (hV G Zd st0)) (cw : va_CN R s args own index y host bytes maxL ret (Cond.code y bytes maxL ret :: TB) (rmH Zd d st.1) (rmH Zd d st.1).cells (rmH Zd d st.1).slots n ∧ (Cond.instanceMethod y).before args s = true ∧ (Cond.selects y.cls y y).before args s = true) (hE : cxH G Zd K A R s) (hw : wsH G Zd A s st H locs) (hci : vwCl[ci]? = some q9) (hqc : q9.1 = y.cls) (ho : isO K st b ci = some u9) (hn : As.length = n) (hls : ls.size = nL) (hst : stk = As.reverse ++ .ref b :: rest) (hW : (rest.map fun v => v.category).sum ≤ 8) (hdg : decode cc pc = .ok (.invokevirtual index, 3))
    (kk : ∀ (H1 : Heap) (locs1 : List Loc) (cells1 slots1 : Nat), wsH G Zd A s st0 H1 locs1 → W p l e R s m args below meth c H1 locs1 cells1 slots1 Q (F0 m (pc + 3) ls (rest))) : W p l e R s m args below meth c H locs cells slots Q (F0 m pc ls stk) := by
  have hF : ∀ q, va_A (wH G.2 st) st.1.1 q → A q := frH hw.1.1 hw.2.2.1 hw.2.2.2 hE.2.1
  have hz := hw.1
  have hrv := recvH (ci := ci) hE.1 hw.2.1 (hE.2.2.2.1.kept hw.2.2.2.2.1) hci ho
  rw [hqc] at hrv
  refine W.tm (fun z1 z2 => ?_)
  have hf : (H.size - s.heap.size) + (rmH Zd d st.1).cells ≤ R.cells ∧ (tot H - tot s.heap) + (rmH Zd d st.1).slots ≤ R.slots := by
    rw [hE.2.2.2.2.1, hE.2.2.2.2.2]
    show _ + (Zd 6 - st.1.1) ≤ _ ∧ _ + (Zd 7 - st.1.2) ≤ _
    obtain ⟨a1, a2, a3, a4⟩ := hz
    omega
  refine va_callv (va_runVN F hM cw ⟨pcH_blind, hrv, fun U hU hW => ⟨rfl, pcH_at hE hw U hU hW⟩⟩ rfl hn hls hst (lv_room hW) hdg hf) hw.2.2.2 (fun q _ h => hF q h) hF (fun u t H1 locs1 ht2 _ hp hB _ _ hS1 => ?_)
  exact kk H1 locs1 _ _ ⟨by rw [← ht2]; exact hB.1, by rw [← ht2]; exact hB.2.1, hB.2.2.weaken (fun _ _ _ h => hF _ h), hS1⟩
theorem hVN_q {r0 : Option Nat} (F : CallFix p m c cc nL s args Ts own) (hM : CT l y bytes maxL ret G Zd K d (.ref b :: As) st (hQ G Zd r0 st0)) (cw : va_CN R s args own index y host bytes maxL ret (Cond.code y bytes maxL ret :: TB) (rmH Zd d st.1) (rmH Zd d st.1).cells (rmH Zd d st.1).slots n ∧ (Cond.instanceMethod y).before args s = true ∧ (Cond.selects y.cls y y).before args s = true) (hE : cxH G Zd K A R s) (hw : wsH G Zd A s st H locs) (hci : vwCl[ci]? = some q9) (hqc : q9.1 = y.cls) (ho : isO K st b ci = some u9) (hn : As.length = n) (hls : ls.size = nL) (hst : stk = As.reverse ++ .ref b :: rest) (hW : (rest.map fun v => v.category).sum ≤ 8) (hdg : decode cc pc = .ok (.invokevirtual index, 3))
    (kk : ∀ (H1 : Heap) (locs1 : List Loc) (cells1 slots1 : Nat), wsH G Zd A s st0 H1 locs1 → W p l e R s m args below meth c H1 locs1 cells1 slots1 Q (F0 m (pc + 3) ls (va_rf r0 :: rest))) : W p l e R s m args below meth c H locs cells slots Q (F0 m pc ls stk) := by
  have hF : ∀ q, va_A (wH G.2 st) st.1.1 q → A q := frH hw.1.1 hw.2.2.1 hw.2.2.2 hE.2.1
  have hz := hw.1
  have hrv := recvH (ci := ci) hE.1 hw.2.1 (hE.2.2.2.1.kept hw.2.2.2.2.1) hci ho
  rw [hqc] at hrv
  refine W.tm (fun z1 z2 => ?_)
  have hf : (H.size - s.heap.size) + (rmH Zd d st.1).cells ≤ R.cells ∧ (tot H - tot s.heap) + (rmH Zd d st.1).slots ≤ R.slots := by
    rw [hE.2.2.2.2.1, hE.2.2.2.2.2]
    show _ + (Zd 6 - st.1.1) ≤ _ ∧ _ + (Zd 7 - st.1.2) ≤ _
    obtain ⟨a1, a2, a3, a4⟩ := hz
    omega
  refine va_callq (va_runVN F hM cw ⟨pcH_blind, hrv, fun U hU hW => ⟨rfl, pcH_at hE hw U hU hW⟩⟩ rfl hn hls hst (lv_room hW) hdg hf) hw.2.2.2 (fun q _ h => hF q h) hF (fun r u t H1 locs1 ht2 _ hp hB _ _ hS1 => ?_)
  subst hp
  exact kk H1 locs1 _ _ ⟨by rw [← ht2]; exact hB.1, by rw [← ht2]; exact hB.2.1, hB.2.2.weaken (fun _ _ _ h => hF _ h), hS1⟩
theorem hSN_i {r0 : Int32} (F : CallFix p m c cc nL s args Ts own) (hM : CT l y bytes maxL ret G Zd K d As st (hI G Zd r0 st0)) (cw : va_CN R s args own index y host bytes maxL ret (Cond.code y bytes maxL ret :: TB) (rmH Zd d st.1) (rmH Zd d st.1).cells (rmH Zd d st.1).slots n ∧ (Cond.static y).before args s = true ∧ True) (hE : cxH G Zd K A R s) (hw : wsH G Zd A s st H locs) (hn : As.length = n) (hls : ls.size = nL) (hst : stk = As.reverse ++ rest) (hW : (rest.map fun v => v.category).sum ≤ 8) (hdg : decode cc pc = .ok (.invokestatic index, 3))
    (kk : ∀ (H1 : Heap) (locs1 : List Loc) (cells1 slots1 : Nat), wsH G Zd A s st0 H1 locs1 → W p l e R s m args below meth c H1 locs1 cells1 slots1 Q (F0 m (pc + 3) ls (.int r0 :: rest))) : W p l e R s m args below meth c H locs cells slots Q (F0 m pc ls stk) := by
  have hF : ∀ q, va_A (wH G.2 st) st.1.1 q → A q := frH hw.1.1 hw.2.2.1 hw.2.2.2 hE.2.1
  have hz := hw.1
  refine W.tm (fun z1 z2 => ?_)
  have hf : (H.size - s.heap.size) + (rmH Zd d st.1).cells ≤ R.cells ∧ (tot H - tot s.heap) + (rmH Zd d st.1).slots ≤ R.slots := by
    rw [hE.2.2.2.2.1, hE.2.2.2.2.2]
    show _ + (Zd 6 - st.1.1) ≤ _ ∧ _ + (Zd 7 - st.1.2) ≤ _
    obtain ⟨a1, a2, a3, a4⟩ := hz
    omega
  refine va_calli (va_runSN F hM cw ⟨pcH_blind, fun U hU hW => ⟨rfl, pcH_at hE hw U hU hW⟩⟩ rfl hn hls hst (lv_room hW) hdg hf) hw.2.2.2 (fun q _ h => hF q h) hF (fun r u t H1 locs1 ht2 _ hp hB _ _ hS1 => ?_)
  subst hp
  exact kk H1 locs1 _ _ ⟨by rw [← ht2]; exact hB.1, by rw [← ht2]; exact hB.2.1, hB.2.2.weaken (fun _ _ _ h => hF _ h), hS1⟩
theorem hSN_v (F : CallFix p m c cc nL s args Ts own) (hM : CT l y bytes maxL ret G Zd K d As st (hV G Zd st0)) (cw : va_CN R s args own index y host bytes maxL ret (Cond.code y bytes maxL ret :: TB) (rmH Zd d st.1) (rmH Zd d st.1).cells (rmH Zd d st.1).slots n ∧ (Cond.static y).before args s = true ∧ True) (hE : cxH G Zd K A R s) (hw : wsH G Zd A s st H locs) (hn : As.length = n) (hls : ls.size = nL) (hst : stk = As.reverse ++ rest) (hW : (rest.map fun v => v.category).sum ≤ 8) (hdg : decode cc pc = .ok (.invokestatic index, 3))
    (kk : ∀ (H1 : Heap) (locs1 : List Loc) (cells1 slots1 : Nat), wsH G Zd A s st0 H1 locs1 → W p l e R s m args below meth c H1 locs1 cells1 slots1 Q (F0 m (pc + 3) ls (rest))) : W p l e R s m args below meth c H locs cells slots Q (F0 m pc ls stk) := by
  have hF : ∀ q, va_A (wH G.2 st) st.1.1 q → A q := frH hw.1.1 hw.2.2.1 hw.2.2.2 hE.2.1
  have hz := hw.1
  refine W.tm (fun z1 z2 => ?_)
  have hf : (H.size - s.heap.size) + (rmH Zd d st.1).cells ≤ R.cells ∧ (tot H - tot s.heap) + (rmH Zd d st.1).slots ≤ R.slots := by
    rw [hE.2.2.2.2.1, hE.2.2.2.2.2]
    show _ + (Zd 6 - st.1.1) ≤ _ ∧ _ + (Zd 7 - st.1.2) ≤ _
    obtain ⟨a1, a2, a3, a4⟩ := hz
    omega
  refine va_callv (va_runSN F hM cw ⟨pcH_blind, fun U hU hW => ⟨rfl, pcH_at hE hw U hU hW⟩⟩ rfl hn hls hst (lv_room hW) hdg hf) hw.2.2.2 (fun q _ h => hF q h) hF (fun u t H1 locs1 ht2 _ hp hB _ _ hS1 => ?_)
  exact kk H1 locs1 _ _ ⟨by rw [← ht2]; exact hB.1, by rw [← ht2]; exact hB.2.1, hB.2.2.weaken (fun _ _ _ h => hF _ h), hS1⟩
theorem hSN_q {r0 : Option Nat} (F : CallFix p m c cc nL s args Ts own) (hM : CT l y bytes maxL ret G Zd K d As st (hQ G Zd r0 st0)) (cw : va_CN R s args own index y host bytes maxL ret (Cond.code y bytes maxL ret :: TB) (rmH Zd d st.1) (rmH Zd d st.1).cells (rmH Zd d st.1).slots n ∧ (Cond.static y).before args s = true ∧ True) (hE : cxH G Zd K A R s) (hw : wsH G Zd A s st H locs) (hn : As.length = n) (hls : ls.size = nL) (hst : stk = As.reverse ++ rest) (hW : (rest.map fun v => v.category).sum ≤ 8) (hdg : decode cc pc = .ok (.invokestatic index, 3))
    (kk : ∀ (H1 : Heap) (locs1 : List Loc) (cells1 slots1 : Nat), wsH G Zd A s st0 H1 locs1 → W p l e R s m args below meth c H1 locs1 cells1 slots1 Q (F0 m (pc + 3) ls (va_rf r0 :: rest))) : W p l e R s m args below meth c H locs cells slots Q (F0 m pc ls stk) := by
  have hF : ∀ q, va_A (wH G.2 st) st.1.1 q → A q := frH hw.1.1 hw.2.2.1 hw.2.2.2 hE.2.1
  have hz := hw.1
  refine W.tm (fun z1 z2 => ?_)
  have hf : (H.size - s.heap.size) + (rmH Zd d st.1).cells ≤ R.cells ∧ (tot H - tot s.heap) + (rmH Zd d st.1).slots ≤ R.slots := by
    rw [hE.2.2.2.2.1, hE.2.2.2.2.2]
    show _ + (Zd 6 - st.1.1) ≤ _ ∧ _ + (Zd 7 - st.1.2) ≤ _
    obtain ⟨a1, a2, a3, a4⟩ := hz
    omega
  refine va_callq (va_runSN F hM cw ⟨pcH_blind, fun U hU hW => ⟨rfl, pcH_at hE hw U hU hW⟩⟩ rfl hn hls hst (lv_room hW) hdg hf) hw.2.2.2 (fun q _ h => hF q h) hF (fun r u t H1 locs1 ht2 _ hp hB _ _ hS1 => ?_)
  subst hp
  exact kk H1 locs1 _ _ ⟨by rw [← ht2]; exact hB.1, by rw [← ht2]; exact hB.2.1, hB.2.2.weaken (fun _ _ _ h => hF _ h), hS1⟩
theorem hIN_v (F : CallFix p m c cc nL s args Ts own) (hM : CT l y bytes maxL none G Zd K d (.ref b :: As) st (hV G Zd st0)) (cw : va_CN R s args own index y host bytes maxL none (Cond.code y bytes maxL none :: TB) (rmH Zd d st.1) (rmH Zd d st.1).cells (rmH Zd d st.1).slots n ∧ y.name = "<init>" ∧ (Cond.instanceMethod y).before args s = true) (hE : cxH G Zd K A R s) (hw : wsH G Zd A s st H locs) (hn : As.length = n) (hls : ls.size = nL) (hst : stk = As.reverse ++ .ref b :: rest) (hW : (rest.map fun v => v.category).sum ≤ 8) (hdg : decode cc pc = .ok (.invokespecial index, 3))
    (kk : ∀ (H1 : Heap) (locs1 : List Loc) (cells1 slots1 : Nat), wsH G Zd A s st0 H1 locs1 → W p l e R s m args below meth c H1 locs1 cells1 slots1 Q (F0 m (pc + 3) ls (rest))) : W p l e R s m args below meth c H locs cells slots Q (F0 m pc ls stk) := by
  have hF : ∀ q, va_A (wH G.2 st) st.1.1 q → A q := frH hw.1.1 hw.2.2.1 hw.2.2.2 hE.2.1
  have hz := hw.1
  refine W.tm (fun z1 z2 => ?_)
  have hf : (H.size - s.heap.size) + (rmH Zd d st.1).cells ≤ R.cells ∧ (tot H - tot s.heap) + (rmH Zd d st.1).slots ≤ R.slots := by
    rw [hE.2.2.2.2.1, hE.2.2.2.2.2]
    show _ + (Zd 6 - st.1.1) ≤ _ ∧ _ + (Zd 7 - st.1.2) ≤ _
    obtain ⟨a1, a2, a3, a4⟩ := hz
    omega
  refine va_callv (va_runIN F hM cw ⟨pcH_blind, fun U hU hW => ⟨rfl, pcH_at hE hw U hU hW⟩⟩ rfl hn hls hst (lv_room hW) hdg hf) hw.2.2.2 (fun q _ h => hF q h) hF (fun u t H1 locs1 ht2 _ hp hB _ _ hS1 => ?_)
  exact kk H1 locs1 _ _ ⟨by rw [← ht2]; exact hB.1, by rw [← ht2]; exact hB.2.1, hB.2.2.weaken (fun _ _ _ h => hF _ h), hS1⟩
theorem hU_i {r0 : Int32} (F : CallFix p m c cc nL s args Ts own) (hM : CT l y bytes maxL ret G Zd K d (.ref b :: As) st (hI G Zd r0 st0)) (cw : va_CU R s args own C owner index x y bytes maxL ret (Cond.code y bytes maxL ret :: TB) (rmH Zd d st.1) (rmH Zd d st.1).cells (rmH Zd d st.1).slots n) (hE : cxH G Zd K A R s) (hw : wsH G Zd A s st H locs) (hci : vwCl[ci]? = some q9) (hqc : q9.1 = C) (ho : isO K st b ci = some u9) (hn : As.length = n) (hls : ls.size = nL) (hst : stk = As.reverse ++ .ref b :: rest) (hW : (rest.map fun v => v.category).sum ≤ 8) (hdg : decode cc pc = .ok (.invokevirtual index, 3))
    (kk : ∀ (H1 : Heap) (locs1 : List Loc) (cells1 slots1 : Nat), wsH G Zd A s st0 H1 locs1 → W p l e R s m args below meth c H1 locs1 cells1 slots1 Q (F0 m (pc + 3) ls (.int r0 :: rest))) : W p l e R s m args below meth c H locs cells slots Q (F0 m pc ls stk) := by
  have hF : ∀ q, va_A (wH G.2 st) st.1.1 q → A q := frH hw.1.1 hw.2.2.1 hw.2.2.2 hE.2.1
  have hz := hw.1
  have hrv := recvH (ci := ci) hE.1 hw.2.1 (hE.2.2.2.1.kept hw.2.2.2.2.1) hci ho
  rw [hqc] at hrv
  refine W.tm (fun z1 z2 => ?_)
  have hf : (H.size - s.heap.size) + (rmH Zd d st.1).cells ≤ R.cells ∧ (tot H - tot s.heap) + (rmH Zd d st.1).slots ≤ R.slots := by
    rw [hE.2.2.2.2.1, hE.2.2.2.2.2]
    show _ + (Zd 6 - st.1.1) ≤ _ ∧ _ + (Zd 7 - st.1.2) ≤ _
    obtain ⟨a1, a2, a3, a4⟩ := hz
    omega
  refine va_calli (va_runU F hM cw ⟨pcH_blind, hrv, fun U hU hW => ⟨rfl, pcH_at hE hw U hU hW⟩⟩ rfl hn hls hst (lv_room hW) hdg hf) hw.2.2.2 (fun q _ h => hF q h) hF (fun r u t H1 locs1 ht2 _ hp hB _ _ hS1 => ?_)
  subst hp
  exact kk H1 locs1 _ _ ⟨by rw [← ht2]; exact hB.1, by rw [← ht2]; exact hB.2.1, hB.2.2.weaken (fun _ _ _ h => hF _ h), hS1⟩
theorem hU_v (F : CallFix p m c cc nL s args Ts own) (hM : CT l y bytes maxL ret G Zd K d (.ref b :: As) st (hV G Zd st0)) (cw : va_CU R s args own C owner index x y bytes maxL ret (Cond.code y bytes maxL ret :: TB) (rmH Zd d st.1) (rmH Zd d st.1).cells (rmH Zd d st.1).slots n) (hE : cxH G Zd K A R s) (hw : wsH G Zd A s st H locs) (hci : vwCl[ci]? = some q9) (hqc : q9.1 = C) (ho : isO K st b ci = some u9) (hn : As.length = n) (hls : ls.size = nL) (hst : stk = As.reverse ++ .ref b :: rest) (hW : (rest.map fun v => v.category).sum ≤ 8) (hdg : decode cc pc = .ok (.invokevirtual index, 3))
    (kk : ∀ (H1 : Heap) (locs1 : List Loc) (cells1 slots1 : Nat), wsH G Zd A s st0 H1 locs1 → W p l e R s m args below meth c H1 locs1 cells1 slots1 Q (F0 m (pc + 3) ls (rest))) : W p l e R s m args below meth c H locs cells slots Q (F0 m pc ls stk) := by
  have hF : ∀ q, va_A (wH G.2 st) st.1.1 q → A q := frH hw.1.1 hw.2.2.1 hw.2.2.2 hE.2.1
  have hz := hw.1
  have hrv := recvH (ci := ci) hE.1 hw.2.1 (hE.2.2.2.1.kept hw.2.2.2.2.1) hci ho
  rw [hqc] at hrv
  refine W.tm (fun z1 z2 => ?_)
  have hf : (H.size - s.heap.size) + (rmH Zd d st.1).cells ≤ R.cells ∧ (tot H - tot s.heap) + (rmH Zd d st.1).slots ≤ R.slots := by
    rw [hE.2.2.2.2.1, hE.2.2.2.2.2]
    show _ + (Zd 6 - st.1.1) ≤ _ ∧ _ + (Zd 7 - st.1.2) ≤ _
    obtain ⟨a1, a2, a3, a4⟩ := hz
    omega
  refine va_callv (va_runU F hM cw ⟨pcH_blind, hrv, fun U hU hW => ⟨rfl, pcH_at hE hw U hU hW⟩⟩ rfl hn hls hst (lv_room hW) hdg hf) hw.2.2.2 (fun q _ h => hF q h) hF (fun u t H1 locs1 ht2 _ hp hB _ _ hS1 => ?_)
  exact kk H1 locs1 _ _ ⟨by rw [← ht2]; exact hB.1, by rw [← ht2]; exact hB.2.1, hB.2.2.weaken (fun _ _ _ h => hF _ h), hS1⟩
theorem hU_q {r0 : Option Nat} (F : CallFix p m c cc nL s args Ts own) (hM : CT l y bytes maxL ret G Zd K d (.ref b :: As) st (hQ G Zd r0 st0)) (cw : va_CU R s args own C owner index x y bytes maxL ret (Cond.code y bytes maxL ret :: TB) (rmH Zd d st.1) (rmH Zd d st.1).cells (rmH Zd d st.1).slots n) (hE : cxH G Zd K A R s) (hw : wsH G Zd A s st H locs) (hci : vwCl[ci]? = some q9) (hqc : q9.1 = C) (ho : isO K st b ci = some u9) (hn : As.length = n) (hls : ls.size = nL) (hst : stk = As.reverse ++ .ref b :: rest) (hW : (rest.map fun v => v.category).sum ≤ 8) (hdg : decode cc pc = .ok (.invokevirtual index, 3))
    (kk : ∀ (H1 : Heap) (locs1 : List Loc) (cells1 slots1 : Nat), wsH G Zd A s st0 H1 locs1 → W p l e R s m args below meth c H1 locs1 cells1 slots1 Q (F0 m (pc + 3) ls (va_rf r0 :: rest))) : W p l e R s m args below meth c H locs cells slots Q (F0 m pc ls stk) := by
  have hF : ∀ q, va_A (wH G.2 st) st.1.1 q → A q := frH hw.1.1 hw.2.2.1 hw.2.2.2 hE.2.1
  have hz := hw.1
  have hrv := recvH (ci := ci) hE.1 hw.2.1 (hE.2.2.2.1.kept hw.2.2.2.2.1) hci ho
  rw [hqc] at hrv
  refine W.tm (fun z1 z2 => ?_)
  have hf : (H.size - s.heap.size) + (rmH Zd d st.1).cells ≤ R.cells ∧ (tot H - tot s.heap) + (rmH Zd d st.1).slots ≤ R.slots := by
    rw [hE.2.2.2.2.1, hE.2.2.2.2.2]
    show _ + (Zd 6 - st.1.1) ≤ _ ∧ _ + (Zd 7 - st.1.2) ≤ _
    obtain ⟨a1, a2, a3, a4⟩ := hz
    omega
  refine va_callq (va_runU F hM cw ⟨pcH_blind, hrv, fun U hU hW => ⟨rfl, pcH_at hE hw U hU hW⟩⟩ rfl hn hls hst (lv_room hW) hdg hf) hw.2.2.2 (fun q _ h => hF q h) hF (fun r u t H1 locs1 ht2 _ hp hB _ _ hS1 => ?_)
  subst hp
  exact kk H1 locs1 _ _ ⟨by rw [← ht2]; exact hB.1, by rw [← ht2]; exact hB.2.1, hB.2.2.weaken (fun _ _ _ h => hF _ h), hS1⟩
theorem hUE_i {r0 : Int32} (F : CallFix p m c cc nL s args Ts own) (hM : CT l y bytes maxL ret G Zd K d (.ref b :: As) st (hI G Zd r0 st0)) (cw : va_CU R s args own C owner index x y bytes maxL ret (Cond.code y bytes maxL ret :: TB) (rmH Zd d st.1) (rmH Zd d st.1).cells (rmH Zd d st.1).slots n) (hE : cxH G Zd K A R s) (hw : wsH G Zd A s st H locs) (hrv : ∃ cellB : Cell, H[b]? = some cellB ∧ cellB.vm.isStatics = false ∧ s.vm.findClass C = some cellB.cls) (hn : As.length = n) (hls : ls.size = nL) (hst : stk = As.reverse ++ .ref b :: rest) (hW : (rest.map fun v => v.category).sum ≤ 8) (hdg : decode cc pc = .ok (.invokevirtual index, 3))
    (kk : ∀ (H1 : Heap) (locs1 : List Loc) (cells1 slots1 : Nat), wsH G Zd A s st0 H1 locs1 → W p l e R s m args below meth c H1 locs1 cells1 slots1 Q (F0 m (pc + 3) ls (.int r0 :: rest))) : W p l e R s m args below meth c H locs cells slots Q (F0 m pc ls stk) := by
  have hF : ∀ q, va_A (wH G.2 st) st.1.1 q → A q := frH hw.1.1 hw.2.2.1 hw.2.2.2 hE.2.1
  have hz := hw.1
  refine W.tm (fun z1 z2 => ?_)
  have hf : (H.size - s.heap.size) + (rmH Zd d st.1).cells ≤ R.cells ∧ (tot H - tot s.heap) + (rmH Zd d st.1).slots ≤ R.slots := by
    rw [hE.2.2.2.2.1, hE.2.2.2.2.2]
    show _ + (Zd 6 - st.1.1) ≤ _ ∧ _ + (Zd 7 - st.1.2) ≤ _
    obtain ⟨a1, a2, a3, a4⟩ := hz
    omega
  refine va_calli (va_runU F hM cw ⟨pcH_blind, hrv, fun U hU hW => ⟨rfl, pcH_at hE hw U hU hW⟩⟩ rfl hn hls hst (lv_room hW) hdg hf) hw.2.2.2 (fun q _ h => hF q h) hF (fun r u t H1 locs1 ht2 _ hp hB _ _ hS1 => ?_)
  subst hp
  exact kk H1 locs1 _ _ ⟨by rw [← ht2]; exact hB.1, by rw [← ht2]; exact hB.2.1, hB.2.2.weaken (fun _ _ _ h => hF _ h), hS1⟩
theorem hSU_i {r0 : Int32} (F : CallFix p m c cc nL s args Ts own) (hM : CT l y bytes maxL ret G Zd K d (.ref b :: As) st (hI G Zd r0 st0)) (cw : va_CS R s args own index y bytes maxL ret (Cond.code y bytes maxL ret :: TB) (rmH Zd d st.1) (rmH Zd d st.1).cells (rmH Zd d st.1).slots n) (hE : cxH G Zd K A R s) (hw : wsH G Zd A s st H locs) (hci : vwCl[ci]? = some q9) (hqc : q9.1 = C) (ho : isO K st b ci = some u9) (hn : As.length = n) (hls : ls.size = nL) (hst : stk = As.reverse ++ .ref b :: rest) (hW : (rest.map fun v => v.category).sum ≤ 8) (hdg : decode cc pc = .ok (.invokespecial index, 3))
    (kk : ∀ (H1 : Heap) (locs1 : List Loc) (cells1 slots1 : Nat), wsH G Zd A s st0 H1 locs1 → W p l e R s m args below meth c H1 locs1 cells1 slots1 Q (F0 m (pc + 3) ls (.int r0 :: rest))) : W p l e R s m args below meth c H locs cells slots Q (F0 m pc ls stk) := by
  have hF : ∀ q, va_A (wH G.2 st) st.1.1 q → A q := frH hw.1.1 hw.2.2.1 hw.2.2.2 hE.2.1
  have hz := hw.1
  have hrv := recvH (ci := ci) hE.1 hw.2.1 (hE.2.2.2.1.kept hw.2.2.2.2.1) hci ho
  rw [hqc] at hrv
  refine W.tm (fun z1 z2 => ?_)
  have hf : (H.size - s.heap.size) + (rmH Zd d st.1).cells ≤ R.cells ∧ (tot H - tot s.heap) + (rmH Zd d st.1).slots ≤ R.slots := by
    rw [hE.2.2.2.2.1, hE.2.2.2.2.2]
    show _ + (Zd 6 - st.1.1) ≤ _ ∧ _ + (Zd 7 - st.1.2) ≤ _
    obtain ⟨a1, a2, a3, a4⟩ := hz
    omega
  refine va_calli (va_runSU (by have h9 := (hE.1.1 ci q9 hci).2; rw [hqc] at h9; exact h9) F hM cw ⟨pcH_blind, hrv, fun U hU hW => ⟨rfl, pcH_at hE hw U hU hW⟩⟩ rfl hn hls hst (lv_room hW) hdg hf) hw.2.2.2 (fun q _ h => hF q h) hF (fun r u t H1 locs1 ht2 _ hp hB _ _ hS1 => ?_)
  subst hp
  exact kk H1 locs1 _ _ ⟨by rw [← ht2]; exact hB.1, by rw [← ht2]; exact hB.2.1, hB.2.2.weaken (fun _ _ _ h => hF _ h), hS1⟩
theorem hSU_v (F : CallFix p m c cc nL s args Ts own) (hM : CT l y bytes maxL ret G Zd K d (.ref b :: As) st (hV G Zd st0)) (cw : va_CS R s args own index y bytes maxL ret (Cond.code y bytes maxL ret :: TB) (rmH Zd d st.1) (rmH Zd d st.1).cells (rmH Zd d st.1).slots n) (hE : cxH G Zd K A R s) (hw : wsH G Zd A s st H locs) (hci : vwCl[ci]? = some q9) (hqc : q9.1 = C) (ho : isO K st b ci = some u9) (hn : As.length = n) (hls : ls.size = nL) (hst : stk = As.reverse ++ .ref b :: rest) (hW : (rest.map fun v => v.category).sum ≤ 8) (hdg : decode cc pc = .ok (.invokespecial index, 3))
    (kk : ∀ (H1 : Heap) (locs1 : List Loc) (cells1 slots1 : Nat), wsH G Zd A s st0 H1 locs1 → W p l e R s m args below meth c H1 locs1 cells1 slots1 Q (F0 m (pc + 3) ls (rest))) : W p l e R s m args below meth c H locs cells slots Q (F0 m pc ls stk) := by
  have hF : ∀ q, va_A (wH G.2 st) st.1.1 q → A q := frH hw.1.1 hw.2.2.1 hw.2.2.2 hE.2.1
  have hz := hw.1
  have hrv := recvH (ci := ci) hE.1 hw.2.1 (hE.2.2.2.1.kept hw.2.2.2.2.1) hci ho
  rw [hqc] at hrv
  refine W.tm (fun z1 z2 => ?_)
  have hf : (H.size - s.heap.size) + (rmH Zd d st.1).cells ≤ R.cells ∧ (tot H - tot s.heap) + (rmH Zd d st.1).slots ≤ R.slots := by
    rw [hE.2.2.2.2.1, hE.2.2.2.2.2]
    show _ + (Zd 6 - st.1.1) ≤ _ ∧ _ + (Zd 7 - st.1.2) ≤ _
    obtain ⟨a1, a2, a3, a4⟩ := hz
    omega
  refine va_callv (va_runSU (by have h9 := (hE.1.1 ci q9 hci).2; rw [hqc] at h9; exact h9) F hM cw ⟨pcH_blind, hrv, fun U hU hW => ⟨rfl, pcH_at hE hw U hU hW⟩⟩ rfl hn hls hst (lv_room hW) hdg hf) hw.2.2.2 (fun q _ h => hF q h) hF (fun u t H1 locs1 ht2 _ hp hB _ _ hS1 => ?_)
  exact kk H1 locs1 _ _ ⟨by rw [← ht2]; exact hB.1, by rw [← ht2]; exact hB.2.1, hB.2.2.weaken (fun _ _ _ h => hF _ h), hS1⟩
theorem hSU_q {r0 : Option Nat} (F : CallFix p m c cc nL s args Ts own) (hM : CT l y bytes maxL ret G Zd K d (.ref b :: As) st (hQ G Zd r0 st0)) (cw : va_CS R s args own index y bytes maxL ret (Cond.code y bytes maxL ret :: TB) (rmH Zd d st.1) (rmH Zd d st.1).cells (rmH Zd d st.1).slots n) (hE : cxH G Zd K A R s) (hw : wsH G Zd A s st H locs) (hci : vwCl[ci]? = some q9) (hqc : q9.1 = C) (ho : isO K st b ci = some u9) (hn : As.length = n) (hls : ls.size = nL) (hst : stk = As.reverse ++ .ref b :: rest) (hW : (rest.map fun v => v.category).sum ≤ 8) (hdg : decode cc pc = .ok (.invokespecial index, 3))
    (kk : ∀ (H1 : Heap) (locs1 : List Loc) (cells1 slots1 : Nat), wsH G Zd A s st0 H1 locs1 → W p l e R s m args below meth c H1 locs1 cells1 slots1 Q (F0 m (pc + 3) ls (va_rf r0 :: rest))) : W p l e R s m args below meth c H locs cells slots Q (F0 m pc ls stk) := by
  have hF : ∀ q, va_A (wH G.2 st) st.1.1 q → A q := frH hw.1.1 hw.2.2.1 hw.2.2.2 hE.2.1
  have hz := hw.1
  have hrv := recvH (ci := ci) hE.1 hw.2.1 (hE.2.2.2.1.kept hw.2.2.2.2.1) hci ho
  rw [hqc] at hrv
  refine W.tm (fun z1 z2 => ?_)
  have hf : (H.size - s.heap.size) + (rmH Zd d st.1).cells ≤ R.cells ∧ (tot H - tot s.heap) + (rmH Zd d st.1).slots ≤ R.slots := by
    rw [hE.2.2.2.2.1, hE.2.2.2.2.2]
    show _ + (Zd 6 - st.1.1) ≤ _ ∧ _ + (Zd 7 - st.1.2) ≤ _
    obtain ⟨a1, a2, a3, a4⟩ := hz
    omega
  refine va_callq (va_runSU (by have h9 := (hE.1.1 ci q9 hci).2; rw [hqc] at h9; exact h9) F hM cw ⟨pcH_blind, hrv, fun U hU hW => ⟨rfl, pcH_at hE hw U hU hW⟩⟩ rfl hn hls hst (lv_room hW) hdg hf) hw.2.2.2 (fun q _ h => hF q h) hF (fun r u t H1 locs1 ht2 _ hp hB _ _ hS1 => ?_)
  subst hp
  exact kk H1 locs1 _ _ ⟨by rw [← ht2]; exact hB.1, by rw [← ht2]; exact hB.2.1, hB.2.2.weaken (fun _ _ _ h => hF _ h), hS1⟩
end CALLH
