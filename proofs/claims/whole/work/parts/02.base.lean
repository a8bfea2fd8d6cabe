/-- what all methods may take as given of the tables and of what nobody writes -/
def zz (Zd : Nat → Nat) (A : Nat → Prop) (U : State) (H : Heap) : Prop := nW U ∧ va_Z "java/lang/String" "COMPACT_STRINGS" "Z" (.int 1) A U H ∧ vk_R "PagedValues$Selector" 7 "" (Zd 0) U ∧ (va_AO "PagedValues$Value" U ∧ va_AO "PagedValues$Page" U ∧ va_AO "PagedValues$Selector" U)
theorem zz.warm {Zd : Nat → Nat} {A : Nat → Prop} {s U : State} {H : Heap} (h : zz Zd A s H) (hW : s.WarmedH U.vm) : zz Zd A U H := ⟨nW.warm hW h.1, h.2.1.moved hW.alike, h.2.2.1.warm hW, h.2.2.2.1.moved hW.alike, h.2.2.2.2.1.moved hW.alike, h.2.2.2.2.2.moved hW.alike⟩
theorem zz.same {Zd : Nat → Nat} {A : Nat → Prop} {u U : State} {H : Heap} (hv : u.vm = U.vm) (h : zz Zd A u H) : zz Zd A U H := ⟨nW.same hv h.1, h.2.1.moved (by rw [hv]; exact Vm.Alike.refl _), h.2.2.1.same hv.symm, h.2.2.2.1.moved (by rw [hv]; exact Vm.Alike.refl _), h.2.2.2.2.1.moved (by rw [hv]; exact Vm.Alike.refl _), h.2.2.2.2.2.moved (by rw [hv]; exact Vm.Alike.refl _)⟩
theorem zz.kept {Zd : Nat → Nat} {A : Nat → Prop} {U : State} {H H1 : Heap} (h : zz Zd A U H) (hq : ∀ a : Nat, a < H.size → ¬ A a → H1[a]? = H[a]?) : zz Zd A U H1 := ⟨h.1, h.2.1.kept hq, h.2.2⟩
theorem zz.narrow {Zd : Nat → Nat} {A B : Nat → Prop} {U : State} {H : Heap} (h : zz Zd A U H) (hAB : ∀ q, B q → A q) : zz Zd B U H := ⟨h.1, h.2.1.narrow hAB, h.2.2⟩
def pcW (G : Gk) (Zd : Nat → Nat) (w0 : va_W) (sz : Nat) (U : State) : Prop := U.heap.size = sz ∧ va_P G.1 vwCl w0 U.heap ∧ va_K G.1 vwCl (TY G.2) U ∧ va_D (fun _ => True) w0 ∧ zz Zd (va_A w0 sz) U U.heap
abbrev qI (G : Gk) {S : Type} (post : Int32 → S → Prop) (w1 : S → va_W) (A : Nat → Prop) : Array Value → State → Outcome → State → Prop := va_Qi post (fun u t => va_P G.1 vwCl (w1 u) t.heap ∧ va_D A (w1 u)) A
abbrev qL (G : Gk) {S : Type} (post : Int64 → S → Prop) (w1 : S → va_W) (A : Nat → Prop) : Array Value → State → Outcome → State → Prop := va_Ql post (fun u t => va_P G.1 vwCl (w1 u) t.heap ∧ va_D A (w1 u)) A
abbrev qV (G : Gk) {S : Type} (post : S → Prop) (w1 : S → va_W) (A : Nat → Prop) : Array Value → State → Outcome → State → Prop := va_Qv post (fun u t => va_P G.1 vwCl (w1 u) t.heap ∧ va_D A (w1 u)) A
abbrev qQ (G : Gk) {S : Type} (post : Option Nat → S → Prop) (w1 : S → va_W) (A : Nat → Prop) : Array Value → State → Outcome → State → Prop := va_Qq post (fun u t => va_P G.1 vwCl (w1 u) t.heap ∧ va_D A (w1 u)) A
theorem pc_blind {G : Gk} {Zd : Nat → Nat} {w0 : va_W} {sz : Nat} {av : List Value} : FrameBlind (va_Pc av (pcW G Zd w0 sz)) := by
  intro a U g mk q
  obtain ⟨q0, q1, q2, q3, q4, q5⟩ := q
  exact ⟨q0, q1, q2, va_K.moved (u := U) (U := U.calling g mk a) (Vm.Alike.refl U.vm) q3, q4, zz.same (u := U) (U := U.calling g mk a) rfl q5⟩
theorem pc_at {G : Gk} {Zd : Nat → Nat} {w0 : va_W} {s : State} {A : Nat → Prop} {H : Heap} {locs : List Loc} (hP : va_P G.1 vwCl w0 H) (hD : va_D A w0) (hK : va_K G.1 vwCl (TY G.2) s) (hS : va_S A s.heap H locs) (hZ : zz Zd A s s.heap) (hF : ∀ q, va_A w0 H.size q → A q) (U : State) (hU : U.heap = H) (hW : s.WarmedH U.vm) : pcW G Zd w0 H.size U :=
  ⟨by rw [hU], by rw [hU]; exact hP, va_K.moved hW.alike hK, hD.weaken (fun _ _ _ _ => trivial), by rw [hU]; exact ((hZ.kept hS.2.1).narrow hF).warm hW⟩
theorem fr_all {A : Nat → Prop} {w0 : va_W} {H0 H : Heap} {locs : List Loc} (hD : va_D A w0) (hS : va_S A H0 H locs) (hA : ∀ q, H0.size ≤ q → A q) : ∀ q, va_A w0 H.size q → A q := by
  intro q h
  rcases h with ⟨k, e, h⟩ | h
  · exact hD.2 k (q, e) h
  · exact hA q (Nat.le_trans hS.1 h)
set_option maxHeartbeats 2000000 in
theorem go {l : Launch} {y : MethodName} {cc : ByteArray} {maxL : Nat} {ret : Option FieldType} {rm : Room} {G : Gk} {Zd : Nat → Nat} {av : List Value} {w0 : va_W} {sz : Nat} {Qc : (Nat → Prop) → Array Value → State → Outcome → State → Prop} {mc ms : Nat}
    (own : String) (hcls : y.cls = own) (hpl : plainName y.cls = true) (hlen : (lg_sl av).length ≤ maxL)
    (body : ∀ (p : Program) (e : Env) (s : State) (m : MethodId) (below : List Frame) (meth : Method) (c : Code) (ls : Array Slot) (A : Nat → Prop), p.tables.exec = Jvm.exec → c.code = cc → meth.sig.returnType = ret → meth.locks = false → c.maxLocals = maxL → s.vm.findClass own = some m.cls → (∀ w ∈ (Cond.code y cc maxL ret :: TB), w.before av.toArray s = true) → meth.name = y.name → lv_has ls maxL (lv_args 0 av) → va_P G.1 vwCl w0 s.heap → va_D A w0 → va_K G.1 vwCl (TY G.2) s → va_S A s.heap s.heap [] → (∀ q, s.heap.size ≤ q → A q) → zz Zd A s s.heap → W p l e rm s m av.toArray below meth c s.heap [] 0 0 (MQ below (Qc A) av.toArray s mc ms A) (F0 m 0 ls [])) :
    Met l y (Cond.code y cc maxL ret :: TB) rm (va_Pc av (pcW G Zd w0 sz)) (Qc (va_A w0 sz)) mc ms (va_A w0 sz) := by
  refine Met.ofW (cc := cc) (maxL := maxL) (ret := ret) hpl rfl ?_
  intro p e s m args below meth c s₁ B hml hv
  obtain ⟨rfl, hsz, hP, hK, hD0, hZ⟩ := hv
  have hown : s.vm.findClass own = some m.cls := by rw [← hcls]; exact findClass_of_methodNamed B.named
  subst hsz
  rw [lg_entry_eq]
  exact body p e s m below meth c _ _ B.exec B.bytes B.returns B.notSynchronized hml hown (atoms_spec (ws := Cond.code y cc maxL ret :: TB) B.pre) (name_of_methodNamed B.named B.method).1 (lv_entry av (n := maxL) hlen) hP (hD0.self (sz := s.heap.size)) hK va_S.rf (fun q h => Or.inr h) hZ
section FIN
variable {p : Program} {l : Launch} {e : Env} {R : Room} {s : State} {m : MethodId} {args : Array Value} {below : List Frame} {meth : Method} {c : Code} {H : Heap} {locs : List Loc} {cells slots : Nat} {cc : ByteArray} {pc : Nat} {ls : Array Slot} {G : Gk} {A : Nat → Prop} {mc ms : Nat} {S : Type} {w1 : S → va_W}
theorem fin_i {post : Int32 → S → Prop} {v : Int32} (hx : p.tables.exec = Jvm.exec) (hb : c.code = cc) (hr : meth.sig.returnType = some .int) (hlk : meth.locks = false) (hS : va_S A s.heap H locs) (u : S) (hp : post v u) (hP : va_P G.1 vwCl (w1 u) H) (hD : va_D A (w1 u)) (hc : cells ≤ mc) (hs : slots ≤ ms) (hdg : decode cc pc = .ok (.ireturn, 1)) :
    W p l e R s m args below meth c H locs cells slots (MQ below (qI G post w1 A) args s mc ms A) (F0 m pc ls [.int v]) := by
  refine W.widen hc hs ?_
  exact W.iret (v := v) hx hb hr (fun t ht hW => ⟨⟨v, u, rfl, hp, by rw [ht]; exact hP, hD⟩, hS.F ht⟩) hS.2.2 hdg hlk
theorem fin_z {post : Int32 → S → Prop} {v : Int32} {ty : FieldType} (hx : p.tables.exec = Jvm.exec) (hb : c.code = cc) (hr : meth.sig.returnType = some ty) (hlk : meth.locks = false) (hn : narrow ty (.int v) = .int v) (hS : va_S A s.heap H locs) (u : S) (hp : post v u) (hP : va_P G.1 vwCl (w1 u) H) (hD : va_D A (w1 u)) (hc : cells ≤ mc) (hs : slots ≤ ms) (hdg : decode cc pc = .ok (.ireturn, 1)) :
    W p l e R s m args below meth c H locs cells slots (MQ below (qI G post w1 A) args s mc ms A) (F0 m pc ls [.int v]) := by
  refine W.widen hc hs ?_
  exact W.zret (v := v) hx hb hr hn (fun t ht hW => ⟨⟨v, u, rfl, hp, by rw [ht]; exact hP, hD⟩, hS.F ht⟩) hS.2.2 hdg hlk
theorem fin_v {post : S → Prop} (hx : p.tables.exec = Jvm.exec) (hb : c.code = cc) (hr : meth.sig.returnType = none) (hlk : meth.locks = false) (hS : va_S A s.heap H locs) (u : S) (hp : post u) (hP : va_P G.1 vwCl (w1 u) H) (hD : va_D A (w1 u)) (hc : cells ≤ mc) (hs : slots ≤ ms) (hdg : decode cc pc = .ok (.return_, 1)) :
    W p l e R s m args below meth c H locs cells slots (MQ below (qV G post w1 A) args s mc ms A) (F0 m pc ls []) := by
  refine W.widen hc hs ?_
  exact W.vret hx hb hr (fun t ht hW => ⟨⟨u, rfl, hp, by rw [ht]; exact hP, hD⟩, hS.F ht⟩) hS.2.2 hdg hlk
end FIN
section CALLS
variable {p : Program} {l : Launch} {e : Env} {R : Room} {s : State} {m : MethodId} {args : Array Value} {below : List Frame} {meth : Method} {c : Code} {H : Heap} {locs : List Loc} {cells slots : Nat} {Q : State → Prop} {cc : ByteArray} {pc : Nat} {ls : Array Slot} {G : Gk} {A : Nat → Prop} {mc ms : Nat} {S : Type} {w1 : S → va_W} {w0 : va_W} {rest st0 : List Value} {a : Array Value} {H0 : Heap}
/-- behind a call that had the whole world -/
theorem cs_i {post : Int32 → S → Prop} (hr : va_Run p l e R s m args below meth c H locs cells slots mc ms (F0 m pc ls st0) rest (qI G post w1 (va_A w0 H.size) a) (va_A w0 H.size)) (hS : va_S A H0 H locs) (hF : ∀ q, va_A w0 H.size q → A q)
    (kk : ∀ (r : Int32) (u : S) (H1 : Heap) (locs1 : List Loc), post r u → va_P G.1 vwCl (w1 u) H1 → va_D A (w1 u) → va_S A H0 H1 locs1 → W p l e R s m args below meth c H1 locs1 (cells + mc) (slots + ms) Q (F0 m (pc + 3) ls (.int r :: rest))) : W p l e R s m args below meth c H locs cells slots Q (F0 m pc ls st0) :=
  va_calli hr hS (fun q _ h => hF q h) hF (fun r u t H1 locs1 ht _ hp hB _ _ hS1 => kk r u H1 locs1 hp (by rw [← ht]; exact hB.1) (hB.2.weaken (fun _ _ _ h => hF _ h)) hS1)
theorem cs_v {post : S → Prop} (hr : va_Run p l e R s m args below meth c H locs cells slots mc ms (F0 m pc ls st0) rest (qV G post w1 (va_A w0 H.size) a) (va_A w0 H.size)) (hS : va_S A H0 H locs) (hF : ∀ q, va_A w0 H.size q → A q)
    (kk : ∀ (u : S) (H1 : Heap) (locs1 : List Loc), post u → va_P G.1 vwCl (w1 u) H1 → va_D A (w1 u) → va_S A H0 H1 locs1 → W p l e R s m args below meth c H1 locs1 (cells + mc) (slots + ms) Q (F0 m (pc + 3) ls rest)) : W p l e R s m args below meth c H locs cells slots Q (F0 m pc ls st0) :=
  va_callv hr hS (fun q _ h => hF q h) hF (fun u t H1 locs1 ht _ hp hB _ _ hS1 => kk u H1 locs1 hp (by rw [← ht]; exact hB.1) (hB.2.weaken (fun _ _ _ h => hF _ h)) hS1)
theorem cs_q {post : Option Nat → S → Prop} (hr : va_Run p l e R s m args below meth c H locs cells slots mc ms (F0 m pc ls st0) rest (qQ G post w1 (va_A w0 H.size) a) (va_A w0 H.size)) (hS : va_S A H0 H locs) (hF : ∀ q, va_A w0 H.size q → A q)
    (kk : ∀ (r : Option Nat) (u : S) (H1 : Heap) (locs1 : List Loc), post r u → va_P G.1 vwCl (w1 u) H1 → va_D A (w1 u) → va_S A H0 H1 locs1 → W p l e R s m args below meth c H1 locs1 (cells + mc) (slots + ms) Q (F0 m (pc + 3) ls (va_rf r :: rest))) : W p l e R s m args below meth c H locs cells slots Q (F0 m pc ls st0) :=
  va_callq hr hS (fun q _ h => hF q h) hF (fun r u t H1 locs1 ht _ hp hB _ _ hS1 => kk r u H1 locs1 hp (by rw [← ht]; exact hB.1) (hB.2.weaken (fun _ _ _ h => hF _ h)) hS1)
/-- behind a call that had some cells of the world -/
theorem cj_i {post : Int32 → S → Prop} {wX wr : va_W} (hr : va_Run p l e R s m args below meth c H locs cells slots mc ms (F0 m pc ls st0) rest (qI G post w1 (va_A w0 H.size) a) (va_A w0 H.size)) (hP : va_P G.1 vwCl wX H) (hD : va_D A wX) (hS : va_S A H0 H locs) (hF : ∀ q, va_A w0 H.size q → A q)
    (isC isR : List Nat) (hC : isC.map (fun i => wX[i]?) = w0.map some) (hR : isR.map (fun i => wX[i]?) = wr.map some) (hn : va_nd isR = true) (hdis : ∀ i ∈ isR, i ∉ isC)
    (kk : ∀ (r : Int32) (u : S) (H1 : Heap) (locs1 : List Loc), post r u → va_P G.1 vwCl (wr ++ w1 u) H1 → va_D A (wr ++ w1 u) → va_S A H0 H1 locs1 → W p l e R s m args below meth c H1 locs1 (cells + mc) (slots + ms) Q (F0 m (pc + 3) ls (.int r :: rest))) : W p l e R s m args below meth c H locs cells slots Q (F0 m pc ls st0) :=
  va_calli hr hS (fun q _ h => hF q h) hF (fun r u t H1 locs1 ht _ hp hB _ hk hS1 => by
    obtain ⟨h1, h2⟩ := va_join hP hD isC isR hC hR hn hdis hk hF (by rw [← ht]; exact hB.1) hB.2
    exact kk r u H1 locs1 hp h1 h2 hS1)
theorem cj_v {post : S → Prop} {wX wr : va_W} (hr : va_Run p l e R s m args below meth c H locs cells slots mc ms (F0 m pc ls st0) rest (qV G post w1 (va_A w0 H.size) a) (va_A w0 H.size)) (hP : va_P G.1 vwCl wX H) (hD : va_D A wX) (hS : va_S A H0 H locs) (hF : ∀ q, va_A w0 H.size q → A q)
    (isC isR : List Nat) (hC : isC.map (fun i => wX[i]?) = w0.map some) (hR : isR.map (fun i => wX[i]?) = wr.map some) (hn : va_nd isR = true) (hdis : ∀ i ∈ isR, i ∉ isC)
    (kk : ∀ (u : S) (H1 : Heap) (locs1 : List Loc), post u → va_P G.1 vwCl (wr ++ w1 u) H1 → va_D A (wr ++ w1 u) → va_S A H0 H1 locs1 → W p l e R s m args below meth c H1 locs1 (cells + mc) (slots + ms) Q (F0 m (pc + 3) ls rest)) : W p l e R s m args below meth c H locs cells slots Q (F0 m pc ls st0) :=
  va_callv hr hS (fun q _ h => hF q h) hF (fun u t H1 locs1 ht _ hp hB _ hk hS1 => by
    obtain ⟨h1, h2⟩ := va_join hP hD isC isR hC hR hn hdis hk hF (by rw [← ht]; exact hB.1) hB.2
    exact kk u H1 locs1 hp h1 h2 hS1)
end CALLS
section KW
variable {p : Program} {l : Launch} {e : Env} {R : Room} {s : State} {args : Array Value} {own host : String} {index maxL n : Nat} {y : MethodName} {bytes : ByteArray} {ret : Option FieldType} {rm : Room} {x : Cond}
theorem kw_B (hts : ∀ w ∈ (x :: TB), w.before args s = true) (hc : Cond.code y bytes maxL ret ∈ TB) (h1 : Cond.methodLink own index y ∈ TB) (h4 : Cond.initialized y.cls ∈ TB) (hd : y.cls ≠ "java/lang/invoke/MethodHandle" ∧ y.cls ≠ "java/lang/invoke/VarHandle" ∧ (parseMethodDescriptor y.desc).map (fun d => d.parameters.length) = some n) (hR : rm.frames + 1 ≤ R.frames ∧ 8 + (maxL + 11) + rm.locals ≤ R.locals) :
    CallB R s args own index y bytes maxL ret (Cond.code y bytes maxL ret :: TB) rm rm.cells rm.slots n :=
  callB_of n hts (tb_GI hc) rfl rfl rfl (hts _ (List.mem_cons_of_mem _ h4)) (hts _ (List.mem_cons_of_mem _ h1)) hd hR
theorem kw_V (hts : ∀ w ∈ (x :: TB), w.before args s = true) (hc : Cond.code y bytes maxL ret ∈ TB) (h1 : Cond.methodLink own index y ∈ TB) (h4 : Cond.initialized y.cls ∈ TB) (h2 : Cond.instanceMethod y ∈ TB) (h3 : Cond.selects y.cls y y ∈ TB) (hd : y.cls ≠ "java/lang/invoke/MethodHandle" ∧ y.cls ≠ "java/lang/invoke/VarHandle" ∧ (parseMethodDescriptor y.desc).map (fun d => d.parameters.length) = some n) (hR : rm.frames + 1 ≤ R.frames ∧ 8 + (maxL + 11) + rm.locals ≤ R.locals) :
    CallW R s args own y.cls index y bytes maxL ret (Cond.code y bytes maxL ret :: TB) rm rm.cells rm.slots n :=
  ⟨kw_B hts hc h1 h4 hd hR, hts _ (List.mem_cons_of_mem _ h2), hts _ (List.mem_cons_of_mem _ h3)⟩
theorem kw_S (hts : ∀ w ∈ (x :: TB), w.before args s = true) (hc : Cond.code y bytes maxL ret ∈ TB) (h1 : Cond.methodLink own index y ∈ TB) (h4 : Cond.initialized y.cls ∈ TB) (h2 : Cond.static y ∈ TB) (hd : y.cls ≠ "java/lang/invoke/MethodHandle" ∧ y.cls ≠ "java/lang/invoke/VarHandle" ∧ (parseMethodDescriptor y.desc).map (fun d => d.parameters.length) = some n) (hR : rm.frames + 1 ≤ R.frames ∧ 8 + (maxL + 11) + rm.locals ≤ R.locals) :
    CallB R s args own index y bytes maxL ret (Cond.code y bytes maxL ret :: TB) rm rm.cells rm.slots n ∧ (Cond.static y).before args s = true :=
  ⟨kw_B hts hc h1 h4 hd hR, hts _ (List.mem_cons_of_mem _ h2)⟩
theorem kw_I {y : MethodName} (hts : ∀ w ∈ (x :: TB), w.before args s = true) (hc : Cond.code y bytes maxL none ∈ TB) (h1 : Cond.methodLink own index y ∈ TB) (h4 : Cond.initialized y.cls ∈ TB) (h2 : Cond.instanceMethod y ∈ TB) (hy : y.name = "<init>") (hd : y.cls ≠ "java/lang/invoke/MethodHandle" ∧ y.cls ≠ "java/lang/invoke/VarHandle" ∧ (parseMethodDescriptor y.desc).map (fun d => d.parameters.length) = some n) (hR : rm.frames + 1 ≤ R.frames ∧ 8 + (maxL + 11) + rm.locals ≤ R.locals) :
    CallB R s args own index y bytes maxL none (Cond.code y bytes maxL none :: TB) rm rm.cells rm.slots n ∧ y.name = "<init>" ∧ (Cond.instanceMethod y).before args s = true :=
  ⟨kw_B hts hc h1 h4 hd hR, hy, hts _ (List.mem_cons_of_mem _ h2)⟩
end KW
abbrev rmD (d c s : Nat) : Room := { frames := d, cells := c, slots := s, locals := 64 * d }
