/-! The law: what its start gives; one call at the most. -/
section SPL
theorem spl_P {D : va_G} {cl : List vw_C} {a b : va_W} {H : Heap} (h : va_P D cl (a ++ b) H) : va_P D cl a H := fun k q hk => h k q (by rw [List.getElem?_append_left (List.getElem?_eq_some_iff.mp hk).1]; exact hk)
theorem spl_D {A : Nat → Prop} {a b : va_W} (h : va_D A (a ++ b)) : va_D A a := h.by id (fun k q hk => by show (a ++ b)[k]? = some q; rw [List.getElem?_append_left (List.getElem?_eq_some_iff.mp hk).1]; exact hk) (fun _ _ _ _ e => e)
theorem sw_P {D : va_G} {cl : List vw_C} {a b : va_W} {H : Heap} (h : va_P D cl (a ++ b) H) : va_P D cl (b ++ a) H := va_P.swap (a := []) (b := a) (c := b) h
theorem sw_D {A : Nat → Prop} {a b : va_W} (h : va_D A (a ++ b)) : va_D A (b ++ a) := va_D.swap (a := []) (b := a) (c := b) h
theorem rg (X : va_W) : (List.range X.length).map (fun i => X[i]?) = X.map some := by
  apply List.ext_getElem?
  intro i
  rw [List.getElem?_map, List.getElem?_map]
  by_cases h : i < X.length
  · rw [List.getElem?_range h, List.getElem?_eq_getElem h]
    simp [List.getElem?_eq_getElem h]
  · rw [List.getElem?_eq_none (by simp; omega), List.getElem?_eq_none (by omega)]
    rfl
variable {p : Program} {l : Launch} {e : Env} {R : Room} {s : State} {m : MethodId} {args : Array Value} {below : List Frame} {meth : Method} {c : Code} {H : Heap} {locs : List Loc} {cells slots : Nat} {Q : State → Prop} {cc bytes : ByteArray} {pc : Nat} {ls : Array Slot} {G : Gk} {Zd : Nat → Nat} {A : Nat → Prop} {mc ms nL maxL index n : Nat} {S : Type} {w1 : S → va_W} {w0 pl : va_W} {As rest st0 : List Value} {Ts : List Cond} {own : String} {y : MethodName} {ret : Option FieldType} {rm : Room} {b : Nat}
/-- a constructor that gets the first part of the world -/
theorem xI_v {post : S → Prop} (F : CallFix p m c cc nL s args Ts own) (hM : Met l y (Cond.code y bytes maxL none :: TB) rm (va_Pc (.ref b :: As) (pcW G Zd w0 H.size)) (qV G post w1 (va_A w0 H.size)) mc ms (va_A w0 H.size)) (cw : CallB R s args own index y bytes maxL none (Cond.code y bytes maxL none :: TB) rm mc ms n ∧ y.name = "<init>" ∧ (Cond.instanceMethod y).before args s = true) (hP : va_P G.1 vwCl (w0 ++ pl) H) (hD : va_D A (w0 ++ pl)) (hK : va_K G.1 vwCl (TY G.2) s) (hS : va_S A s.heap H locs) (hA : ∀ q, s.heap.size ≤ q → A q) (hZ : zz Zd A s s.heap)
    (hn : As.length = n) (hls : ls.size = nL) (hst : st0 = As.reverse ++ .ref b :: rest) (hW : (rest.map fun v => v.category).sum ≤ 8) (hdg : decode cc pc = .ok (.invokespecial index, 3)) (hf : cells + mc ≤ R.cells ∧ slots + ms ≤ R.slots)
    (kk : ∀ (u : S) (H1 : Heap) (locs1 : List Loc), post u → va_P G.1 vwCl (w1 u ++ pl) H1 → va_D A (w1 u ++ pl) → va_S A s.heap H1 locs1 → W p l e R s m args below meth c H1 locs1 (cells + mc) (slots + ms) Q (F0 m (pc + 3) ls rest)) : W p l e R s m args below meth c H locs cells slots Q (F0 m pc ls st0) := by
  have hF := fr_all (spl_D hD) hS hA
  refine va_callv (va_runI F hM cw ⟨pc_blind, fun U hU hW => ⟨rfl, pc_at (spl_P hP) (spl_D hD) hK hS hZ hF U hU hW⟩⟩ rfl hn hls hst (lv_room hW) hdg hf) hS (fun q _ h => hF q h) hF (fun u t H1 locs1 ht _ hp hB _ hk hS1 => ?_)
  obtain ⟨h1, h2⟩ := va_joinQ (X := w0) (cx := w0) (wr := []) (pl := pl) hP hD (List.range w0.length) [] (rg w0) rfl rfl (fun i h => by cases h) hk hF (by rw [← ht]; exact hB.1) hB.2
  exact kk u H1 locs1 hp h1 h2 hS1
/-- a method that gets the first part of the world -/
theorem xV_i {post : Int32 → S → Prop} (F : CallFix p m c cc nL s args Ts own) (hM : Met l y (Cond.code y bytes maxL ret :: TB) rm (va_Pc (.ref b :: As) (pcW G Zd w0 H.size)) (qI G post w1 (va_A w0 H.size)) mc ms (va_A w0 H.size)) (cw : CallW R s args own y.cls index y bytes maxL ret (Cond.code y bytes maxL ret :: TB) rm mc ms n) (hP : va_P G.1 vwCl (w0 ++ pl) H) (hD : va_D A (w0 ++ pl)) (hK : va_K G.1 vwCl (TY G.2) s) (hS : va_S A s.heap H locs) (hA : ∀ q, s.heap.size ≤ q → A q) (hZ : zz Zd A s s.heap) (hrv : ∃ cellB : Cell, H[b]? = some cellB ∧ cellB.vm.isStatics = false ∧ s.vm.findClass y.cls = some cellB.cls)
    (hn : As.length = n) (hls : ls.size = nL) (hst : st0 = As.reverse ++ .ref b :: rest) (hW : (rest.map fun v => v.category).sum ≤ 8) (hdg : decode cc pc = .ok (.invokevirtual index, 3)) (hf : cells + mc ≤ R.cells ∧ slots + ms ≤ R.slots)
    (kk : ∀ (r : Int32) (u : S) (H1 : Heap) (locs1 : List Loc), post r u → va_P G.1 vwCl (w1 u ++ pl) H1 → va_D A (w1 u ++ pl) → va_S A s.heap H1 locs1 → W p l e R s m args below meth c H1 locs1 (cells + mc) (slots + ms) Q (F0 m (pc + 3) ls (.int r :: rest))) : W p l e R s m args below meth c H locs cells slots Q (F0 m pc ls st0) := by
  have hF := fr_all (spl_D hD) hS hA
  refine va_calli (va_runV F hM cw ⟨pc_blind, hrv, fun U hU hW => ⟨rfl, pc_at (spl_P hP) (spl_D hD) hK hS hZ hF U hU hW⟩⟩ rfl hn hls hst (lv_room hW) hdg hf) hS (fun q _ h => hF q h) hF (fun r u t H1 locs1 ht _ hp hB _ hk hS1 => ?_)
  obtain ⟨h1, h2⟩ := va_joinQ (X := w0) (cx := w0) (wr := []) (pl := pl) hP hD (List.range w0.length) [] (rg w0) rfl rfl (fun i h => by cases h) hk hF (by rw [← ht]; exact hB.1) hB.2
  exact kk r u H1 locs1 hp h1 h2 hS1
end SPL
theorem ka_prim {args : Array Value} {s : State} {ty : FieldType} (h : (Cond.arrayClass ty).before args s = true) : ∃ cA : ClassId, ArrOfT s cA ty ∧ s.vm.findClass ("[" ++ ty.toString) = some cA := by
  obtain ⟨cA, kA, comp, h1, h2, h3⟩ := Cond.arrayClass_spec (first := s) (o := none) (idx := []) h
  exact ⟨cA, fun n z => ⟨fun k h => (by cases h), kA, h2, comp, h3⟩, h1⟩
theorem ka_obj {s : State} {C : String} (h : va_AO C s) : ∃ cA : ClassId, ArrOfT s cA (.object C) ∧ va_RA s cA (.object C) := by
  obtain ⟨comp, c, k, h1, h2, h3, h4, h5⟩ := Cond.arrayOver_spec (first := s) (o := none) (idx := []) h
  exact ⟨c, fun n z => ⟨fun k h => (by cases h), k, h3, comp, h4⟩, k, comp, h3, h4, h1, h5⟩
theorem nW_of {args : Array Value} {s : State} (hts : ∀ w ∈ lw_tbl, w.before args s = true) : nW s := by
  intro w hw
  have h1 := hts w (List.mem_filter.mp hw).1
  have h2 := (List.mem_filter.mp hw).2
  cases w <;> first | exact va_Nw.of rfl h1 | cases h2
/-! THE CLAIM OUT OF ONE WALK OF THE LAW'S BODY. Your part is whole_start (and what it stands on); all else here is the same for every law, but numbers. -/
def R_law : String := "PagedValuesLaw"
def lw_P (b : Addr) (xs : List Int32) (args : Array Value) (s : State) : Prop := args = #[.ref b] ∧ s.IntsAt b xs ∧ xs.length ≤ 1536 ∧ (Jvm.Cond.and given_1 narrow_1).before args s = true
def lw_Q (_ : Array Value) (s : State) (o : Outcome) (t : State) : Prop := o = .returned (some (.int 1)) ∧ Framed s o t [] 600000 7302250
def lw_Z (below : List Frame) (a : Array Value) (s : State) : State → Prop := fun t => ∃ o, t.status = .running ∧ Ended t below o ∧ lw_Q a s o t
/-- the law's own end, with 1 on the stack, nothing written that was there before, its room as the claim has it -/
theorem lw_ret {p : Program} {l : Launch} {e : Env} {s : State} {m : MethodId} {below : List Frame} {meth : Method} {c : Code} {b : Nat} (hx : p.tables.exec = Jvm.exec) (hb : c.code = code) (hr : meth.sig.returnType = ret) (hlocks : meth.locks = false) {pc : Nat} {H : Heap} {ls : Array Slot} (hdg : decode code pc = .ok (.ireturn, 1)) : W p l e room_1 s m #[Value.ref b] below meth c H [] 600000 7302250 (lw_Z below #[Value.ref b] s) (F0 m pc ls [.int 1]) := by
  intro T hT X
  obtain ⟨fs, hret, hrun, hended, hW, hframe⟩ := X.leave (v := some (.int 1)) (hlocks := hlocks) (fun h => by rw [hr] at h; cases h)
  have hmeth' : T.vm.method? m = some meth := X.method'
  refine ⟨T.setFrames fs, ?_, .returned (some (.int 1)), hrun, hended, rfl, ⟨_, rfl⟩, hW, hframe⟩
  jvm_step X.here [X.here.top, hx, hb, hdg, hmeth', hr, ret, narrow_b1]
  (try refine ⟨rfl, ?_⟩); (try refine ⟨rfl, ?_⟩)
  first | (intro acts; rw [hret _ acts rfl rfl rfl]) | rw [hret _ _ rfl rfl rfl]
  exact Steps.refl _
/-- what holds at the law's entry: the machine, the code, the tables' words (any of lw_tbl by 'hts w (by decide +kernel)'), the script of L ints xs at the cell b, what the Statement gives of the start (any of its parts by flat_of_before) -/
def lw_At (p : Program) (s : State) (m : MethodId) (meth : Method) (c : Code) (b L : Nat) (xs : Nat → Int32) : Prop :=
  p.tables.exec = Jvm.exec ∧ c.code = code ∧ meth.sig.returnType = ret ∧ c.maxLocals = 4 ∧ s.vm.findClass R_law = some m.cls ∧ (∀ w ∈ lw_tbl, w.before #[Value.ref b] s = true) ∧ va_X b L xs s s.heap ∧ b < s.heap.size ∧ meth.locks = false ∧ (Jvm.Cond.and given_1 narrow_1).before #[Value.ref b] s = true

set_option maxHeartbeats 4000000 in
set_option maxRecDepth 100000 in
/-- classes, arrays, constants at the law's start -/
theorem law_init {p : Program} {s : State} {m : MethodId} {meth : Method} {c : Code} {b L : Nat} {xs : Nat → Int32} (C0 : lw_At p s m meth c b L xs) : ∃ (G : Gk) (Zd : Nat → Nat), va_K G.1 vwCl (TY G.2) s ∧ zz Zd (fun q => s.heap.size ≤ q) s s.heap := by
  obtain ⟨hx, hb, hr, hml, hown, hts, hX, hbl, hlk, hgv⟩ := C0
  have hT : ∀ w ∈ TB, w.before #[Value.ref b] s = true := fun w h => hts w (List.mem_filter.mp h).1
  obtain ⟨c0, i0, k0⟩ := u_known (C := r_0) (T := f_0) (N := 7) (n := 7) hT ly_0 (hts _ (tp_1 (List.mem_of_getElem? (i := 28) rfl)))
  obtain ⟨c1, i1, k1⟩ := u_known (C := r_1) (T := f_1) (N := 5) (n := 5) hT ly_1 (hts _ (tp_1 (List.mem_of_getElem? (i := 36) rfl)))
  obtain ⟨c2, i2, k2⟩ := u_known (C := r_2) (T := f_2) (N := 4) (n := 4) hT ly_2 (hts _ (tp_1 (List.mem_of_getElem? (i := 42) rfl)))
  obtain ⟨c3, i3, k3⟩ := u_known (C := r_3) (T := f_3) (N := 1) (n := 1) hT ly_3 (hts _ (tp_1 (List.mem_of_getElem? (i := 95) rfl)))
  obtain ⟨c4, i4, k4⟩ := u_known (C := r_4) (T := f_4) (N := 2) (n := 2) hT ly_4 (hts _ (tp_1 (List.mem_of_getElem? (i := 105) rfl)))
  obtain ⟨c5, i5, k5⟩ := u_known (C := r_5) (T := f_5) (N := 1) (n := 1) hT ly_5 (hts _ (tp_1 (List.mem_of_getElem? (i := 111) rfl)))
  obtain ⟨c6, i6, k6⟩ := u_known (C := r_6) (T := f_6) (N := 2) (n := 2) hT ly_6 (hts _ (tp_1 (List.mem_of_getElem? (i := 131) rfl)))
  obtain ⟨c7, i7, k7⟩ := u_known (C := r_7) (T := f_7) (N := 5) (n := 5) hT ly_7 (hts _ (tp_1 (List.mem_of_getElem? (i := 138) rfl)))
  obtain ⟨c8, i8, k8⟩ := u_known (C := r_8) (T := f_8) (N := 8) (n := 8) hT ly_8 (hts _ (tp_1 (List.mem_of_getElem? (i := 176) rfl)))
  obtain ⟨c9, i9, k9⟩ := u_known (C := r_9) (T := f_9) (N := 9) (n := 9) hT ly_9 (hts _ (tp_1 (List.mem_of_getElem? (i := 212) rfl)))
  obtain ⟨c10, i10, k10⟩ := u_known (C := r_10) (T := f_10) (N := 2) (n := 2) hT ly_10 (hts _ (tp_1 (List.mem_of_getElem? (i := 220) rfl)))
  obtain ⟨c11, i11, k11⟩ := u_known (C := r_11) (T := f_11) (N := 6) (n := 6) hT ly_11 (hts _ (tp_2 (List.mem_of_getElem? (i := 102) rfl)))
  obtain ⟨c12, i12, k12⟩ := u_known (C := r_12) (T := f_12) (N := 4) (n := 4) hT ly_12 (hts _ (tp_2 (List.mem_of_getElem? (i := 222) rfl)))
  obtain ⟨c13, i13, k13⟩ := u_known (C := r_13) (T := f_13) (N := 42) (n := 42) hT ly_13 (hts _ (tp_5 (List.mem_of_getElem? (i := 186) rfl)))
  obtain ⟨a0, A0, B0⟩ := ka_prim (hts _ (tp_1 (List.mem_of_getElem? (i := 73) rfl)))
  obtain ⟨a1, A1, B1⟩ := ka_prim (hts _ (tp_1 (List.mem_of_getElem? (i := 210) rfl)))
  obtain ⟨a2, A2, B2⟩ := ka_prim (hts _ (tp_1 (List.mem_of_getElem? (i := 74) rfl)))
  obtain ⟨a3, A3, B3⟩ := ka_prim (hts _ (tp_1 (List.mem_of_getElem? (i := 235) rfl)))
  obtain ⟨a4, A4, B4⟩ := ka_prim (hts _ (tp_6 (List.mem_of_getElem? (i := 78) rfl)))
  have o5 : va_AO "PagedValues$Value" s := va_AO.of (hts _ (tp_1 (List.mem_of_getElem? (i := 182) rfl)))
  obtain ⟨a5, A5, B5⟩ := ka_obj o5
  have o6 : va_AO "PagedValues$Page" s := va_AO.of (hts _ (tp_1 (List.mem_of_getElem? (i := 218) rfl)))
  obtain ⟨a6, A6, B6⟩ := ka_obj o6
  have o7 : va_AO "PagedValues$Selector" s := va_AO.of (hts _ (tp_1 (List.mem_of_getElem? (i := 137) rfl)))
  obtain ⟨a7, A7, B7⟩ := ka_obj o7
  have hfl := flat_of_before _ hgv
  have hcs : (Cond.eq (.static "java/lang/String" "COMPACT_STRINGS" "Z") (.int 1)).before #[Value.ref b] s = true := hfl _ (by decide +kernel)
  have hst : (Cond.exactly (.string "PagedValues$Selector" 7) "java/lang/String").before #[Value.ref b] s = true := hfl _ (by decide +kernel)
  obtain ⟨z0, _, _, _, hz0, -⟩ := Cond.exactly_spec (args := #[Value.ref b]) (first := s) (o := none) (s := s) (idx := []) hst
  have hZ0 := va_Zof (A := fun q => s.heap.size ≤ q) (hts _ (tp_1 (List.mem_of_getElem? (i := 51) rfl))) (hts _ (tp_1 (List.mem_of_getElem? (i := 5) rfl))) (va_eqi hcs) (fun a h h2 => absurd h2 (Nat.not_le.mpr h))
  refine ⟨((fun k => ([c0, c1, c2, c3, c4, c5, c6, c7, c8, c9, c10, c11, c12, c13] : List ClassId).getD k c0, fun k => ([i0, i1, i2, i3, i4, i5, i6, i7, i8, i9, i10, i11, i12, i13] : List (Nat → Nat)).getD k i0), fun k => ([a0, a1, a2, a3, a4, a5, a6, a7] : List ClassId).getD k a0), fun _ => z0, ⟨fun k q hq => ?_, fun k q hq => ?_⟩, nW_of hts, hZ0, vk_R.of (hts _ (tp_1 (List.mem_of_getElem? (i := 143) rfl))) hz0, o5, o6, o7⟩
  · have hk : k < 14 := (List.getElem?_eq_some_iff.mp hq).1
    rcases (show k = 0 ∨ k = 1 ∨ k = 2 ∨ k = 3 ∨ k = 4 ∨ k = 5 ∨ k = 6 ∨ k = 7 ∨ k = 8 ∨ k = 9 ∨ k = 10 ∨ k = 11 ∨ k = 12 ∨ k = 13 by omega) with rfl | rfl | rfl | rfl | rfl | rfl | rfl | rfl | rfl | rfl | rfl | rfl | rfl | rfl
    · cases hq; exact k0
    · cases hq; exact k1
    · cases hq; exact k2
    · cases hq; exact k3
    · cases hq; exact k4
    · cases hq; exact k5
    · cases hq; exact k6
    · cases hq; exact k7
    · cases hq; exact k8
    · cases hq; exact k9
    · cases hq; exact k10
    · cases hq; exact k11
    · cases hq; exact k12
    · cases hq; exact k13
  · have hk : k < 8 := (List.getElem?_eq_some_iff.mp hq).1
    rcases (show k = 0 ∨ k = 1 ∨ k = 2 ∨ k = 3 ∨ k = 4 ∨ k = 5 ∨ k = 6 ∨ k = 7 by omega) with rfl | rfl | rfl | rfl | rfl | rfl | rfl | rfl
    · cases hq; exact ⟨A0, B0⟩
    · cases hq; exact ⟨A1, B1⟩
    · cases hq; exact ⟨A2, B2⟩
    · cases hq; exact ⟨A3, B3⟩
    · cases hq; exact ⟨A4, B4⟩
    · cases hq; exact ⟨A5, B5⟩
    · cases hq; exact ⟨A6, B6⟩
    · cases hq; exact ⟨A7, B7⟩
