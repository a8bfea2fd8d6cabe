/-! The walk's rows over where it stands (wsH) and what it may take as given (cxH). -/
/-- a null test -/
def nl {α : Type} (x : Option Nat) (a : Option α) (f : Nat → Option α) : Option α := match x with
  | none => a
  | some b => f b
theorem nl_case {α : Type} {x : Option Nat} {a : Option α} {f : Nat → Option α} {b : α} (h : nl x a f = some b) : (x = none ∧ a = some b) ∨ ∃ y, x = some y ∧ f y = some b := by
  cases x with
  | none => exact Or.inl ⟨rfl, h⟩
  | some y => exact Or.inr ⟨y, rfl, h⟩
/-- new cells, within the bounds -/
def nOc (Zd : Nat → Nat) (st : CS) (ci N : Nat) (fs : List Value) : Option CS := if st.1.1 + 1 ≤ Zd 6 ∧ st.1.2 + N ≤ Zd 7 then some (nO st ci N fs) else none
theorem nOc_some {Zd : Nat → Nat} {st st' : CS} {ci N : Nat} {fs : List Value} (h : nOc Zd st ci N fs = some st') : st.1.1 + 1 ≤ Zd 6 ∧ st.1.2 + N ≤ Zd 7 ∧ st' = nO st ci N fs := by
  unfold nOc at h
  by_cases c : st.1.1 + 1 ≤ Zd 6 ∧ st.1.2 + N ≤ Zd 7
  · rw [if_pos c] at h; exact ⟨c.1, c.2, (Option.some.inj h).symm⟩
  · rw [if_neg c] at h; cases h
def nBc (Zd : Nat → Nat) (st : CS) (n : Int32) : Option CS := if n < 0 ∨ 65536 < n.toNatClampNeg then none else if st.1.1 + 1 ≤ Zd 6 ∧ st.1.2 + n.toNatClampNeg ≤ Zd 7 then some (nB st n.toNatClampNeg) else none
theorem nBc_some {Zd : Nat → Nat} {st st' : CS} {n : Int32} (h : nBc Zd st n = some st') : ¬ n < 0 ∧ n.toNatClampNeg ≤ 65536 ∧ st.1.1 + 1 ≤ Zd 6 ∧ st.1.2 + n.toNatClampNeg ≤ Zd 7 ∧ st' = nB st n.toNatClampNeg := by
  unfold nBc at h
  by_cases c0 : n < 0 ∨ 65536 < n.toNatClampNeg
  · rw [if_pos c0] at h; cases h
  · rw [if_neg c0] at h
    by_cases c : st.1.1 + 1 ≤ Zd 6 ∧ st.1.2 + n.toNatClampNeg ≤ Zd 7
    · rw [if_pos c] at h
      exact ⟨fun q => c0 (Or.inl q), Nat.not_lt.mp fun q => c0 (Or.inr q), c.1, c.2, (Option.some.inj h).symm⟩
    · rw [if_neg c] at h; cases h
/-- bytes copied from one array to another -/
def cpB (K : KE) (st : CS) (a0 : Nat) (sp : Int32) (a : Nat) (dp n : Int32) : Option CS := (cA K st a0).bind fun e0 => match e0 with
  | .inl (t0, n0, f) => if a ∈ st.2.1 then (match st.2.2 a with
    | .inl (t1, n1, g) => if t0 = 2 ∧ t1 = 2 ∧ ¬ sp < 0 ∧ ¬ dp < 0 ∧ ¬ n < 0 ∧ sp.toNatClampNeg + n.toNatClampNeg ≤ n0 ∧ dp.toNatClampNeg + n.toNatClampNeg ≤ n1 ∧ (List.range n.toNatClampNeg).all (fun i => fits .byte (.int (f (sp.toNatClampNeg + i)))) = true then some (uC st a (.inl (2, n1, va_cpy f g sp.toNatClampNeg dp.toNatClampNeg n.toNatClampNeg))) else none
    | _ => none) else none
  | _ => none
theorem cpB_some {K : KE} {st st' : CS} {a0 a : Nat} {sp dp n : Int32} (h : cpB K st a0 sp a dp n = some st') : ∃ (n0 n1 : Nat) (f g : Nat → Int32), cA K st a0 = some (.inl (2, n0, f)) ∧ a ∈ st.2.1 ∧ st.2.2 a = .inl (2, n1, g) ∧ ¬ sp < 0 ∧ ¬ dp < 0 ∧ ¬ n < 0 ∧ sp.toNatClampNeg + n.toNatClampNeg ≤ n0 ∧ dp.toNatClampNeg + n.toNatClampNeg ≤ n1 ∧ (∀ i, i < n.toNatClampNeg → fits .byte (.int (f (sp.toNatClampNeg + i))) = true) ∧ st' = uC st a (.inl (2, n1, va_cpy f g sp.toNatClampNeg dp.toNatClampNeg n.toNatClampNeg)) := by
  unfold cpB at h
  cases hc : cA K st a0 with
  | none => rw [hc] at h; cases h
  | some e =>
    rw [hc] at h
    rcases e with ⟨t0, n0, f⟩ | x | x
    · by_cases ha : a ∈ st.2.1
      · rcases hf : st.2.2 a with ⟨t1, n1, g⟩ | x | x
        · simp only [Option.bind_some, ha, if_true, hf] at h
          by_cases c : t0 = 2 ∧ t1 = 2 ∧ ¬ sp < 0 ∧ ¬ dp < 0 ∧ ¬ n < 0 ∧ sp.toNatClampNeg + n.toNatClampNeg ≤ n0 ∧ dp.toNatClampNeg + n.toNatClampNeg ≤ n1 ∧ (List.range n.toNatClampNeg).all (fun i => fits .byte (.int (f (sp.toNatClampNeg + i)))) = true
          · rw [if_pos c] at h
            obtain ⟨rfl, rfl, c3, c4, c5, c6, c7, c8⟩ := c
            exact ⟨n0, n1, f, g, rfl, ha, rfl, c3, c4, c5, c6, c7, fun i hi => List.all_eq_true.mp c8 i (List.mem_range.mpr hi), (Option.some.inj h).symm⟩
          · rw [if_neg c] at h; cases h
        · simp only [Option.bind_some, ha, if_true, hf] at h; cases h
        · simp only [Option.bind_some, ha, if_true, hf] at h; cases h
      · simp only [Option.bind_some, ha, if_false] at h; cases h
    · cases h
    · cases h
theorem cpB_1 {K : KE} {st st' : CS} {a0 a : Nat} {sp dp n : Int32} (h : cpB K st a0 sp a dp n = some st') : st.1 = st'.1 := by
  obtain ⟨n0, n1, f, g, -, -, -, -, -, -, -, -, -, rfl⟩ := cpB_some h
  rfl
def nrB (v : Int32) : Option Unit := if vp_nar .byte v = v ∧ fits .byte (.int v) = true then some () else none
theorem nrB_some {v : Int32} {x : Unit} (h : nrB v = some x) : narrow .byte (.int v) = .int v ∧ fits .byte (.int v) = true := by
  unfold nrB at h
  by_cases c : vp_nar .byte v = v ∧ fits .byte (.int v) = true
  · exact ⟨congrArg Value.int c.1, c.2⟩
  · rw [if_neg c] at h; cases h
def nrC (v : Int32) : Option Unit := if vp_nar .char v = v ∧ fits .char (.int v) = true then some () else none
theorem nrC_some {v : Int32} {x : Unit} (h : nrC v = some x) : narrow .char (.int v) = .int v ∧ fits .char (.int v) = true := by
  unfold nrC at h
  by_cases c : vp_nar .char v = v ∧ fits .char (.int v) = true
  · exact ⟨congrArg Value.int c.1, c.2⟩
  · rw [if_neg c] at h; cases h
/-- the place of one of Kind's constants -/
def ordK (Zd : Nat → Nat) (a : Nat) : Option Int32 := if a = Zd 8 then some 0 else if a = Zd 9 then some 1 else if a = Zd 10 then some 2 else if a = Zd 11 then some 3 else if a = Zd 12 then some 4 else if a = Zd 13 then some 5 else if a = Zd 14 then some 6 else none
theorem ordK_some {Zd : Nat → Nat} {a : Nat} {x : Int32} (h : ordK Zd a = some x) : ∃ i, i < 7 ∧ a = Zd (8 + i) ∧ x = ([0, 1, 2, 3, 4, 5, 6] : List Int32).getD i 0 := by
  unfold ordK at h
  by_cases c0 : a = Zd 8
  · rw [if_pos c0] at h; exact ⟨0, by decide, c0, (Option.some.inj h).symm⟩
  rw [if_neg c0] at h
  by_cases c1 : a = Zd 9
  · rw [if_pos c1] at h; exact ⟨1, by decide, c1, (Option.some.inj h).symm⟩
  rw [if_neg c1] at h
  by_cases c2 : a = Zd 10
  · rw [if_pos c2] at h; exact ⟨2, by decide, c2, (Option.some.inj h).symm⟩
  rw [if_neg c2] at h
  by_cases c3 : a = Zd 11
  · rw [if_pos c3] at h; exact ⟨3, by decide, c3, (Option.some.inj h).symm⟩
  rw [if_neg c3] at h
  by_cases c4 : a = Zd 12
  · rw [if_pos c4] at h; exact ⟨4, by decide, c4, (Option.some.inj h).symm⟩
  rw [if_neg c4] at h
  by_cases c5 : a = Zd 13
  · rw [if_pos c5] at h; exact ⟨5, by decide, c5, (Option.some.inj h).symm⟩
  rw [if_neg c5] at h
  by_cases c6 : a = Zd 14
  · rw [if_pos c6] at h; exact ⟨6, by decide, c6, (Option.some.inj h).symm⟩
  rw [if_neg c6] at h
  cases h
theorem tot_sameq {H H1 : Heap} {a : Nat} {cell cell1 : Cell} (hc : H[a]? = some cell) (h1 : H1[a]? = some cell1) (hs : cell1.slots.size = cell.slots.size) (ho : ∀ q : Nat, q ≠ a → H1[q]? = H[q]?) : tot H1 = tot H := by
  unfold tot
  congr 1
  apply List.ext_getElem?
  intro i
  rw [List.getElem?_map, List.getElem?_map, Array.getElem?_toList, Array.getElem?_toList]
  by_cases hi : i = a
  · subst hi
    rw [hc, h1]
    simp [hs]
  · rw [ho i hi]
theorem lk_c {x : Int32} {a o d : Int} {l : List (Int × Int)} (c : Int32) (hc : c.toInt = a) (hn : ¬ x = c) (h : Op.lookupswitch.offset l d x.toInt = d) : Op.lookupswitch.offset ((a, o) :: l) d x.toInt = d := by
  rw [Op.lookupswitch.offset_cons, if_neg (fun e => hn (Int32.toInt_inj.mp (by rw [← e, hc])))]
  exact h
theorem i32nn (z : Int32) (hz : ¬ z < 0) : z.toInt = (z.toNatClampNeg : Int) := by
  have hz0 : (0 : Int) ≤ z.toInt := by
    have := Int32.not_lt.mp hz
    simpa using Int32.le_iff_toInt_le.mp this
  show z.toInt = ((z.toInt.toNat : Nat) : Int)
  omega
section X7
variable {p : Program} {l : Launch} {e : Env} {R : Room} {s : State} {m : MethodId} {args : Array Value} {below : List Frame} {meth : Method} {c : Code} {H : Heap} {locs : List Loc} {cells slots : Nat} {Q : State → Prop} {cc : ByteArray} {pc : Nat} {ls : Array Slot} {rest : List Value} {G : Gk} {Zd : Nat → Nat} {K : KE} {A : Nat → Prop} {st st' : CS} {a : Nat} {own ref C host : String} {T : u_T} {N ci index : Nat} {Ts : List Cond}
theorem xg_i (hexec : p.tables.exec = Jvm.exec) (hb : c.code = cc) (hts : ∀ w ∈ Ts, w.before args s = true) (hin : ∀ w ∈ u_ws C T N, w ∈ Ts) (hown : s.vm.findClass own = some m.cls) (hE : cxH G Zd K A R s) (hw : wsH G Zd A s st H locs) (hc : vwCl[ci]? = some (C, T, N)) (k : Nat) (hk : k < N) (hlink : (Cond.fieldLink own index ref (T k).2.1 (T k).2.2.1).before args s = true) (hsame : ∀ x, s.fieldFound? (T k).1 (T k).2.1 (T k).2.2.1 = some x → s.fieldFound? ref (T k).2.1 (T k).2.2.1 = some x) {v : Int32} (h : gI K st a ci k = some v) (hdg : decode cc pc = .ok (.getfield index, 3)) (kk : W p l e R s m args below meth c H locs cells slots Q (F0 m (pc + 3) ls (.int v :: rest))) : W p l e R s m args below meth c H locs cells slots Q (F0 m pc ls (.ref a :: rest)) :=
  hg_get (ci := ci) hexec hb hts hin hown hE.1 hw.2.1 (hE.2.2.2.1.kept hw.2.2.2.2.1) hc k hk hlink hsame (gI_some h) hdg kk
theorem xg_q (hexec : p.tables.exec = Jvm.exec) (hb : c.code = cc) (hts : ∀ w ∈ Ts, w.before args s = true) (hin : ∀ w ∈ u_ws C T N, w ∈ Ts) (hown : s.vm.findClass own = some m.cls) (hE : cxH G Zd K A R s) (hw : wsH G Zd A s st H locs) (hc : vwCl[ci]? = some (C, T, N)) (k : Nat) (hk : k < N) (hlink : (Cond.fieldLink own index ref (T k).2.1 (T k).2.2.1).before args s = true) (hsame : ∀ x, s.fieldFound? (T k).1 (T k).2.1 (T k).2.2.1 = some x → s.fieldFound? ref (T k).2.1 (T k).2.2.1 = some x) {v : Option Nat} (h : gQ K st a ci k = some v) (hdg : decode cc pc = .ok (.getfield index, 3)) (kk : W p l e R s m args below meth c H locs cells slots Q (F0 m (pc + 3) ls (va_rf v :: rest))) : W p l e R s m args below meth c H locs cells slots Q (F0 m pc ls (.ref a :: rest)) :=
  hg_get (ci := ci) hexec hb hts hin hown hE.1 hw.2.1 (hE.2.2.2.1.kept hw.2.2.2.2.1) hc k hk hlink hsame (gQ_some h) hdg kk
theorem xgN_i (hexec : p.tables.exec = Jvm.exec) (hb : c.code = cc) (hts : ∀ w ∈ Ts, w.before args s = true) (hin : ∀ w ∈ u_ws C T N, w ∈ Ts) (hown : s.vm.findClass own = some m.cls) (hE : cxH G Zd K A R s) (hw : wsH G Zd A s st H locs) (hc : vwCl[ci]? = some (C, T, N)) (k : Nat) (hk : k < N) (hlink : (Cond.fieldLinkNest own index ref (T k).2.1 (T k).2.2.1 host).before args s = true) (hsame : ∀ x, s.fieldFound? (T k).1 (T k).2.1 (T k).2.2.1 = some x → s.fieldFound? ref (T k).2.1 (T k).2.2.1 = some x) {v : Int32} (h : gI K st a ci k = some v) (hdg : decode cc pc = .ok (.getfield index, 3)) (kk : W p l e R s m args below meth c H locs cells slots Q (F0 m (pc + 3) ls (.int v :: rest))) : W p l e R s m args below meth c H locs cells slots Q (F0 m pc ls (.ref a :: rest)) :=
  hg_getN (ci := ci) hexec hb hts hin hown hE.1 hw.2.1 (hE.2.2.2.1.kept hw.2.2.2.2.1) hc k hk hlink hsame (gI_some h) hdg kk
theorem xgN_q (hexec : p.tables.exec = Jvm.exec) (hb : c.code = cc) (hts : ∀ w ∈ Ts, w.before args s = true) (hin : ∀ w ∈ u_ws C T N, w ∈ Ts) (hown : s.vm.findClass own = some m.cls) (hE : cxH G Zd K A R s) (hw : wsH G Zd A s st H locs) (hc : vwCl[ci]? = some (C, T, N)) (k : Nat) (hk : k < N) (hlink : (Cond.fieldLinkNest own index ref (T k).2.1 (T k).2.2.1 host).before args s = true) (hsame : ∀ x, s.fieldFound? (T k).1 (T k).2.1 (T k).2.2.1 = some x → s.fieldFound? ref (T k).2.1 (T k).2.2.1 = some x) {v : Option Nat} (h : gQ K st a ci k = some v) (hdg : decode cc pc = .ok (.getfield index, 3)) (kk : W p l e R s m args below meth c H locs cells slots Q (F0 m (pc + 3) ls (va_rf v :: rest))) : W p l e R s m args below meth c H locs cells slots Q (F0 m pc ls (.ref a :: rest)) :=
  hg_getN (ci := ci) hexec hb hts hin hown hE.1 hw.2.1 (hE.2.2.2.1.kept hw.2.2.2.2.1) hc k hk hlink hsame (gQ_some h) hdg kk
theorem xp (hexec : p.tables.exec = Jvm.exec) (hb : c.code = cc) (hts : ∀ w ∈ Ts, w.before args s = true) (hin : ∀ w ∈ u_ws C T N, w ∈ Ts) (ty0 : Nat → FieldType) (hty : ∀ k, k < N → parseFieldDescriptor (T k).2.2.1 = some (ty0 k)) (hnm : ∀ a, a < N → ∀ b, b < N → a ≠ b → (T a).2.1 ≠ (T b).2.1) (hown : s.vm.findClass own = some m.cls) (hE : cxH G Zd K A R s) (hw : wsH G Zd A s st H locs) (hc : vwCl[ci]? = some (C, T, N)) (k : Nat) (hk : k < N) (hlink : (Cond.fieldLink own index ref (T k).2.1 (T k).2.2.1).before args s = true) (hsame : ∀ x, s.fieldFound? (T k).1 (T k).2.1 (T k).2.2.1 = some x → s.fieldFound? ref (T k).2.1 (T k).2.2.1 = some x) (hfin : (T k).2.2.2 = false) {ty : FieldType} {v : Value} (h : sF st a ci k v = some st') (hd : parseFieldDescriptor (T k).2.2.1 = some ty) (hn : narrow ty v = v) (hfit : fits ty v = true) (hdg : decode cc pc = .ok (.putfield index, 3)) (kk : ∀ (H1 : Heap) (locs1 : List Loc), wsH G Zd A s st' H1 locs1 → W p l e R s m args below meth c H1 locs1 cells slots Q (F0 m (pc + 3) ls rest)) : W p l e R s m args below meth c H locs cells slots Q (F0 m pc ls (v :: .ref a :: rest)) :=
  hs_put (ci := ci) hexec hb hts hin ty0 hty hnm hown hE.1 hw.2.1 hw.2.2.1 hw.2.2.2 hc k hk hlink hsame hfin h hd hn hfit hdg (fun H1 locs1 e1 e2 g1 g2 g3 => kk H1 locs1 ⟨hw.1.put e1 e2 (sF_1 h), g1, g2, g3⟩)
theorem xpN (hexec : p.tables.exec = Jvm.exec) (hb : c.code = cc) (hts : ∀ w ∈ Ts, w.before args s = true) (hin : ∀ w ∈ u_ws C T N, w ∈ Ts) (ty0 : Nat → FieldType) (hty : ∀ k, k < N → parseFieldDescriptor (T k).2.2.1 = some (ty0 k)) (hnm : ∀ a, a < N → ∀ b, b < N → a ≠ b → (T a).2.1 ≠ (T b).2.1) (hown : s.vm.findClass own = some m.cls) (hE : cxH G Zd K A R s) (hw : wsH G Zd A s st H locs) (hc : vwCl[ci]? = some (C, T, N)) (k : Nat) (hk : k < N) (hlink : (Cond.fieldLinkNest own index ref (T k).2.1 (T k).2.2.1 host).before args s = true) (hsame : ∀ x, s.fieldFound? (T k).1 (T k).2.1 (T k).2.2.1 = some x → s.fieldFound? ref (T k).2.1 (T k).2.2.1 = some x) (hfin : (T k).2.2.2 = false) {ty : FieldType} {v : Value} (h : sF st a ci k v = some st') (hd : parseFieldDescriptor (T k).2.2.1 = some ty) (hn : narrow ty v = v) (hfit : fits ty v = true) (hdg : decode cc pc = .ok (.putfield index, 3)) (kk : ∀ (H1 : Heap) (locs1 : List Loc), wsH G Zd A s st' H1 locs1 → W p l e R s m args below meth c H1 locs1 cells slots Q (F0 m (pc + 3) ls rest)) : W p l e R s m args below meth c H locs cells slots Q (F0 m pc ls (v :: .ref a :: rest)) :=
  hs_putN (ci := ci) hexec hb hts hin ty0 hty hnm hown hE.1 hw.2.1 hw.2.2.1 hw.2.2.2 hc k hk hlink hsame hfin h hd hn hfit hdg (fun H1 locs1 e1 e2 g1 g2 g3 => kk H1 locs1 ⟨hw.1.put e1 e2 (sF_1 h), g1, g2, g3⟩)
theorem xpF (hexec : p.tables.exec = Jvm.exec) (hb : c.code = cc) (hts : ∀ w ∈ Ts, w.before args s = true) (hin : ∀ w ∈ u_ws C T N, w ∈ Ts) (ty0 : Nat → FieldType) (hty : ∀ k, k < N → parseFieldDescriptor (T k).2.2.1 = some (ty0 k)) (hnm : ∀ a, a < N → ∀ b, b < N → a ≠ b → (T a).2.1 ≠ (T b).2.1) (hown : s.vm.findClass own = some m.cls) (hE : cxH G Zd K A R s) (hw : wsH G Zd A s st H locs) (hc : vwCl[ci]? = some (C, T, N)) (k : Nat) (hk : k < N) (hlink : (Cond.fieldLink own index ref (T k).2.1 (T k).2.2.1).before args s = true) (hsame : ∀ x, s.fieldFound? (T k).1 (T k).2.1 (T k).2.2.1 = some x → s.fieldFound? ref (T k).2.1 (T k).2.2.1 = some x) (hfin : (T k).2.2.2 = true) (hin2 : meth.name = "<init>") (hdecl : (T k).1 = own) {ty : FieldType} {v : Value} (h : sF st a ci k v = some st') (hd : parseFieldDescriptor (T k).2.2.1 = some ty) (hn : narrow ty v = v) (hfit : fits ty v = true) (hdg : decode cc pc = .ok (.putfield index, 3)) (kk : ∀ (H1 : Heap) (locs1 : List Loc), wsH G Zd A s st' H1 locs1 → W p l e R s m args below meth c H1 locs1 cells slots Q (F0 m (pc + 3) ls rest)) : W p l e R s m args below meth c H locs cells slots Q (F0 m pc ls (v :: .ref a :: rest)) :=
  hs_putF (ci := ci) hexec hb hts hin ty0 hty hnm hown hE.1 hw.2.1 hw.2.2.1 hw.2.2.2 hc k hk hlink hsame hfin hin2 hdecl h hd hn hfit hdg (fun H1 locs1 e1 e2 g1 g2 g3 => kk H1 locs1 ⟨hw.1.put e1 e2 (sF_1 h), g1, g2, g3⟩)
theorem xa_i (hexec : p.tables.exec = Jvm.exec) (hb : c.code = cc) (hE : cxH G Zd K A R s) (hw : wsH G Zd A s st H locs) {i x : Int32} (h : rA K st a 1 i = some x) (hdg : decode cc pc = .ok (.iaload, 1)) (kk : W p l e R s m args below meth c H locs cells slots Q (F0 m (pc + 1) ls (.int x :: rest))) : W p l e R s m args below meth c H locs cells slots Q (F0 m pc ls (.int i :: .ref a :: rest)) :=
  hg_iald hexec hb hE.1 hw.2.1 (hE.2.2.2.1.kept hw.2.2.2.2.1) h hdg kk
theorem xs_i (hexec : p.tables.exec = Jvm.exec) (hb : c.code = cc) (hE : cxH G Zd K A R s) (hw : wsH G Zd A s st H locs) {i v : Int32} (h : wA st a 1 i (v) = some st') (hdg : decode cc pc = .ok (.iastore, 1)) (kk : ∀ (H1 : Heap) (locs1 : List Loc), wsH G Zd A s st' H1 locs1 → W p l e R s m args below meth c H1 locs1 cells slots Q (F0 m (pc + 1) ls rest)) : W p l e R s m args below meth c H locs cells slots Q (F0 m pc ls (.int v :: .int i :: .ref a :: rest)) :=
  hs_iast hexec hb hE.1 hw.2.1 hw.2.2.1 hw.2.2.2 h hdg (fun H1 locs1 e1 e2 g1 g2 g3 => kk H1 locs1 ⟨hw.1.put e1 e2 (wA_1 h), g1, g2, g3⟩)
theorem xa_b (hexec : p.tables.exec = Jvm.exec) (hb : c.code = cc) (hE : cxH G Zd K A R s) (hw : wsH G Zd A s st H locs) {i x : Int32} (h : rA K st a 2 i = some x) (hdg : decode cc pc = .ok (.baload, 1)) (kk : W p l e R s m args below meth c H locs cells slots Q (F0 m (pc + 1) ls (.int x :: rest))) : W p l e R s m args below meth c H locs cells slots Q (F0 m pc ls (.int i :: .ref a :: rest)) :=
  hg_bald hexec hb hE.1 hw.2.1 (hE.2.2.2.1.kept hw.2.2.2.2.1) h hdg kk
theorem xs_b (hexec : p.tables.exec = Jvm.exec) (hb : c.code = cc) (hE : cxH G Zd K A R s) (hw : wsH G Zd A s st H locs) {i v : Int32} (h : wA st a 2 i (vp_nar .byte v) = some st') (hdg : decode cc pc = .ok (.bastore, 1)) (kk : ∀ (H1 : Heap) (locs1 : List Loc), wsH G Zd A s st' H1 locs1 → W p l e R s m args below meth c H1 locs1 cells slots Q (F0 m (pc + 1) ls rest)) : W p l e R s m args below meth c H locs cells slots Q (F0 m pc ls (.int v :: .int i :: .ref a :: rest)) :=
  hs_bast hexec hb hE.1 hw.2.1 hw.2.2.1 hw.2.2.2 h hdg (fun H1 locs1 e1 e2 g1 g2 g3 => kk H1 locs1 ⟨hw.1.put e1 e2 (wA_1 h), g1, g2, g3⟩)
theorem xa_c (hexec : p.tables.exec = Jvm.exec) (hb : c.code = cc) (hE : cxH G Zd K A R s) (hw : wsH G Zd A s st H locs) {i x : Int32} (h : rA K st a 0 i = some x) (hdg : decode cc pc = .ok (.caload, 1)) (kk : W p l e R s m args below meth c H locs cells slots Q (F0 m (pc + 1) ls (.int x :: rest))) : W p l e R s m args below meth c H locs cells slots Q (F0 m pc ls (.int i :: .ref a :: rest)) :=
  hg_cald hexec hb hE.1 hw.2.1 (hE.2.2.2.1.kept hw.2.2.2.2.1) h hdg kk
theorem xs_c (hexec : p.tables.exec = Jvm.exec) (hb : c.code = cc) (hE : cxH G Zd K A R s) (hw : wsH G Zd A s st H locs) {i v : Int32} (h : wA st a 0 i (vp_nar .char v) = some st') (hdg : decode cc pc = .ok (.castore, 1)) (kk : ∀ (H1 : Heap) (locs1 : List Loc), wsH G Zd A s st' H1 locs1 → W p l e R s m args below meth c H1 locs1 cells slots Q (F0 m (pc + 1) ls rest)) : W p l e R s m args below meth c H locs cells slots Q (F0 m pc ls (.int v :: .int i :: .ref a :: rest)) :=
  hs_cast hexec hb hE.1 hw.2.1 hw.2.2.1 hw.2.2.2 h hdg (fun H1 locs1 e1 e2 g1 g2 g3 => kk H1 locs1 ⟨hw.1.put e1 e2 (wA_1 h), g1, g2, g3⟩)
theorem xa_z (hexec : p.tables.exec = Jvm.exec) (hb : c.code = cc) (hE : cxH G Zd K A R s) (hw : wsH G Zd A s st H locs) {i x : Int32} (h : rA K st a 3 i = some x) (hdg : decode cc pc = .ok (.baload, 1)) (kk : W p l e R s m args below meth c H locs cells slots Q (F0 m (pc + 1) ls (.int x :: rest))) : W p l e R s m args below meth c H locs cells slots Q (F0 m pc ls (.int i :: .ref a :: rest)) :=
  hg_zald hexec hb hE.1 hw.2.1 (hE.2.2.2.1.kept hw.2.2.2.2.1) h hdg kk
theorem xs_z (hexec : p.tables.exec = Jvm.exec) (hb : c.code = cc) (hE : cxH G Zd K A R s) (hw : wsH G Zd A s st H locs) {i v : Int32} (h : wA st a 3 i (vp_nar .boolean v) = some st') (hdg : decode cc pc = .ok (.bastore, 1)) (kk : ∀ (H1 : Heap) (locs1 : List Loc), wsH G Zd A s st' H1 locs1 → W p l e R s m args below meth c H1 locs1 cells slots Q (F0 m (pc + 1) ls rest)) : W p l e R s m args below meth c H locs cells slots Q (F0 m pc ls (.int v :: .int i :: .ref a :: rest)) :=
  hs_zast hexec hb hE.1 hw.2.1 hw.2.2.1 hw.2.2.2 h hdg (fun H1 locs1 e1 e2 g1 g2 g3 => kk H1 locs1 ⟨hw.1.put e1 e2 (wA_1 h), g1, g2, g3⟩)
theorem xa_q (hexec : p.tables.exec = Jvm.exec) (hb : c.code = cc) (hE : cxH G Zd K A R s) (hw : wsH G Zd A s st H locs) {t : Nat} (ht : (TY G.2)[t]? = some (G.2 t, .object C)) {i : Int32} {x : Option Nat} (h : rQ K st a t i = some x) (hdg : decode cc pc = .ok (.aaload, 1)) (kk : W p l e R s m args below meth c H locs cells slots Q (F0 m (pc + 1) ls (va_rf x :: rest))) : W p l e R s m args below meth c H locs cells slots Q (F0 m pc ls (.int i :: .ref a :: rest)) :=
  hg_aald hexec hb hE.1 hw.2.1 (hE.2.2.2.1.kept hw.2.2.2.2.1) ht h hdg kk
theorem xs_q (hexec : p.tables.exec = Jvm.exec) (hb : c.code = cc) (hE : cxH G Zd K A R s) (hw : wsH G Zd A s st H locs) {t : Nat} {r : vw_C} (hc : vwCl[ci]? = some r) (ht : (TY G.2)[t]? = some (G.2 t, .object r.1)) {i : Int32} {v : Option Nat} (h : wQ st a t ci i v = some st') (hdg : decode cc pc = .ok (.aastore, 1)) (kk : ∀ (H1 : Heap) (locs1 : List Loc), wsH G Zd A s st' H1 locs1 → W p l e R s m args below meth c H1 locs1 cells slots Q (F0 m (pc + 1) ls rest)) : W p l e R s m args below meth c H locs cells slots Q (F0 m pc ls (va_rf v :: .int i :: .ref a :: rest)) := by
  cases v with
  | none => exact hs_aastN hexec hb hE.1 hw.2.1 hw.2.2.1 hw.2.2.2 ht h hdg (fun H1 locs1 e1 e2 g1 g2 g3 => kk H1 locs1 ⟨hw.1.put e1 e2 (wQ_1 h), g1, g2, g3⟩)
  | some b => exact hs_aast hexec hb hE.1 hw.2.1 hw.2.2.1 hw.2.2.2 hc ht h hdg (fun H1 locs1 e1 e2 g1 g2 g3 => kk H1 locs1 ⟨hw.1.put e1 e2 (wQ_1 h), g1, g2, g3⟩)
theorem xl (hexec : p.tables.exec = Jvm.exec) (hb : c.code = cc) (hE : cxH G Zd K A R s) (hw : wsH G Zd A s st H locs) {t n : Nat} {ty : FieldType} (ht : (TY G.2)[t]? = some (G.2 t, ty)) (h : lA K st a t = some n) {x : Int32} (hx : some (Int32.ofNat n) = some x) (hdg : decode cc pc = .ok (.arraylength, 1)) (kk : W p l e R s m args below meth c H locs cells slots Q (F0 m (pc + 1) ls (.int x :: rest))) : W p l e R s m args below meth c H locs cells slots Q (F0 m pc ls (.ref a :: rest)) := by
  cases hx
  exact hg_alen hexec hb hE.1 hw.2.1 (hE.2.2.2.1.kept hw.2.2.2.2.1) ht h hdg kk
theorem xn (hexec : p.tables.exec = Jvm.exec) (hb : c.code = cc) (hts : ∀ w ∈ Ts, w.before args s = true) (hin : ∀ w ∈ u_ws C T N, w ∈ Ts) (ty : Nat → FieldType) (hty : ∀ k, k < N → parseFieldDescriptor (T k).2.2.1 = some (ty k)) (hown : s.vm.findClass own = some m.cls) (hcl : (Cond.classLink own index C).before args s = true) (hinst : (Cond.instantiable C N).before args s = true) (hini : (Cond.initialized C).before args s = true) (hE : cxH G Zd K A R s) (hw : wsH G Zd A s st H locs) (hc : vwCl[ci]? = some (C, T, N)) {fs : List Value} (hfs : ∀ j, j < N → defaultValue (ty j) = vp_V fs j) (ha : some st.1.1 = some a) (h : nOc Zd st ci N fs = some st') (hdg : decode cc pc = .ok (.new index, 3)) (kk : ∀ (H1 : Heap) (cells1 slots1 : Nat), wsH G Zd A s st' H1 locs → W p l e R s m args below meth c H1 locs cells1 slots1 Q (F0 m (pc + 3) ls (.ref a :: rest))) : W p l e R s m args below meth c H locs cells slots Q (F0 m pc ls rest) := by
  cases ha
  obtain ⟨b1, b2, rfl⟩ := nOc_some h
  obtain ⟨⟨z1, z2, z3, z4⟩, hP, hD, hS⟩ := hw
  refine W.tm (fun y1 y2 => ?_)
  refine hs_new (ci := ci) hexec hb hts hin ty hty hown hcl hinst hini hE.1 hP hD hS hE.2.1 z1 z2 hc hfs (by rw [hE.2.2.2.2.1]; omega) (by rw [hE.2.2.2.2.2]; omega) hdg (fun H1 q1 q2 g1 g2 g3 => ?_)
  exact kk H1 _ _ ⟨⟨q1, q2, b1, b2⟩, g1, g2, g3⟩
theorem xb (hexec : p.tables.exec = Jvm.exec) (hb : c.code = cc) (harr : (Cond.arrayClass .byte).before args s = true) (hE : cxH G Zd K A R s) (hw : wsH G Zd A s st H locs) {n : Int32} (ha : some st.1.1 = some a) (h : nBc Zd st n = some st') (hdg : decode cc pc = .ok (.newarray .byte, 2)) (kk : ∀ (H1 : Heap) (cells1 slots1 : Nat), wsH G Zd A s st' H1 locs → W p l e R s m args below meth c H1 locs cells1 slots1 Q (F0 m (pc + 2) ls (.ref a :: rest))) : W p l e R s m args below meth c H locs cells slots Q (F0 m pc ls (.int n :: rest)) := by
  cases ha
  obtain ⟨b0, b5, b1, b2, rfl⟩ := nBc_some h
  obtain ⟨⟨z1, z2, z3, z4⟩, hP, hD, hS⟩ := hw
  refine W.tm (fun y1 y2 => ?_)
  refine hs_newb hexec hb harr hE.1 hP hD hS hE.2.1 z1 z2 b0 rfl (by omega) (by rw [hE.2.2.2.2.1]; omega) (by rw [hE.2.2.2.2.2]; omega) hdg (fun H1 q1 q2 g1 g2 g3 => ?_)
  exact kk H1 _ _ ⟨⟨q1, q2, b1, b2⟩, g1, g2, g3⟩
theorem xc (hexec : p.tables.exec = Jvm.exec) (hb : c.code = cc) (hml : c.maxLocals = ls.size) (hown : s.vm.findClass own = some m.cls) (hlink : (Cond.methodLink own index arraycopyName).before args s = true) (hnat : (Cond.native arraycopyName).before args s = true) (hstat : (Cond.static arraycopyName).before args s = true) (hini : (Cond.initialized "java/lang/System").before args s = true) (hE : cxH G Zd K A R s) (hw : wsH G Zd A s st H locs) {a0 : Nat} {sp dp n : Int32} (h : cpB K st a0 sp a dp n = some st') (hframes : 1 ≤ R.frames) (hlocals : (rest.map fun v => v.category).sum + (nativeFrameWords "java/lang/System" "arraycopy" 5 + 11) ≤ R.locals) (hdg : decode cc pc = .ok (.invokestatic index, 3)) (kk : ∀ (H1 : Heap) (locs1 : List Loc), wsH G Zd A s st' H1 locs1 → W p l e R s m args below meth c H1 locs1 cells slots Q (F0 m (pc + 3) ls rest)) : W p l e R s m args below meth c H locs cells slots Q (F0 m pc ls (.int n :: .int dp :: .ref a :: .int sp :: .ref a0 :: rest)) := by
  obtain ⟨n0, n1, f, g, hf0, hm, hf1, h1, h2, h3, h4, h5, hfit, rfl⟩ := cpB_some h
  obtain ⟨hz, hP, hD, hS⟩ := hw
  have hat := wH_at hP hm
  rw [hf1] at hat
  have hc1 : H[a]? = some (vp_cell (G.2 2) (n1, .inl g)) := hat
  have hsrc : ∃ scr : Cell, H[a0]? = some scr ∧ s.isArrayOf scr .byte ∧ scr.vm ≠ .unknown ∧ n0 ≤ scr.slots.size ∧ ∀ j : Nat, j < n0 → scr.slots[j]? = some (.int (f j)) := by
    rcases cA_or hf0 with ⟨g1, g2⟩ | ⟨g1, g2⟩
    · have ha0 := wH_at hP g1
      rw [g2] at ha0
      have hc0 : H[a0]? = some (vp_cell (G.2 2) (n0, .inl f)) := ha0
      refine ⟨_, hc0, (hE.1.2 2 _ rfl).1 n0 (fun j => .int (f j)), (fun q => by cases q), ?_, fun j hj => ?_⟩
      · show n0 ≤ (arrV _ _ _).slots.size
        rw [arrV_size]; exact Nat.le_refl _
      · exact arrV_read _ _ hj
    · have ha0 := (hE.2.2.2.1.kept hS.2.1) a0 g1
      rw [g2] at ha0
      obtain ⟨ty, hty, cell, q1, q2, q3, q4, q5, q6, q7⟩ := ha0
      have e9 : FieldType.byte = ty := congrArg (fun x => x.2) (Option.some.inj hty)
      subst e9
      exact ⟨cell, q1, q2, q3, q4, q6⟩
  obtain ⟨scr, hc0, hs2, hs3, hs4, hs5⟩ := hsrc
  obtain ⟨hs6, k0, hk0, cm0, hkk0⟩ := hs2
  obtain ⟨-, k1, hk1, cm1, hkk1⟩ := (hE.1.2 2 _ rfl).1 n1 (fun j => .int (g j))
  intro T hT X
  obtain ⟨vm', X', step⟩ := X.arraycopy hexec hown hlink hnat hstat hini (src := a0) (dst := a) (cs := scr) (cd := vp_cell (G.2 2) (n1, .inl g)) (srcPos := sp) (destPos := dp) (n := n) (by rw [hT]; exact hc0) (by rw [hT]; exact hc1)
    hs6 (fun _ h => by cases h) hs3 (fun h => by cases h) hk0 hk1 hkk0 hkk1 (by simp [refKind]) h1 h2 h3
    (by rw [i32nn sp h1, i32nn n h3]; omega)
    (by rw [i32nn dp h2, i32nn n h3]; show ¬ _ > ((arrV (G.2 2) n1 (fun j => .int (g j))).slots.size : Int); rw [arrV_size]; omega)
    (fun vm₁ _ i hi => by
      have e : scr.slots.getD (sp.toNatClampNeg + i) .null = .int (f (sp.toNatClampNeg + i)) := by
        rw [Array.getD_eq_getD_getElem?, hs5 _ (by omega)]
        rfl
      refine ⟨?_, ?_⟩
      · rw [e]
        exact hfit i hi
      · rw [e]
        exact trivial)
    (g := F0 m pc ls (.int n :: .int dp :: .ref a :: .int sp :: .ref a0 :: rest)) rfl (by rw [hml]) (rest := rest) rfl (by rw [hb]; exact hdg) hframes (by show 2 * 0 + _ + _ ≤ _; omega)
  have e1 : copied scr (vp_cell (G.2 2) (n1, .inl g)) sp dp n = vp_cell (G.2 2) (n1, .inl (va_cpy f g sp.toNatClampNeg dp.toNatClampNeg n.toNatClampNeg)) := va_copiedX (fun z => .int z) scr (G.2 2) f g hs5 h4
  rw [e1] at X' step
  have hl : a < H.size := (Array.getElem?_eq_some_iff.mp hc1).1
  have hheap : ((T.setVm vm').setCell a (vp_cell (G.2 2) (n1, .inl (va_cpy f g sp.toNatClampNeg dp.toNatClampNeg n.toNatClampNeg)))).heap = H.setIfInBounds a (vp_cell (G.2 2) (n1, .inl (va_cpy f g sp.toNatClampNeg dp.toNatClampNeg n.toNatClampNeg))) := by rw [← hT]; rfl
  have oq : ∀ q : Nat, q ≠ a → (H.setIfInBounds a (vp_cell (G.2 2) (n1, .inl (va_cpy f g sp.toNatClampNeg dp.toNatClampNeg n.toNatClampNeg))))[q]? = H[q]? := fun q hq => by simp [Array.getElem?_setIfInBounds, Ne.symm hq]
  have hself : (H.setIfInBounds a (vp_cell (G.2 2) (n1, .inl (va_cpy f g sp.toNatClampNeg dp.toNatClampNeg n.toNatClampNeg))))[a]? = some (vp_cell (G.2 2) (n1, .inl (va_cpy f g sp.toNatClampNeg dp.toNatClampNeg n.toNatClampNeg))) := by simp [Array.getElem?_setIfInBounds, hl]
  obtain ⟨i, hi⟩ := va_pl_get (X := []) (f := fun a => toE G.2 (st.2.2 a)) hm
  have hi : (wH G.2 st)[i]? = some (a, toE G.2 (st.2.2 a)) := hi
  have hAa := hD.2 i _ hi
  have hw2 := wH_set (e := .inl (2, n1, va_cpy f g sp.toNatClampNeg dp.toNatClampNeg n.toNatClampNeg)) hD hm hi
  have g1 := hP.set hD hi (e := toE G.2 (.inl (2, n1, va_cpy f g sp.toNatClampNeg dp.toNatClampNeg n.toNatClampNeg))) hself oq
  have g2 := hD.set (e := toE G.2 (.inl (2, n1, va_cpy f g sp.toNatClampNeg dp.toNatClampNeg n.toNatClampNeg))) hi
  rw [hw2] at g1 g2
  have hsz : (vp_cell (G.2 2) (n1, .inl (va_cpy f g sp.toNatClampNeg dp.toNatClampNeg n.toNatClampNeg))).slots.size = (vp_cell (G.2 2) (n1, .inl g)).slots.size := by
    show (arrV _ _ _).slots.size = (arrV _ _ _).slots.size
    rw [arrV_size, arrV_size]
  obtain ⟨t, a1, b1⟩ := kk _ _ ⟨hz.put (by simp) (tot_sameq hc1 hself hsz oq) rfl, g1, g2, by simp; exact hS.1, fun q y1 y2 => by
      rw [oq q (fun e => y2 (by rw [e]; exact hAa))]
      exact hS.2.1 q y1 y2, fun q hq => by
      rcases List.mem_append.mp hq with h | h
      · exact hS.2.2 q h
      · obtain ⟨z, -, hz⟩ := List.mem_map.mp h
        rw [← hz]
        exact hAa⟩ _ hheap X'
  exact ⟨t, step t a1, b1⟩
theorem xi (hexec : p.tables.exec = Jvm.exec) (hb : c.code = cc) (hown : s.vm.findClass own = some m.cls) {q : vw_C} (hlink : (Cond.classLink own index q.1).before args s = true) (hE : cxH G Zd K A R s) (hw : wsH G Zd A s st H locs) (hc : vwCl[ci]? = some q) {x : Unit} (h : isO K st a ci = some x) (hdg : decode cc pc = .ok (.instanceof index, 3)) (kk : W p l e R s m args below meth c H locs cells slots Q (F0 m (pc + 3) ls (.int 1 :: rest))) : W p l e R s m args below meth c H locs cells slots Q (F0 m pc ls (.ref a :: rest)) :=
  va_instE hexec hb hown hlink (recvH (ci := ci) hE.1 hw.2.1 (hE.2.2.2.1.kept hw.2.2.2.2.1) hc h) hdg kk
theorem xk (hexec : p.tables.exec = Jvm.exec) (hb : c.code = cc) (hown : s.vm.findClass own = some m.cls) {q : vw_C} (hlink : (Cond.classLink own index q.1).before args s = true) (hE : cxH G Zd K A R s) (hw : wsH G Zd A s st H locs) (hc : vwCl[ci]? = some q) {x : Unit} (h : isO K st a ci = some x) (hdg : decode cc pc = .ok (.checkcast index, 3)) (kk : W p l e R s m args below meth c H locs cells slots Q (F0 m (pc + 3) ls (.ref a :: rest))) : W p l e R s m args below meth c H locs cells slots Q (F0 m pc ls (.ref a :: rest)) :=
  va_castE hexec hb hown hlink (recvH (ci := ci) hE.1 hw.2.1 (hE.2.2.2.1.kept hw.2.2.2.2.1) hc h) hdg kk
theorem xmax (hexec : p.tables.exec = Jvm.exec) (hb : c.code = cc) (hml : c.maxLocals = ls.size) (hown : s.vm.findClass own = some m.cls) (hlink : (Cond.methodLink own index Lib.Math.max.name).before args s = true) (hstat : (Cond.static Lib.Math.max.name).before args s = true) (hini : (Cond.initialized "java/lang/Math").before args s = true) (hcode : (Cond.code Lib.Math.max.name Lib.Math.max.code 2 (some .int)).before args s = true) (hE : cxH G Zd K A R s) (hw : wsH G Zd A s st H locs) (hframes : 1 ≤ R.frames) (hlocals : (rest.map fun v => v.category).sum + 13 ≤ R.locals) {x y : Int32} (hdg : decode cc pc = .ok (.invokestatic index, 3)) (kk : ∀ cells1 slots1 : Nat, W p l e R s m args below meth c H locs cells1 slots1 Q (F0 m (pc + 3) ls (.int (if x < y then y else x) :: rest))) : W p l e R s m args below meth c H locs cells slots Q (F0 m pc ls (.int y :: .int x :: rest)) := by
  obtain ⟨⟨z1, z2, z3, z4⟩, -, -, -⟩ := hw
  refine W.tm (fun y1 y2 => ?_)
  exact va_mmax hexec hb hml hown hlink hstat hini hcode hframes hlocals (by rw [hE.2.2.2.2.1]; omega) (by rw [hE.2.2.2.2.2]; omega) hdg (kk _ _)
theorem xmin (hexec : p.tables.exec = Jvm.exec) (hb : c.code = cc) (hml : c.maxLocals = ls.size) (hown : s.vm.findClass own = some m.cls) (hlink : (Cond.methodLink own index Lib.Math.min.name).before args s = true) (hstat : (Cond.static Lib.Math.min.name).before args s = true) (hini : (Cond.initialized "java/lang/Math").before args s = true) (hcode : (Cond.code Lib.Math.min.name Lib.Math.min.code 2 (some .int)).before args s = true) (hE : cxH G Zd K A R s) (hw : wsH G Zd A s st H locs) (hframes : 1 ≤ R.frames) (hlocals : (rest.map fun v => v.category).sum + 13 ≤ R.locals) {x y : Int32} (hdg : decode cc pc = .ok (.invokestatic index, 3)) (kk : ∀ cells1 slots1 : Nat, W p l e R s m args below meth c H locs cells1 slots1 Q (F0 m (pc + 3) ls (.int (if y < x then y else x) :: rest))) : W p l e R s m args below meth c H locs cells slots Q (F0 m pc ls (.int y :: .int x :: rest)) := by
  obtain ⟨⟨z1, z2, z3, z4⟩, -, -, -⟩ := hw
  refine W.tm (fun y1 y2 => ?_)
  exact va_mmin hexec hb hml hown hlink hstat hini hcode hframes hlocals (by rw [hE.2.2.2.2.1]; omega) (by rw [hE.2.2.2.2.2]; omega) hdg (kk _ _)
theorem xq_aload (hexec : p.tables.exec = Jvm.exec) (hb : c.code = cc) {i : Nat} {r : Option Nat} (hdg : decode cc pc = .ok (.aload i, 2)) (hl : ls[i]? = some (.val (va_rf r))) (kk : W p l e R s m args below meth c H locs cells slots Q (F0 m (pc + 2) ls (va_rf r :: rest))) : W p l e R s m args below meth c H locs cells slots Q (F0 m pc ls rest) := by
  cases r with
  | none => exact lv_aloadN hexec hb hdg hl kk
  | some b => exact lv_aload hexec hb hdg hl kk
theorem xq_aload_n (hexec : p.tables.exec = Jvm.exec) (hb : c.code = cc) {k : Fin 4} {i : Nat} {r : Option Nat} (hdg : decode cc pc = .ok (.aload_n k, 1)) (hi : (k : Nat) = i) (hl : ls[i]? = some (.val (va_rf r))) (kk : W p l e R s m args below meth c H locs cells slots Q (F0 m (pc + 1) ls (va_rf r :: rest))) : W p l e R s m args below meth c H locs cells slots Q (F0 m pc ls rest) := by
  cases r with
  | none => exact lv_aload_nN hexec hb hdg hi hl kk
  | some b => exact lv_aload_n hexec hb hdg hi hl kk
theorem xt_astore (hexec : p.tables.exec = Jvm.exec) (hb : c.code = cc) {i nL : Nat} {r : Option Nat} {lv lv' : List (Nat × Value)} (hdg : decode cc pc = .ok (.astore i, 2)) (hl : lw ls nL lv) (hn : i < nL) (he : (i, va_rf r) :: lv.filter (fun q => !(q.1 == i)) = lv') (kk : ∀ ls' : Array Slot, lw ls' nL lv' → W p l e R s m args below meth c H locs cells slots Q (F0 m (pc + 2) ls' rest)) : W p l e R s m args below meth c H locs cells slots Q (F0 m pc ls (va_rf r :: rest)) := by
  cases r with
  | none => exact lv_astoreN hexec hb hdg hl.1 hn rfl (fun ls1 h1 => kk ls1 (lw_st hl.2 rfl he h1))
  | some b => exact lv_astore hexec hb hdg hl.1 hn rfl (fun ls1 h1 => kk ls1 (lw_st hl.2 rfl he h1))
theorem xt_astore_n (hexec : p.tables.exec = Jvm.exec) (hb : c.code = cc) {k : Fin 4} {i nL : Nat} {r : Option Nat} {lv lv' : List (Nat × Value)} (hdg : decode cc pc = .ok (.astore_n k, 1)) (hi : (k : Nat) = i) (hl : lw ls nL lv) (hn : i < nL) (he : (i, va_rf r) :: lv.filter (fun q => !(q.1 == i)) = lv') (kk : ∀ ls' : Array Slot, lw ls' nL lv' → W p l e R s m args below meth c H locs cells slots Q (F0 m (pc + 1) ls' rest)) : W p l e R s m args below meth c H locs cells slots Q (F0 m pc ls (va_rf r :: rest)) := by
  cases r with
  | none => exact lv_astore_nN hexec hb hdg hi hl.1 hn rfl (fun ls1 h1 => kk ls1 (lw_st hl.2 rfl he h1))
  | some b => exact lv_astore_n hexec hb hdg hi hl.1 hn rfl (fun ls1 h1 => kk ls1 (lw_st hl.2 rfl he h1))
theorem xt_istore (hexec : p.tables.exec = Jvm.exec) (hb : c.code = cc) {i nL : Nat} {x : Int32} {lv lv' : List (Nat × Value)} (hdg : decode cc pc = .ok (.istore i, 2)) (hl : lw ls nL lv) (hn : i < nL) (he : (i, (.int x : Value)) :: lv.filter (fun q => !(q.1 == i)) = lv') (kk : ∀ ls' : Array Slot, lw ls' nL lv' → W p l e R s m args below meth c H locs cells slots Q (F0 m (pc + 2) ls' rest)) : W p l e R s m args below meth c H locs cells slots Q (F0 m pc ls (.int x :: rest)) := by
  exact lv_istore hexec hb hdg hl.1 hn rfl (fun ls1 h1 => kk ls1 (lw_st hl.2 rfl he h1))
theorem xt_istore_n (hexec : p.tables.exec = Jvm.exec) (hb : c.code = cc) {k : Fin 4} {i nL : Nat} {x : Int32} {lv lv' : List (Nat × Value)} (hdg : decode cc pc = .ok (.istore_n k, 1)) (hi : (k : Nat) = i) (hl : lw ls nL lv) (hn : i < nL) (he : (i, (.int x : Value)) :: lv.filter (fun q => !(q.1 == i)) = lv') (kk : ∀ ls' : Array Slot, lw ls' nL lv' → W p l e R s m args below meth c H locs cells slots Q (F0 m (pc + 1) ls' rest)) : W p l e R s m args below meth c H locs cells slots Q (F0 m pc ls (.int x :: rest)) := by
  exact lv_istore_n hexec hb hdg hi hl.1 hn rfl (fun ls1 h1 => kk ls1 (lw_st hl.2 rfl he h1))
theorem xt_iinc (hexec : p.tables.exec = Jvm.exec) (hb : c.code = cc) {i nL k : Nat} {n : Int} {x v : Int32} {lv lv' : List (Nat × Value)} (hdg : decode cc pc = .ok (.iinc i n, 3)) (hl : lw ls nL lv) (hk : lv[k]? = some (i, .int x)) (hv : some (x + Int32.ofInt n) = some v) (hn : i < nL) (he : (i, (.int v : Value)) :: lv.filter (fun q => !(q.1 == i)) = lv') (kk : ∀ ls' : Array Slot, lw ls' nL lv' → W p l e R s m args below meth c H locs cells slots Q (F0 m (pc + 3) ls' rest)) : W p l e R s m args below meth c H locs cells slots Q (F0 m pc ls rest) :=
  lv_iinc hexec hb hdg hl.1 hk (Option.some.inj hv) hn rfl (fun ls1 h1 => kk ls1 (lw_st hl.2 rfl he h1))
end X7
