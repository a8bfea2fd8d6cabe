/-! Arrays written, arrays made, final fields and nest mates' fields set: sizes told. -/
theorem cell_upd (k9 : ClassId) (n : Nat) (g : Nat → Int32) (k : Nat) (v : Int32) : (vp_cell k9 (n, .inl g)).setSlot k (.int v) = vp_cell k9 (n, .inl (upd g k v)) := by
  rw [vp_cell_i, vp_cell_i, arrV_store]
  congr 1
  funext q
  by_cases hq : q = k
  · subst hq; simp [updV, upd]
  · simp [updV, upd, hq]
theorem cell_updq (k9 : ClassId) (n : Nat) (g : Nat → Option Nat) (k : Nat) (r : Option Nat) : (vp_cell k9 (n, .inr (.inr (.inr (.inr g))))).setSlot k (va_rf r) = vp_cell k9 (n, .inr (.inr (.inr (.inr (va_up g k r))))) := by
  rw [vp_cell_q, vp_cell_q, arrV_store]
  congr 1
  funext q
  by_cases hq : q = k
  · subst hq; simp [updV, va_up]
  · simp [updV, va_up, hq]
section H4
variable {p : Program} {l : Launch} {e : Env} {R : Room} {s : State} {m : MethodId} {args : Array Value} {below : List Frame} {meth : Method} {c : Code} {H : Heap} {locs : List Loc} {cells slots : Nat} {Q : State → Prop} {cc : ByteArray} {pc : Nat} {ls : Array Slot} {rest : List Value} {G : Gk} {K : KE} {A : Nat → Prop} {st : CS} {H0 : Heap} {a : Nat} {tys : List (ClassId × FieldType)}
theorem hs_iast (hexec : p.tables.exec = Jvm.exec) (hb : c.code = cc) (hK : va_K G.1 vwCl (TY G.2) s) (hP : va_P G.1 vwCl (wH G.2 st) H) (hD : va_D A (wH G.2 st)) (hS : va_S A H0 H locs) {i v : Int32} {st' : CS} (h : wA st a 1 i (v) = some st') (hdg : decode cc pc = .ok (.iastore, 1)) (kk : ∀ (H1 : Heap) (locs1 : List Loc), H1.size = H.size → tot H1 = tot H → va_P G.1 vwCl (wH G.2 st') H1 → va_D A (wH G.2 st') → va_S A H0 H1 locs1 → W p l e R s m args below meth c H1 locs1 cells slots Q (F0 m (pc + 1) ls rest)) : W p l e R s m args below meth c H locs cells slots Q (F0 m pc ls (.int v :: .int i :: .ref a :: rest)) := by
  obtain ⟨hm, n, g, hf, hi, rfl⟩ := wA_some h
  have hat := wH_at hP hm
  rw [hf] at hat
  have hat : H[a]? = some (vp_cell (G.2 1) (n, .inl g)) := hat
  refine W.iast hexec hb hat ((hK.2 1 _ rfl).1 n (fun j => .int (g j))) (fun q => by cases q) (by show ¬ (i < 0 ∨ (arrV _ _ _).slots.size ≤ _); rw [arrV_size]; exact hi) rfl rfl hdg fun H1 e1 e2 e3 => ?_
  have hat2 : va_at G.1 vwCl (a, toE G.2 (.inl (1, n, upd g i.toNatClampNeg (v)))) H1 := e1.trans (congrArg some (cell_upd (G.2 1) n g i.toNatClampNeg (v)))
  obtain ⟨g1, g2, g3⟩ := aft_set (j := i.toNatClampNeg) hP hD hS hm hat2 e2 e3
  exact kk H1 _ e2 (tot_same e2 hat e1 e3) g1 g2 g3
theorem hs_bast (hexec : p.tables.exec = Jvm.exec) (hb : c.code = cc) (hK : va_K G.1 vwCl (TY G.2) s) (hP : va_P G.1 vwCl (wH G.2 st) H) (hD : va_D A (wH G.2 st)) (hS : va_S A H0 H locs) {i v : Int32} {st' : CS} (h : wA st a 2 i (vp_nar .byte v) = some st') (hdg : decode cc pc = .ok (.bastore, 1)) (kk : ∀ (H1 : Heap) (locs1 : List Loc), H1.size = H.size → tot H1 = tot H → va_P G.1 vwCl (wH G.2 st') H1 → va_D A (wH G.2 st') → va_S A H0 H1 locs1 → W p l e R s m args below meth c H1 locs1 cells slots Q (F0 m (pc + 1) ls rest)) : W p l e R s m args below meth c H locs cells slots Q (F0 m pc ls (.int v :: .int i :: .ref a :: rest)) := by
  obtain ⟨hm, n, g, hf, hi, rfl⟩ := wA_some h
  have hat := wH_at hP hm
  rw [hf] at hat
  have hat : H[a]? = some (vp_cell (G.2 2) (n, .inl g)) := hat
  refine W.bast hexec hb hat ((hK.2 2 _ rfl).1 n (fun j => .int (g j))) (fun q => by cases q) (by show ¬ (i < 0 ∨ (arrV _ _ _).slots.size ≤ _); rw [arrV_size]; exact hi) rfl rfl hdg fun H1 e1 e2 e3 => ?_
  have hat2 : va_at G.1 vwCl (a, toE G.2 (.inl (2, n, upd g i.toNatClampNeg (vp_nar .byte v)))) H1 := e1.trans (congrArg some (cell_upd (G.2 2) n g i.toNatClampNeg (vp_nar .byte v)))
  obtain ⟨g1, g2, g3⟩ := aft_set (j := i.toNatClampNeg) hP hD hS hm hat2 e2 e3
  exact kk H1 _ e2 (tot_same e2 hat e1 e3) g1 g2 g3
theorem hs_cast (hexec : p.tables.exec = Jvm.exec) (hb : c.code = cc) (hK : va_K G.1 vwCl (TY G.2) s) (hP : va_P G.1 vwCl (wH G.2 st) H) (hD : va_D A (wH G.2 st)) (hS : va_S A H0 H locs) {i v : Int32} {st' : CS} (h : wA st a 0 i (vp_nar .char v) = some st') (hdg : decode cc pc = .ok (.castore, 1)) (kk : ∀ (H1 : Heap) (locs1 : List Loc), H1.size = H.size → tot H1 = tot H → va_P G.1 vwCl (wH G.2 st') H1 → va_D A (wH G.2 st') → va_S A H0 H1 locs1 → W p l e R s m args below meth c H1 locs1 cells slots Q (F0 m (pc + 1) ls rest)) : W p l e R s m args below meth c H locs cells slots Q (F0 m pc ls (.int v :: .int i :: .ref a :: rest)) := by
  obtain ⟨hm, n, g, hf, hi, rfl⟩ := wA_some h
  have hat := wH_at hP hm
  rw [hf] at hat
  have hat : H[a]? = some (vp_cell (G.2 0) (n, .inl g)) := hat
  refine W.cast hexec hb hat ((hK.2 0 _ rfl).1 n (fun j => .int (g j))) (fun q => by cases q) (by show ¬ (i < 0 ∨ (arrV _ _ _).slots.size ≤ _); rw [arrV_size]; exact hi) rfl rfl hdg fun H1 e1 e2 e3 => ?_
  have hat2 : va_at G.1 vwCl (a, toE G.2 (.inl (0, n, upd g i.toNatClampNeg (vp_nar .char v)))) H1 := e1.trans (congrArg some (cell_upd (G.2 0) n g i.toNatClampNeg (vp_nar .char v)))
  obtain ⟨g1, g2, g3⟩ := aft_set (j := i.toNatClampNeg) hP hD hS hm hat2 e2 e3
  exact kk H1 _ e2 (tot_same e2 hat e1 e3) g1 g2 g3
theorem hs_zast (hexec : p.tables.exec = Jvm.exec) (hb : c.code = cc) (hK : va_K G.1 vwCl (TY G.2) s) (hP : va_P G.1 vwCl (wH G.2 st) H) (hD : va_D A (wH G.2 st)) (hS : va_S A H0 H locs) {i v : Int32} {st' : CS} (h : wA st a 3 i (vp_nar .boolean v) = some st') (hdg : decode cc pc = .ok (.bastore, 1)) (kk : ∀ (H1 : Heap) (locs1 : List Loc), H1.size = H.size → tot H1 = tot H → va_P G.1 vwCl (wH G.2 st') H1 → va_D A (wH G.2 st') → va_S A H0 H1 locs1 → W p l e R s m args below meth c H1 locs1 cells slots Q (F0 m (pc + 1) ls rest)) : W p l e R s m args below meth c H locs cells slots Q (F0 m pc ls (.int v :: .int i :: .ref a :: rest)) := by
  obtain ⟨hm, n, g, hf, hi, rfl⟩ := wA_some h
  have hat := wH_at hP hm
  rw [hf] at hat
  have hat : H[a]? = some (vp_cell (G.2 3) (n, .inl g)) := hat
  refine W.zast hexec hb hat ((hK.2 3 _ rfl).1 n (fun j => .int (g j))) (fun q => by cases q) (by show ¬ (i < 0 ∨ (arrV _ _ _).slots.size ≤ _); rw [arrV_size]; exact hi) rfl rfl hdg fun H1 e1 e2 e3 => ?_
  have hat2 : va_at G.1 vwCl (a, toE G.2 (.inl (3, n, upd g i.toNatClampNeg (vp_nar .boolean v)))) H1 := e1.trans (congrArg some (cell_upd (G.2 3) n g i.toNatClampNeg (vp_nar .boolean v)))
  obtain ⟨g1, g2, g3⟩ := aft_set (j := i.toNatClampNeg) hP hD hS hm hat2 e2 e3
  exact kk H1 _ e2 (tot_same e2 hat e1 e3) g1 g2 g3
/-- an element of an array of references set: null, or an object of the world of class ci -/
def wQ (st : CS) (a t ci : Nat) (i : Int32) (r : Option Nat) : Option CS := if a ∈ st.2.1 then (match st.2.2 a with
  | .inr (.inl (t', n, g)) => if t' = t then (match r with
    | none => (ix n i).bind fun k => some (uC st a (.inr (.inl (t', n, va_up g k none))))
    | some b => if b ∈ st.2.1 then (match st.2.2 b with
      | .inr (.inr (c, _)) => if c = ci then (ix n i).bind fun k => some (uC st a (.inr (.inl (t', n, va_up g k (some b))))) else none
      | _ => none) else none) else none
  | _ => none) else none
theorem wQ_some {st st' : CS} {a t ci : Nat} {i : Int32} {r : Option Nat} (h : wQ st a t ci i r = some st') : a ∈ st.2.1 ∧ ∃ (n : Nat) (g : Nat → Option Nat), st.2.2 a = .inr (.inl (t, n, g)) ∧ vp_in i n ∧ st' = uC st a (.inr (.inl (t, n, va_up g i.toNatClampNeg r))) ∧ ∀ b, r = some b → b ∈ st.2.1 ∧ ∃ fs : List Value, st.2.2 b = .inr (.inr (ci, fs)) := by
  unfold wQ at h
  by_cases c : a ∈ st.2.1
  · rw [if_pos c] at h
    refine ⟨c, ?_⟩
    rcases hf : st.2.2 a with x | ⟨t', n, g⟩ | x
    · rw [hf] at h; cases h
    · rw [hf] at h
      by_cases ht : t' = t
      · subst ht
        simp only [if_true] at h
        cases r with
        | none =>
          obtain ⟨k, hk, h3⟩ := ob h
          obtain ⟨h4, h5⟩ := ix_some hk
          subst h5
          exact ⟨n, g, rfl, h4, (Option.some.inj h3).symm, fun b hb => by cases hb⟩
        | some b =>
          by_cases hb : b ∈ st.2.1
          · simp only [hb, if_true] at h
            rcases hg : st.2.2 b with x | x | ⟨c2, fs⟩
            · rw [hg] at h; cases h
            · rw [hg] at h; cases h
            · rw [hg] at h
              by_cases hc : c2 = ci
              · subst hc
                simp only [if_true] at h
                obtain ⟨k, hk, h3⟩ := ob h
                obtain ⟨h4, h5⟩ := ix_some hk
                subst h5
                exact ⟨n, g, rfl, h4, (Option.some.inj h3).symm, fun b2 hb2 => by cases hb2; exact ⟨hb, fs, hg⟩⟩
              · simp [hc] at h
          · simp [hb] at h
      · simp [ht] at h
    · rw [hf] at h; cases h
  · rw [if_neg c] at h; cases h
theorem hs_aastN (hexec : p.tables.exec = Jvm.exec) (hb : c.code = cc) (hK : va_K G.1 vwCl (TY G.2) s) (hP : va_P G.1 vwCl (wH G.2 st) H) (hD : va_D A (wH G.2 st)) (hS : va_S A H0 H locs) {t ci : Nat} {C : String} (ht : (TY G.2)[t]? = some (G.2 t, .object C)) {i : Int32} {st' : CS} (h : wQ st a t ci i none = some st') (hdg : decode cc pc = .ok (.aastore, 1)) (kk : ∀ (H1 : Heap) (locs1 : List Loc), H1.size = H.size → tot H1 = tot H → va_P G.1 vwCl (wH G.2 st') H1 → va_D A (wH G.2 st') → va_S A H0 H1 locs1 → W p l e R s m args below meth c H1 locs1 cells slots Q (F0 m (pc + 1) ls rest)) : W p l e R s m args below meth c H locs cells slots Q (F0 m pc ls (.null :: .int i :: .ref a :: rest)) := by
  obtain ⟨hm, n, g, hf, hi, rfl, -⟩ := wQ_some h
  have hat := wH_at hP hm
  rw [hf] at hat
  have hat : H[a]? = some (vp_cell (G.2 t) (n, .inr (.inr (.inr (.inr g))))) := hat
  refine va_WaastN (C := C) hexec hb hat ((hK.2 t _ ht).1 n (fun j => va_rf (g j))) (fun q => by cases q) (by show ¬ (i < 0 ∨ (arrV _ _ _).slots.size ≤ _); rw [arrV_size]; exact hi) rfl rfl hdg fun H1 e1 e2 e3 => ?_
  have hat2 : va_at G.1 vwCl (a, toE G.2 (.inr (.inl (t, n, va_up g i.toNatClampNeg none)))) H1 := e1.trans (congrArg some (cell_updq (G.2 t) n g i.toNatClampNeg none))
  obtain ⟨g1, g2, g3⟩ := aft_set (j := i.toNatClampNeg) hP hD hS hm hat2 e2 e3
  exact kk H1 _ e2 (tot_same e2 hat e1 e3) g1 g2 g3
theorem hs_aast (hexec : p.tables.exec = Jvm.exec) (hb : c.code = cc) (hK : va_K G.1 vwCl (TY G.2) s) (hP : va_P G.1 vwCl (wH G.2 st) H) (hD : va_D A (wH G.2 st)) (hS : va_S A H0 H locs) {t ci : Nat} {r : vw_C} (hc : vwCl[ci]? = some r) (ht : (TY G.2)[t]? = some (G.2 t, .object r.1)) {i : Int32} {v : Nat} {st' : CS} (h : wQ st a t ci i (some v) = some st') (hdg : decode cc pc = .ok (.aastore, 1)) (kk : ∀ (H1 : Heap) (locs1 : List Loc), H1.size = H.size → tot H1 = tot H → va_P G.1 vwCl (wH G.2 st') H1 → va_D A (wH G.2 st') → va_S A H0 H1 locs1 → W p l e R s m args below meth c H1 locs1 cells slots Q (F0 m (pc + 1) ls rest)) : W p l e R s m args below meth c H locs cells slots Q (F0 m pc ls (.ref v :: .int i :: .ref a :: rest)) := by
  obtain ⟨hm, n, g, hf, hi, rfl, hv⟩ := wQ_some h
  obtain ⟨hvm, fs, hvf⟩ := hv v rfl
  have hat := wH_at hP hm
  rw [hf] at hat
  have hat : H[a]? = some (vp_cell (G.2 t) (n, .inr (.inr (.inr (.inr g))))) := hat
  have hvt := wH_at hP hvm
  rw [hvf] at hvt
  obtain ⟨r2, hr2, cellV, v1, v2, v3, -⟩ := hvt
  have hcls := (hK.1 ci r hc).2
  obtain ⟨kA, comp, k1, k2, k3, -⟩ := (hK.2 t _ ht).2
  have hcomp : comp = G.1.1 ci := Option.some.inj (k3.symm.trans hcls.1)
  subst hcomp
  obtain ⟨kC, hkC, -⟩ := hcls.2
  have hlt : i.toNatClampNeg < n := Nat.not_le.mp fun q => hi (Or.inr q)
  refine W.aast hexec hb hat (fun q h => by cases h) (fun h => by cases h) k1 k2 rfl hkC ⟨fun q => hi (Or.inl q), by show _ < (arrV _ _ _).slots.size; rw [arrV_size]; exact hlt⟩ v1 (fun q h => by rw [v3] at h; cases h) (by rw [v2]; exact hkC) (by rw [v2]; exact va_assign hcls) rfl rfl hdg fun H1 e1 e2 e3 => ?_
  have hat2 : va_at G.1 vwCl (a, toE G.2 (.inr (.inl (t, n, va_up g i.toNatClampNeg (some v))))) H1 := e1.trans (congrArg some (cell_updq (G.2 t) n g i.toNatClampNeg (some v)))
  obtain ⟨g1, g2, g3⟩ := aft_set (j := i.toNatClampNeg) hP hD hS hm hat2 e2 e3
  exact kk H1 _ e2 (tot_same e2 hat e1 e3) g1 g2 g3
end H4
