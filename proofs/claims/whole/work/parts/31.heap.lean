/-! The class's heap as a function: cells by address; constants (nobody writes them) beside the world. -/
abbrev CE : Type := (Nat × Nat × (Nat → Int32)) ⊕ ((Nat × Nat × (Nat → Option Nat)) ⊕ (Nat × List Value))
def toE (k : Nat → ClassId) : CE → va_E
  | .inl (t, n, g) => .inl (k t, n, .inl g)
  | .inr (.inl (t, n, g)) => .inl (k t, n, .inr (.inr (.inr (.inr g))))
  | .inr (.inr o) => .inr o
/-- next address and how many slots there are, the world's addresses, what lies where -/
abbrev CS : Type := (Nat × Nat) × List Nat × (Nat → CE)
/-- the constants: their addresses, what lies there -/
abbrev KE : Type := List Nat × (Nat → CE)
abbrev wH (k : Nat → ClassId) (st : CS) : va_W := va_pl st.2.1 (fun a => toE k (st.2.2 a))
/-- a constant's cell: an array of numbers, or an object of which the first fields are known -/
def kAt (G : Gk) (a : Nat) (A : Nat → Prop) (U : State) (H : Heap) : CE → Prop
  | .inl (t, n, g) => ∃ ty : FieldType, (TY G.2)[t]? = some (G.2 t, ty) ∧ va_T ty a n (fun j => .int (g j)) A U H
  | .inr (.inl _) => False
  | .inr (.inr (ci, fs)) => ∃ r : vw_C, vwCl[ci]? = some r ∧ va_O r.1 a A U H ∧ ∀ (k : Nat) (v : Value), fs[k]? = some v → va_OF (r.2.1 k).1 (r.2.1 k).2.1 (r.2.1 k).2.2.1 v a A U H
def rH (G : Gk) (K : KE) (A : Nat → Prop) (U : State) (H : Heap) : Prop := ∀ a, a ∈ K.1 → kAt G a A U H (K.2 a)
theorem rH.kept {G : Gk} {K : KE} {A : Nat → Prop} {U : State} {H H1 : Heap} (h : rH G K A U H) (hq : ∀ a : Nat, a < H.size → ¬ A a → H1[a]? = H[a]?) : rH G K A U H1 := by
  intro a ha
  have h1 := h a ha
  revert h1
  generalize K.2 a = e
  intro h1
  rcases e with ⟨t, n, g⟩ | x | ⟨ci, fs⟩
  · obtain ⟨ty, e1, e2⟩ := h1
    exact ⟨ty, e1, e2.kept hq⟩
  · exact h1
  · obtain ⟨r, e1, e2, e3⟩ := h1
    exact ⟨r, e1, e2.kept hq, fun k v hv => (e3 k v hv).kept hq⟩
theorem rH.narrow {G : Gk} {K : KE} {A B : Nat → Prop} {U : State} {H : Heap} (h : rH G K A U H) (hAB : ∀ q, B q → A q) : rH G K B U H := by
  intro a ha
  have h1 := h a ha
  revert h1
  generalize K.2 a = e
  intro h1
  rcases e with ⟨t, n, g⟩ | x | ⟨ci, fs⟩
  · obtain ⟨ty, e1, e2⟩ := h1
    exact ⟨ty, e1, e2.narrow hAB⟩
  · exact h1
  · obtain ⟨r, e1, e2, e3⟩ := h1
    exact ⟨r, e1, e2.narrow hAB, fun k v hv => (e3 k v hv).narrow hAB⟩
theorem rH.moved {G : Gk} {K : KE} {A : Nat → Prop} {u U : State} {H : Heap} (hvm : u.vm.Alike U.vm) (h : rH G K A u H) : rH G K A U H := by
  intro a ha
  have h1 := h a ha
  revert h1
  generalize K.2 a = e
  intro h1
  rcases e with ⟨t, n, g⟩ | x | ⟨ci, fs⟩
  · obtain ⟨ty, e1, e2⟩ := h1
    exact ⟨ty, e1, va_T.moved hvm e2⟩
  · exact h1
  · obtain ⟨r, e1, e2, e3⟩ := h1
    exact ⟨r, e1, va_O.moved hvm e2, fun k v hv => va_OF.moved hvm (e3 k v hv)⟩
/-- the cell at an address, if it can be read -/
def cA (K : KE) (st : CS) (a : Nat) : Option CE := if a ∈ st.2.1 then some (st.2.2 a) else if a ∈ K.1 then some (K.2 a) else none
theorem wH_at {G : Gk} {st : CS} {H : Heap} {a : Nat} (hP : va_P G.1 vwCl (wH G.2 st) H) (h : a ∈ st.2.1) : va_at G.1 vwCl (a, toE G.2 (st.2.2 a)) H := by
  obtain ⟨k, hk⟩ := va_pl_get (X := []) (f := fun a => toE G.2 (st.2.2 a)) h
  exact hP k _ hk
theorem cA_or {K : KE} {st : CS} {a : Nat} {e : CE} (h : cA K st a = some e) : (a ∈ st.2.1 ∧ st.2.2 a = e) ∨ (a ∈ K.1 ∧ K.2 a = e) := by
  unfold cA at h
  by_cases c : a ∈ st.2.1
  · rw [if_pos c] at h
    exact Or.inl ⟨c, Option.some.inj h⟩
  · rw [if_neg c] at h
    by_cases c2 : a ∈ K.1
    · rw [if_pos c2] at h
      exact Or.inr ⟨c2, Option.some.inj h⟩
    · rw [if_neg c2] at h; cases h
theorem one_P {D : va_G} {cl : List vw_C} {a : Nat} {e : va_E} {H : Heap} (h : va_at D cl (a, e) H) : va_P D cl [(a, e)] H := by
  intro k q hk
  cases k with
  | zero => cases hk; exact h
  | succ k => cases hk
/-- a field's value; a number, a reference in a field -/
def gF (K : KE) (st : CS) (a ci i : Nat) : Option Value := (cA K st a).bind fun e => match e with
  | .inr (.inr (c, fs)) => if c = ci then fs[i]? else none
  | _ => none
theorem gF_some {K : KE} {st : CS} {a ci i : Nat} {v : Value} (h : gF K st a ci i = some v) : ∃ fs : List Value, cA K st a = some (.inr (.inr (ci, fs))) ∧ fs[i]? = some v := by
  unfold gF at h
  cases hc : cA K st a with
  | none => rw [hc] at h; cases h
  | some e =>
    rw [hc] at h
    rcases e with x | x | ⟨c, fs⟩
    · cases h
    · cases h
    · by_cases hci : c = ci
      · subst hci
        exact ⟨fs, rfl, by simpa using h⟩
      · simp [hci] at h
def gI (K : KE) (st : CS) (a ci i : Nat) : Option Int32 := (gF K st a ci i).bind fun v => match v with
  | .int x => some x
  | _ => none
def gQ (K : KE) (st : CS) (a ci i : Nat) : Option (Option Nat) := (gF K st a ci i).bind fun v => match v with
  | .ref b => some (some b)
  | .null => some none
  | _ => none
theorem gI_some {K : KE} {st : CS} {a ci i : Nat} {x : Int32} (h : gI K st a ci i = some x) : gF K st a ci i = some (.int x) := by
  unfold gI at h
  cases hv : gF K st a ci i with
  | none => rw [hv] at h; cases h
  | some v => rw [hv] at h; cases v <;> first | (cases h; rfl) | cases h
theorem gQ_some {K : KE} {st : CS} {a ci i : Nat} {r : Option Nat} (h : gQ K st a ci i = some r) : gF K st a ci i = some (va_rf r) := by
  unfold gQ at h
  cases hv : gF K st a ci i with
  | none => rw [hv] at h; cases h
  | some v => rw [hv] at h; cases v <;> first | (cases h; rfl) | cases h
/-- a cell of the world gets another content -/
def uC (st : CS) (a : Nat) (e : CE) : CS := (st.1, st.2.1, va_up st.2.2 a e)
theorem wH_up {k : Nat → ClassId} {f : Nat → CE} {L : List Nat} {a : Nat} {e : CE} : va_pl L (va_up (fun a => toE k (f a)) a (toE k e)) = va_pl L (fun b => toE k (va_up f a e b)) := va_pl_congr (fun b => by
  by_cases h : b = a
  · subst h; rw [va_up_self, va_up_self]
  · rw [va_up_ne _ _ h, va_up_ne _ _ h])
theorem wH_set {A : Nat → Prop} {k : Nat → ClassId} {st : CS} {a i : Nat} {e : CE} (hD : va_D A (wH k st)) (h : a ∈ st.2.1) (hi : (wH k st)[i]? = some (a, toE k (st.2.2 a))) : (wH k st).set i (a, toE k e) = wH k (uC st a e) := by
  have h1 := va_pl_set (X := []) (L := st.2.1) (f := fun a => toE k (st.2.2 a)) (e := toE k e) hD h hi
  exact h1.trans wH_up
def sF (st : CS) (a ci i : Nat) (v : Value) : Option CS := if a ∈ st.2.1 then (match st.2.2 a with
  | .inr (.inr (c, fs)) => if c = ci ∧ i < fs.length then some (uC st a (.inr (.inr (c, fs.set i v)))) else none
  | _ => none) else none
theorem sF_some {st st' : CS} {a ci i : Nat} {v : Value} (h : sF st a ci i v = some st') : a ∈ st.2.1 ∧ ∃ fs : List Value, st.2.2 a = .inr (.inr (ci, fs)) ∧ i < fs.length ∧ st' = uC st a (.inr (.inr (ci, fs.set i v))) := by
  unfold sF at h
  by_cases c : a ∈ st.2.1
  · rw [if_pos c] at h
    refine ⟨c, ?_⟩
    rcases hf : st.2.2 a with x | x | ⟨c0, fs⟩
    · rw [hf] at h; cases h
    · rw [hf] at h; cases h
    · rw [hf] at h
      by_cases hc : c0 = ci ∧ i < fs.length
      · obtain ⟨hc1, hc2⟩ := hc
        subst hc1
        simp only [hc2, and_self, if_true] at h
        exact ⟨fs, rfl, hc2, (Option.some.inj h).symm⟩
      · simp [hc] at h
  · rw [if_neg c] at h; cases h
section HW
variable {p : Program} {l : Launch} {e : Env} {R : Room} {s : State} {m : MethodId} {args : Array Value} {below : List Frame} {meth : Method} {c : Code} {H : Heap} {locs : List Loc} {cells slots : Nat} {Q : State → Prop} {cc : ByteArray} {pc : Nat} {ls : Array Slot} {rest : List Value} {G : Gk} {K : KE} {A : Nat → Prop} {st : CS} {H0 : Heap} {a : Nat} {tys : List (ClassId × FieldType)}
theorem hg_get (hexec : p.tables.exec = Jvm.exec) (hb : c.code = cc) {own ref C : String} {T : u_T} {N ci index : Nat} {Ts : List Cond} (hts : ∀ w ∈ Ts, w.before args s = true) (hin : ∀ w ∈ u_ws C T N, w ∈ Ts) (hown : s.vm.findClass own = some m.cls) (hK : va_K G.1 vwCl tys s) (hP : va_P G.1 vwCl (wH G.2 st) H) (hR : rH G K A s H) (hc : vwCl[ci]? = some (C, T, N)) (k : Nat) (hk : k < N) (hlink : (Cond.fieldLink own index ref (T k).2.1 (T k).2.2.1).before args s = true) (hsame : ∀ x, s.fieldFound? (T k).1 (T k).2.1 (T k).2.2.1 = some x → s.fieldFound? ref (T k).2.1 (T k).2.2.1 = some x) {v : Value} (h : gF K st a ci k = some v) (hdg : decode cc pc = .ok (.getfield index, 3))
    (kk : W p l e R s m args below meth c H locs cells slots Q (F0 m (pc + 3) ls (v :: rest))) : W p l e R s m args below meth c H locs cells slots Q (F0 m pc ls (.ref a :: rest)) := by
  obtain ⟨fs, hf, hv⟩ := gF_some h
  rcases cA_or hf with ⟨h1, h2⟩ | ⟨h1, h2⟩
  · have hat := wH_at hP h1
    rw [h2] at hat
    exact va_get (ci := ci) (fs := fs) hexec hb hts hin hown hK (one_P hat) 0 rfl hc k hk hlink hsame hv hdg kk
  · have hat := hR a h1
    rw [h2] at hat
    obtain ⟨r, hr, -, hof⟩ := hat
    have e9 : r = (C, T, N) := Option.some.inj (hr.symm.trans hc)
    subst e9
    obtain ⟨cf, kf, fi, f, cell, g1, g2, g3, g4, g5, g6⟩ := hof k v hv
    exact W.getf hexec hb hown hlink (hsame _ g1) g2 g3 g4 (v := v) g5 rfl rfl hdg kk
theorem hg_getN (hexec : p.tables.exec = Jvm.exec) (hb : c.code = cc) {own ref C host : String} {T : u_T} {N ci index : Nat} {Ts : List Cond} (hts : ∀ w ∈ Ts, w.before args s = true) (hin : ∀ w ∈ u_ws C T N, w ∈ Ts) (hown : s.vm.findClass own = some m.cls) (hK : va_K G.1 vwCl tys s) (hP : va_P G.1 vwCl (wH G.2 st) H) (hR : rH G K A s H) (hc : vwCl[ci]? = some (C, T, N)) (k : Nat) (hk : k < N) (hlink : (Cond.fieldLinkNest own index ref (T k).2.1 (T k).2.2.1 host).before args s = true) (hsame : ∀ x, s.fieldFound? (T k).1 (T k).2.1 (T k).2.2.1 = some x → s.fieldFound? ref (T k).2.1 (T k).2.2.1 = some x) {v : Value} (h : gF K st a ci k = some v) (hdg : decode cc pc = .ok (.getfield index, 3))
    (kk : W p l e R s m args below meth c H locs cells slots Q (F0 m (pc + 3) ls (v :: rest))) : W p l e R s m args below meth c H locs cells slots Q (F0 m pc ls (.ref a :: rest)) := by
  obtain ⟨fs, hf, hv⟩ := gF_some h
  rcases cA_or hf with ⟨h1, h2⟩ | ⟨h1, h2⟩
  · have hat := wH_at hP h1
    rw [h2] at hat
    exact va_getN (ci := ci) (fs := fs) hexec hb hts hin hown hK (one_P hat) 0 rfl hc k hk hlink hsame hv hdg kk
  · have hat := hR a h1
    rw [h2] at hat
    obtain ⟨r, hr, -, hof⟩ := hat
    have e9 : r = (C, T, N) := Option.some.inj (hr.symm.trans hc)
    subst e9
    obtain ⟨cf, kf, fi, f, cell, g1, g2, g3, g4, g5, g6⟩ := hof k v hv
    exact va_Wgetf hexec hb hown hlink (hsame _ g1) g2 g3 g4 (v := v) g5 rfl rfl hdg kk
end HW
