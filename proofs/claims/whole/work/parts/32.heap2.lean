/-! The class's heap: arrays read and written, new cells. -/
def rA (K : KE) (st : CS) (a t : Nat) (i : Int32) : Option Int32 := (cA K st a).bind fun e => match e with
  | .inl (t', n, g) => if t' = t then rd g n i else none
  | _ => none
theorem rA_some {K : KE} {st : CS} {a t : Nat} {i x : Int32} (h : rA K st a t i = some x) : ∃ (n : Nat) (g : Nat → Int32), cA K st a = some (.inl (t, n, g)) ∧ vp_in i n ∧ g i.toNatClampNeg = x := by
  unfold rA at h
  cases hc : cA K st a with
  | none => rw [hc] at h; cases h
  | some e =>
    rw [hc] at h
    rcases e with ⟨t', n, g⟩ | x | x
    · by_cases ht : t' = t
      · subst ht
        have h2 : rd g n i = some x := by simpa using h
        obtain ⟨h3, h4⟩ := rd_some h2
        exact ⟨n, g, rfl, h3, h4⟩
      · simp [ht] at h
    · cases h
    · cases h
def rQ (K : KE) (st : CS) (a t : Nat) (i : Int32) : Option (Option Nat) := (cA K st a).bind fun e => match e with
  | .inr (.inl (t', n, g)) => if t' = t then rd g n i else none
  | _ => none
theorem rQ_some {K : KE} {st : CS} {a t : Nat} {i : Int32} {x : Option Nat} (h : rQ K st a t i = some x) : ∃ (n : Nat) (g : Nat → Option Nat), cA K st a = some (.inr (.inl (t, n, g))) ∧ vp_in i n ∧ g i.toNatClampNeg = x := by
  unfold rQ at h
  cases hc : cA K st a with
  | none => rw [hc] at h; cases h
  | some e =>
    rw [hc] at h
    rcases e with x | ⟨t', n, g⟩ | x
    · cases h
    · by_cases ht : t' = t
      · subst ht
        have h2 : rd g n i = some x := by simpa using h
        obtain ⟨h3, h4⟩ := rd_some h2
        exact ⟨n, g, rfl, h3, h4⟩
      · simp [ht] at h
    · cases h
/-- an array's length -/
def lA (K : KE) (st : CS) (a t : Nat) : Option Nat := (cA K st a).bind fun e => match e with
  | .inl (t', n, _) => if t' = t then some n else none
  | .inr (.inl (t', n, _)) => if t' = t then some n else none
  | _ => none
/-- an array's element set -/
def wA (st : CS) (a t : Nat) (i v : Int32) : Option CS := if a ∈ st.2.1 then (match st.2.2 a with
  | .inl (t', n, g) => if t' = t then (ix n i).bind fun k => some (uC st a (.inl (t', n, upd g k v))) else none
  | _ => none) else none
theorem wA_some {st st' : CS} {a t : Nat} {i v : Int32} (h : wA st a t i v = some st') : a ∈ st.2.1 ∧ ∃ (n : Nat) (g : Nat → Int32), st.2.2 a = .inl (t, n, g) ∧ vp_in i n ∧ st' = uC st a (.inl (t, n, upd g i.toNatClampNeg v)) := by
  unfold wA at h
  by_cases c : a ∈ st.2.1
  · rw [if_pos c] at h
    refine ⟨c, ?_⟩
    rcases hf : st.2.2 a with ⟨t', n, g⟩ | x | x
    · rw [hf] at h
      by_cases ht : t' = t
      · subst ht
        have h2 : ((ix n i).bind fun k => some (uC st a (.inl (t', n, upd g k v)))) = some st' := by simpa using h
        obtain ⟨k, hk, h3⟩ := ob h2
        obtain ⟨h4, h5⟩ := ix_some hk
        subst h5
        exact ⟨n, g, rfl, h4, (Option.some.inj h3).symm⟩
      · simp [ht] at h
    · rw [hf] at h; cases h
    · rw [hf] at h; cases h
  · rw [if_neg c] at h; cases h
section HA
variable {p : Program} {l : Launch} {e : Env} {R : Room} {s : State} {m : MethodId} {args : Array Value} {below : List Frame} {meth : Method} {c : Code} {H : Heap} {locs : List Loc} {cells slots : Nat} {Q : State → Prop} {cc : ByteArray} {pc : Nat} {ls : Array Slot} {rest : List Value} {G : Gk} {K : KE} {A : Nat → Prop} {st : CS} {H0 : Heap} {a : Nat}
theorem hg_iald (hexec : p.tables.exec = Jvm.exec) (hb : c.code = cc) (hK : va_K G.1 vwCl (TY G.2) s) (hP : va_P G.1 vwCl (wH G.2 st) H) (hR : rH G K A s H) {i x : Int32} (h : rA K st a 1 i = some x) (hdg : decode cc pc = .ok (.iaload, 1)) (kk : W p l e R s m args below meth c H locs cells slots Q (F0 m (pc + 1) ls (.int x :: rest))) : W p l e R s m args below meth c H locs cells slots Q (F0 m pc ls (.int i :: .ref a :: rest)) := by
  obtain ⟨n, g, hf, hi, hx⟩ := rA_some h
  subst hx
  rcases cA_or hf with ⟨h1, h2⟩ | ⟨h1, h2⟩
  · have hat := wH_at hP h1
    rw [h2] at hat
    exact va_iald hexec hb hK (one_P hat) 0 1 rfl rfl hi hdg kk
  · have hat := hR a h1
    rw [h2] at hat
    obtain ⟨ty, hty, cell, g1, g2, g3, g4, g5, g6, g7⟩ := hat
    have e9 : FieldType.int = ty := congrArg (fun x => x.2) (Option.some.inj hty)
    subst e9
    have hlt : i.toNatClampNeg < n := Nat.not_le.mp fun q => hi (Or.inr q)
    exact W.iald (v := .int (g i.toNatClampNeg)) hexec hb g1 g2 g3 (fun q => q.elim (fun q => hi (Or.inl q)) (fun q => by omega)) (g6 _ hlt) rfl rfl hdg kk
theorem hg_cald (hexec : p.tables.exec = Jvm.exec) (hb : c.code = cc) (hK : va_K G.1 vwCl (TY G.2) s) (hP : va_P G.1 vwCl (wH G.2 st) H) (hR : rH G K A s H) {i x : Int32} (h : rA K st a 0 i = some x) (hdg : decode cc pc = .ok (.caload, 1)) (kk : W p l e R s m args below meth c H locs cells slots Q (F0 m (pc + 1) ls (.int x :: rest))) : W p l e R s m args below meth c H locs cells slots Q (F0 m pc ls (.int i :: .ref a :: rest)) := by
  obtain ⟨n, g, hf, hi, hx⟩ := rA_some h
  subst hx
  rcases cA_or hf with ⟨h1, h2⟩ | ⟨h1, h2⟩
  · have hat := wH_at hP h1
    rw [h2] at hat
    exact va_cald hexec hb hK (one_P hat) 0 0 rfl rfl hi hdg kk
  · have hat := hR a h1
    rw [h2] at hat
    obtain ⟨ty, hty, cell, g1, g2, g3, g4, g5, g6, g7⟩ := hat
    have e9 : FieldType.char = ty := congrArg (fun x => x.2) (Option.some.inj hty)
    subst e9
    have hlt : i.toNatClampNeg < n := Nat.not_le.mp fun q => hi (Or.inr q)
    exact W.cald (v := .int (g i.toNatClampNeg)) hexec hb g1 g2 g3 (fun q => q.elim (fun q => hi (Or.inl q)) (fun q => by omega)) (g6 _ hlt) rfl rfl hdg kk
theorem hg_bald (hexec : p.tables.exec = Jvm.exec) (hb : c.code = cc) (hK : va_K G.1 vwCl (TY G.2) s) (hP : va_P G.1 vwCl (wH G.2 st) H) (hR : rH G K A s H) {i x : Int32} (h : rA K st a 2 i = some x) (hdg : decode cc pc = .ok (.baload, 1)) (kk : W p l e R s m args below meth c H locs cells slots Q (F0 m (pc + 1) ls (.int x :: rest))) : W p l e R s m args below meth c H locs cells slots Q (F0 m pc ls (.int i :: .ref a :: rest)) := by
  obtain ⟨n, g, hf, hi, hx⟩ := rA_some h
  subst hx
  rcases cA_or hf with ⟨h1, h2⟩ | ⟨h1, h2⟩
  · have hat := wH_at hP h1
    rw [h2] at hat
    exact va_bald hexec hb hK (one_P hat) 0 2 rfl rfl hi hdg kk
  · have hat := hR a h1
    rw [h2] at hat
    obtain ⟨ty, hty, cell, g1, g2, g3, g4, g5, g6, g7⟩ := hat
    have e9 : FieldType.byte = ty := congrArg (fun x => x.2) (Option.some.inj hty)
    subst e9
    have hlt : i.toNatClampNeg < n := Nat.not_le.mp fun q => hi (Or.inr q)
    exact W.bald (v := .int (g i.toNatClampNeg)) hexec hb g1 g2 g3 (fun q => q.elim (fun q => hi (Or.inl q)) (fun q => by omega)) (g6 _ hlt) rfl rfl hdg kk
theorem hg_zald (hexec : p.tables.exec = Jvm.exec) (hb : c.code = cc) (hK : va_K G.1 vwCl (TY G.2) s) (hP : va_P G.1 vwCl (wH G.2 st) H) (hR : rH G K A s H) {i x : Int32} (h : rA K st a 3 i = some x) (hdg : decode cc pc = .ok (.baload, 1)) (kk : W p l e R s m args below meth c H locs cells slots Q (F0 m (pc + 1) ls (.int x :: rest))) : W p l e R s m args below meth c H locs cells slots Q (F0 m pc ls (.int i :: .ref a :: rest)) := by
  obtain ⟨n, g, hf, hi, hx⟩ := rA_some h
  subst hx
  rcases cA_or hf with ⟨h1, h2⟩ | ⟨h1, h2⟩
  · have hat := wH_at hP h1
    rw [h2] at hat
    exact va_zald hexec hb hK (one_P hat) 0 3 rfl rfl hi hdg kk
  · have hat := hR a h1
    rw [h2] at hat
    obtain ⟨ty, hty, cell, g1, g2, g3, g4, g5, g6, g7⟩ := hat
    have e9 : FieldType.boolean = ty := congrArg (fun x => x.2) (Option.some.inj hty)
    subst e9
    have hlt : i.toNatClampNeg < n := Nat.not_le.mp fun q => hi (Or.inr q)
    exact W.zald (v := .int (g i.toNatClampNeg)) hexec hb g1 g2 g3 (fun q => q.elim (fun q => hi (Or.inl q)) (fun q => by omega)) (g6 _ hlt) rfl rfl hdg kk
theorem hg_aald (hexec : p.tables.exec = Jvm.exec) (hb : c.code = cc) (hK : va_K G.1 vwCl (TY G.2) s) (hP : va_P G.1 vwCl (wH G.2 st) H) (hR : rH G K A s H) {t : Nat} {C : String} (ht : (TY G.2)[t]? = some (G.2 t, .object C)) {i : Int32} {x : Option Nat} (h : rQ K st a t i = some x) (hdg : decode cc pc = .ok (.aaload, 1)) (kk : W p l e R s m args below meth c H locs cells slots Q (F0 m (pc + 1) ls (va_rf x :: rest))) : W p l e R s m args below meth c H locs cells slots Q (F0 m pc ls (.int i :: .ref a :: rest)) := by
  obtain ⟨n, g, hf, hi, hx⟩ := rQ_some h
  subst hx
  rcases cA_or hf with ⟨h1, h2⟩ | ⟨h1, h2⟩
  · have hat := wH_at hP h1
    rw [h2] at hat
    exact va_aldq hexec hb hK (one_P hat) 0 t rfl ht hi hdg kk
  · have hat := hR a h1
    rw [h2] at hat
    exact hat.elim
end HA
