/-! The class's heap: what writes keep; receivers; lengths; nest mates' and final fields set. -/
theorem sF_1 {st st' : CS} {a ci i : Nat} {v : Value} (h : sF st a ci i v = some st') : st.1 = st'.1 := by
  obtain ⟨-, fs, -, -, rfl⟩ := sF_some h
  rfl
theorem wA_1 {st st' : CS} {a t : Nat} {i v : Int32} (h : wA st a t i v = some st') : st.1 = st'.1 := by
  obtain ⟨-, n, g, -, -, rfl⟩ := wA_some h
  rfl
theorem wQ_1 {st st' : CS} {a t ci : Nat} {i : Int32} {r : Option Nat} (h : wQ st a t ci i r = some st') : st.1 = st'.1 := by
  obtain ⟨-, n, g, -, -, rfl, -⟩ := wQ_some h
  rfl
/-- an object of class ci lies there -/
def isO (K : KE) (st : CS) (a ci : Nat) : Option Unit := (cA K st a).bind fun e => match e with
  | .inr (.inr (c, _)) => if c = ci then some () else none
  | _ => none
theorem isO_some {K : KE} {st : CS} {a ci : Nat} {x : Unit} (h : isO K st a ci = some x) : ∃ fs : List Value, cA K st a = some (.inr (.inr (ci, fs))) := by
  unfold isO at h
  cases hc : cA K st a with
  | none => rw [hc] at h; cases h
  | some e =>
    rw [hc] at h
    rcases e with x | x | ⟨c, fs⟩
    · cases h
    · cases h
    · by_cases hci : c = ci
      · subst hci
        exact ⟨fs, rfl⟩
      · simp [hci] at h
theorem recvH {G : Gk} {K : KE} {A : Nat → Prop} {st : CS} {s : State} {H : Heap} {a ci : Nat} {q : vw_C} {tys : List (ClassId × FieldType)} {x : Unit} (hK : va_K G.1 vwCl tys s) (hP : va_P G.1 vwCl (wH G.2 st) H) (hR : rH G K A s H) (hc : vwCl[ci]? = some q) (h : isO K st a ci = some x) : ∃ cell : Cell, H[a]? = some cell ∧ cell.vm.isStatics = false ∧ s.vm.findClass q.1 = some cell.cls := by
  obtain ⟨fs, hf⟩ := isO_some h
  rcases cA_or hf with ⟨h1, h2⟩ | ⟨h1, h2⟩
  · have hat := wH_at hP h1
    rw [h2] at hat
    exact va_recv (q0 := 0) (fs := fs) hK (one_P hat) hc rfl
  · have hat := hR a h1
    rw [h2] at hat
    obtain ⟨r, hr, ⟨cell, g1, g2, g3, -⟩, -⟩ := hat
    have e9 : r = q := Option.some.inj (hr.symm.trans hc)
    subst e9
    exact ⟨cell, g1, g2, g3⟩
theorem lA_some {K : KE} {st : CS} {a t n : Nat} (h : lA K st a t = some n) : (∃ g : Nat → Int32, cA K st a = some (.inl (t, n, g))) ∨ ∃ g : Nat → Option Nat, cA K st a = some (.inr (.inl (t, n, g))) := by
  unfold lA at h
  cases hc : cA K st a with
  | none => rw [hc] at h; cases h
  | some e =>
    rw [hc] at h
    rcases e with ⟨t', n', g⟩ | ⟨t', n', g⟩ | x
    · by_cases ht : t' = t
      · subst ht
        have h2 : n' = n := by simpa using h
        subst h2
        exact Or.inl ⟨g, rfl⟩
      · simp [ht] at h
    · by_cases ht : t' = t
      · subst ht
        have h2 : n' = n := by simpa using h
        subst h2
        exact Or.inr ⟨g, rfl⟩
      · simp [ht] at h
    · cases h
section H6
variable {p : Program} {l : Launch} {e : Env} {R : Room} {s : State} {m : MethodId} {args : Array Value} {below : List Frame} {meth : Method} {c : Code} {H : Heap} {locs : List Loc} {cells slots : Nat} {Q : State → Prop} {cc : ByteArray} {pc : Nat} {ls : Array Slot} {rest : List Value} {G : Gk} {K : KE} {A : Nat → Prop} {st : CS} {H0 : Heap} {a : Nat} {tys : List (ClassId × FieldType)}
theorem hg_alen (hexec : p.tables.exec = Jvm.exec) (hb : c.code = cc) (hK : va_K G.1 vwCl (TY G.2) s) (hP : va_P G.1 vwCl (wH G.2 st) H) (hR : rH G K A s H) {t n : Nat} {ty : FieldType} (ht : (TY G.2)[t]? = some (G.2 t, ty)) (h : lA K st a t = some n) (hdg : decode cc pc = .ok (.arraylength, 1)) (kk : W p l e R s m args below meth c H locs cells slots Q (F0 m (pc + 1) ls (.int (Int32.ofNat n) :: rest))) : W p l e R s m args below meth c H locs cells slots Q (F0 m pc ls (.ref a :: rest)) := by
  rcases lA_some h with ⟨g, hf⟩ | ⟨g, hf⟩
  · rcases cA_or hf with ⟨h1, h2⟩ | ⟨h1, h2⟩
    · have hat := wH_at hP h1
      rw [h2] at hat
      exact va_alen (v := Int32.ofNat n) hexec hb hK (one_P hat) 0 t rfl ht rfl hdg kk
    · have hat := hR a h1
      rw [h2] at hat
      obtain ⟨ty2, hty, cell, g1, g2, g3, g4, g5, g6, g7⟩ := hat
      exact W.alen (n := Int32.ofNat n) hexec hb g1 g2 g5 rfl rfl hdg kk
  · rcases cA_or hf with ⟨h1, h2⟩ | ⟨h1, h2⟩
    · have hat := wH_at hP h1
      rw [h2] at hat
      exact va_alen (v := Int32.ofNat n) hexec hb hK (one_P hat) 0 t rfl ht rfl hdg kk
    · have hat := hR a h1
      rw [h2] at hat
      exact hat.elim
theorem hs_putN (hexec : p.tables.exec = Jvm.exec) (hb : c.code = cc) {own ref C host : String} {T : u_T} {N ci index : Nat} {Ts : List Cond} (hts : ∀ w ∈ Ts, w.before args s = true) (hin : ∀ w ∈ u_ws C T N, w ∈ Ts) (ty0 : Nat → FieldType) (hty : ∀ k, k < N → parseFieldDescriptor (T k).2.2.1 = some (ty0 k)) (hnm : ∀ a, a < N → ∀ b, b < N → a ≠ b → (T a).2.1 ≠ (T b).2.1) (hown : s.vm.findClass own = some m.cls) (hK : va_K G.1 vwCl tys s) (hP : va_P G.1 vwCl (wH G.2 st) H) (hD : va_D A (wH G.2 st)) (hS0 : va_S A H0 H locs) (hc : vwCl[ci]? = some (C, T, N)) (k : Nat) (hk : k < N) (hlink : (Cond.fieldLinkNest own index ref (T k).2.1 (T k).2.2.1 host).before args s = true) (hsame : ∀ x, s.fieldFound? (T k).1 (T k).2.1 (T k).2.2.1 = some x → s.fieldFound? ref (T k).2.1 (T k).2.2.1 = some x) (hfin : (T k).2.2.2 = false) {ty : FieldType} {v : Value} {st' : CS} (h : sF st a ci k v = some st') (hd : parseFieldDescriptor (T k).2.2.1 = some ty) (hn : narrow ty v = v) (hfit : fits ty v = true)
    (hdg : decode cc pc = .ok (.putfield index, 3)) (kk : ∀ (H1 : Heap) (locs1 : List Loc), H1.size = H.size → tot H1 = tot H → va_P G.1 vwCl (wH G.2 st') H1 → va_D A (wH G.2 st') → va_S A H0 H1 locs1 → W p l e R s m args below meth c H1 locs1 cells slots Q (F0 m (pc + 3) ls rest)) : W p l e R s m args below meth c H locs cells slots Q (F0 m pc ls (v :: .ref a :: rest)) := by
  obtain ⟨hm, fs, hf, hl, rfl⟩ := sF_some h
  have hat := wH_at hP hm
  rw [hf] at hat
  have hap := va_apart (own := own) hts hin ty0 hty hnm hK hc
  obtain ⟨r, h1, cell, q1, q2, q3, q4⟩ := hat
  have hr : r = (C, T, N) := Option.some.inj (h1.symm.trans hc)
  subst hr
  obtain ⟨hSl, hfc, kC, hkC, hkind⟩ := hK.1 ci _ hc
  obtain ⟨cf, kf, fi, fd, hi, hsl⟩ := hSl k hk
  have hlay := hts _ (hin _ (u_in_lay hk))
  unfold u_lay at hlay
  rw [if_neg (by rw [hfin]; decide)] at hlay
  refine va_WputK hexec hb (f := fd) hown hlink (hsame _ hi) (u_facts hfc hkC (u_lays hts hin hk) hi).1 (by rw [q2]; exact u_store hfc hkC hkind hlay hi hd hn hfit) q1 q3 (by rw [hsl]; exact k2_hasslot (q4 k hk)) rfl rfl hdg fun H1 e1 e2 e3 => ?_
  have hat2 : va_at G.1 vwCl (a, toE G.2 (.inr (.inr (ci, fs.set k v)))) H1 := by
    rw [hsl] at e1
    exact ⟨_, hc, t_OB.to (V := updV (vp_V fs) k v) ⟨_, e1, q2, q3, t_set q4 hap hk v⟩ (fun j _ => vp_updV_set hl v j)⟩
  obtain ⟨g1, g2, g3⟩ := aft_set (j := fd.slot) hP hD hS0 hm hat2 e2 e3
  exact kk H1 _ e2 (tot_same e2 q1 e1 e3) g1 g2 g3
theorem hs_putF (hexec : p.tables.exec = Jvm.exec) (hb : c.code = cc) {own ref C : String} {T : u_T} {N ci index : Nat} {Ts : List Cond} (hts : ∀ w ∈ Ts, w.before args s = true) (hin : ∀ w ∈ u_ws C T N, w ∈ Ts) (ty0 : Nat → FieldType) (hty : ∀ k, k < N → parseFieldDescriptor (T k).2.2.1 = some (ty0 k)) (hnm : ∀ a, a < N → ∀ b, b < N → a ≠ b → (T a).2.1 ≠ (T b).2.1) (hown : s.vm.findClass own = some m.cls) (hK : va_K G.1 vwCl tys s) (hP : va_P G.1 vwCl (wH G.2 st) H) (hD : va_D A (wH G.2 st)) (hS0 : va_S A H0 H locs) (hc : vwCl[ci]? = some (C, T, N)) (k : Nat) (hk : k < N) (hlink : (Cond.fieldLink own index ref (T k).2.1 (T k).2.2.1).before args s = true) (hsame : ∀ x, s.fieldFound? (T k).1 (T k).2.1 (T k).2.2.1 = some x → s.fieldFound? ref (T k).2.1 (T k).2.2.1 = some x) (hfin : (T k).2.2.2 = true) (hin2 : meth.name = "<init>") (hdecl : (T k).1 = own) {ty : FieldType} {v : Value} {st' : CS} (h : sF st a ci k v = some st') (hd : parseFieldDescriptor (T k).2.2.1 = some ty) (hn : narrow ty v = v) (hfit : fits ty v = true)
    (hdg : decode cc pc = .ok (.putfield index, 3)) (kk : ∀ (H1 : Heap) (locs1 : List Loc), H1.size = H.size → tot H1 = tot H → va_P G.1 vwCl (wH G.2 st') H1 → va_D A (wH G.2 st') → va_S A H0 H1 locs1 → W p l e R s m args below meth c H1 locs1 cells slots Q (F0 m (pc + 3) ls rest)) : W p l e R s m args below meth c H locs cells slots Q (F0 m pc ls (v :: .ref a :: rest)) := by
  obtain ⟨hm, fs, hf, hl, rfl⟩ := sF_some h
  have hat := wH_at hP hm
  rw [hf] at hat
  have hap := va_apart (own := own) hts hin ty0 hty hnm hK hc
  obtain ⟨r, h1, cell, q1, q2, q3, q4⟩ := hat
  have hr : r = (C, T, N) := Option.some.inj (h1.symm.trans hc)
  subst hr
  obtain ⟨hSl, hfc, kC, hkC, hkind⟩ := hK.1 ci _ hc
  obtain ⟨cf, kf, fi, fd, hi, hsl⟩ := hSl k hk
  have hlay := hts _ (hin _ (u_in_lay hk))
  unfold u_lay at hlay
  rw [if_pos hfin] at hlay
  have hcf : m.cls = cf := by
    obtain ⟨_, _, c', _, _, _, -, -, hf', -, -, -, hown2, -⟩ := Cond.laysFinal_spec hlay
    have e1 : c' = cf := by have := hi.symm.trans hf'; simp at this; exact this.1.symm
    rw [hdecl] at hown2
    rw [← e1]; exact Option.some.inj (hown.symm.trans hown2)
  refine W.putFinK hexec hb hown hlink (hsame _ hi) (u_facts hfc hkC (u_lays hts hin hk) hi).1 hcf hin2 (by rw [q2]; exact u_fits hfc hkC hkind (Or.inr hlay) hi hd hn hfit) q1 q3 (by rw [hsl]; exact k2_hasslot (q4 k hk)) rfl rfl hdg fun H1 e1 e2 e3 => ?_
  have hat2 : va_at G.1 vwCl (a, toE G.2 (.inr (.inr (ci, fs.set k v)))) H1 := by
    rw [hsl] at e1
    exact ⟨_, hc, t_OB.to (V := updV (vp_V fs) k v) ⟨_, e1, q2, q3, t_set q4 hap hk v⟩ (fun j _ => vp_updV_set hl v j)⟩
  obtain ⟨g1, g2, g3⟩ := aft_set (j := fd.slot) hP hD hS0 hm hat2 e2 e3
  exact kk H1 _ e2 (tot_same e2 q1 e1 e3) g1 g2 g3
/-- a new array of bytes lies at the heap's size -/
def nB (st : CS) (n : Nat) : CS := ((st.1.1 + 1, st.1.2 + n), st.2.1 ++ [st.1.1], va_up st.2.2 st.1.1 (.inl (2, n, fun _ => 0)))
theorem hs_newb (hexec : p.tables.exec = Jvm.exec) (hb : c.code = cc) (harr : (Cond.arrayClass .byte).before args s = true) (hK : va_K G.1 vwCl (TY G.2) s) (hP : va_P G.1 vwCl (wH G.2 st) H) (hD : va_D A (wH G.2 st)) (hS : va_S A H0 H locs) (hA : ∀ q, H0.size ≤ q → A q) (hz : H.size = st.1.1) (htt : tot H = st.1.2) {n : Int32} {N : Nat} (hn : ¬ n < 0) (hN : n.toNatClampNeg = N) (hbytes : N ≤ 536870912) (hcells : cells + 1 ≤ R.cells) (hslots : slots + N ≤ R.slots) (hdg : decode cc pc = .ok (.newarray .byte, 2))
    (kk : ∀ (H1 : Heap), H1.size = (nB st N).1.1 → tot H1 = (nB st N).1.2 → va_P G.1 vwCl (wH G.2 (nB st N)) H1 → va_D A (wH G.2 (nB st N)) → va_S A H0 H1 locs → W p l e R s m args below meth c H1 locs (cells + 1) (slots + N) Q (F0 m (pc + 2) ls (.ref st.1.1 :: rest))) : W p l e R s m args below meth c H locs cells slots Q (F0 m pc ls (.int n :: rest)) := by
  have hnot : st.1.1 ∉ st.2.1 := va_pl_fresh (X := []) hP (by rw [hz]; exact Nat.le_refl _)
  refine va_newaK (atype := .byte) hexec hb harr rfl hdg rfl hn hN (by show N * 1 ≤ _; omega) hcells hslots hz fun H1 cA9 e1 z1 o1 hAr hNm => ?_
  have hcA : cA9 = G.2 2 := Option.some.inj (hNm.symm.trans (hK.2 2 _ rfl).2)
  subst hcA
  have hlt : ∀ (k : Nat) (x : Nat × va_E), (wH G.2 st)[k]? = some x → x.1 < st.1.1 := fun k x hx => by rw [← hz]; exact (hP k x hx).lt
  have hat : va_at G.1 vwCl (st.1.1, toE G.2 (.inl (2, N, fun _ => 0))) H1 := e1
  have g1 : va_P G.1 vwCl (wH G.2 st ++ [(st.1.1, toE G.2 (.inl (2, N, fun _ => 0)))]) H1 := (hP.kept (fun k x hx => o1 x.1 (hlt k x hx))).app (one_P hat)
  have g2 : va_D A (wH G.2 st ++ [(st.1.1, toE G.2 (.inl (2, N, fun _ => 0)))]) := hD.push hP hz.symm (hA _ (by rw [← hz]; exact hS.1))
  rw [wH_push hnot] at g1 g2
  have ht1 : tot H1 = st.1.2 + N := by
    have q1 := tot_new (H := H) (by rw [z1, hz]) (by rw [hz]; exact e1) (fun q hq => o1 q (by rw [← hz]; exact hq))
    rw [q1, arrV_size, htt]
  exact kk H1 z1 ht1 g1 g2 ⟨Nat.le_trans hS.1 (by omega), fun x h1 h2 => (o1 x (by rw [← hz]; exact Nat.lt_of_lt_of_le h1 hS.1)).trans (hS.2.1 x h1 h2), hS.2.2⟩
end H6
