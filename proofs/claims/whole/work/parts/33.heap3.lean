/-! Writes and new cells, with the heap's size told: new cells lie at the heap's size, so a state names them. -/
theorem aft_set {G : Gk} {A : Nat → Prop} {st : CS} {H H1 : Heap} {H0 : Heap} {locs : List Loc} {a j : Nat} {e : CE} (hP : va_P G.1 vwCl (wH G.2 st) H) (hD : va_D A (wH G.2 st)) (hS : va_S A H0 H locs) (hm : a ∈ st.2.1) (hat : va_at G.1 vwCl (a, toE G.2 e) H1) (hz : H1.size = H.size) (ho : ∀ q : Nat, q ≠ a → H1[q]? = H[q]?) : va_P G.1 vwCl (wH G.2 (uC st a e)) H1 ∧ va_D A (wH G.2 (uC st a e)) ∧ va_S A H0 H1 (locs ++ [⟨a, j⟩]) := by
  obtain ⟨i, hi⟩ := va_pl_get (X := []) (f := fun a => toE G.2 (st.2.2 a)) hm
  have hi : (wH G.2 st)[i]? = some (a, toE G.2 (st.2.2 a)) := hi
  have hw := wH_set (e := e) hD hm hi
  have h1 := hP.set hD hi hat ho
  have h2 := hD.set (e := toE G.2 e) hi
  rw [hw] at h1 h2
  exact ⟨h1, h2, hS.put hz ho (hD.2 i _ hi)⟩
section HS
variable {p : Program} {l : Launch} {e : Env} {R : Room} {s : State} {m : MethodId} {args : Array Value} {below : List Frame} {meth : Method} {c : Code} {H : Heap} {locs : List Loc} {cells slots : Nat} {Q : State → Prop} {cc : ByteArray} {pc : Nat} {ls : Array Slot} {rest : List Value} {G : Gk} {K : KE} {A : Nat → Prop} {st : CS} {H0 : Heap} {a : Nat} {tys : List (ClassId × FieldType)}
theorem hs_put (hexec : p.tables.exec = Jvm.exec) (hb : c.code = cc) {own ref C : String} {T : u_T} {N ci index : Nat} {Ts : List Cond} (hts : ∀ w ∈ Ts, w.before args s = true) (hin : ∀ w ∈ u_ws C T N, w ∈ Ts) (ty0 : Nat → FieldType) (hty : ∀ k, k < N → parseFieldDescriptor (T k).2.2.1 = some (ty0 k)) (hnm : ∀ a, a < N → ∀ b, b < N → a ≠ b → (T a).2.1 ≠ (T b).2.1) (hown : s.vm.findClass own = some m.cls) (hK : va_K G.1 vwCl tys s) (hP : va_P G.1 vwCl (wH G.2 st) H) (hD : va_D A (wH G.2 st)) (hS0 : va_S A H0 H locs) (hc : vwCl[ci]? = some (C, T, N)) (k : Nat) (hk : k < N) (hlink : (Cond.fieldLink own index ref (T k).2.1 (T k).2.2.1).before args s = true) (hsame : ∀ x, s.fieldFound? (T k).1 (T k).2.1 (T k).2.2.1 = some x → s.fieldFound? ref (T k).2.1 (T k).2.2.1 = some x) (hfin : (T k).2.2.2 = false) {ty : FieldType} {v : Value} {st' : CS} (h : sF st a ci k v = some st') (hd : parseFieldDescriptor (T k).2.2.1 = some ty) (hn : narrow ty v = v) (hfit : fits ty v = true)
    (hdg : decode cc pc = .ok (.putfield index, 3)) (kk : ∀ (H1 : Heap) (locs1 : List Loc), H1.size = H.size → tot H1 = tot H → va_P G.1 vwCl (wH G.2 st') H1 → va_D A (wH G.2 st') → va_S A H0 H1 locs1 → W p l e R s m args below meth c H1 locs1 cells slots Q (F0 m (pc + 3) ls rest)) : W p l e R s m args below meth c H locs cells slots Q (F0 m pc ls (v :: .ref a :: rest)) := by
  obtain ⟨hm, fs, hf, hl, rfl⟩ := sF_some h
  have hat := wH_at hP hm
  rw [hf] at hat
  have hap := va_apart (own := own) hts hin ty0 hty hnm hK hc
  obtain ⟨r, h1, cell, q1, q2, q3, q4⟩ := hat
  have hr : r = (C, T, N) := Option.some.inj (h1.symm.trans hc)
  subst hr
  obtain ⟨hSl, hfc, kC, hkC, hkind⟩ := hK.1 ci _ hc
  obtain ⟨cf, kf, fi, fd, hi, hsl⟩ := hSl k hk
  have hlay := hts _ (hin _ (u_in_lay hk))
  unfold u_lay at hlay
  rw [if_neg (by rw [hfin]; decide)] at hlay
  refine W.putK hexec hb (f := fd) ⟨hown, hlink, ⟨_, _, _, hsame _ hi⟩, (u_facts hfc hkC (u_lays hts hin hk) hi).1⟩ (by rw [q2]; exact u_store hfc hkC hkind hlay hi hd hn hfit) q1 q3 (by rw [hsl]; exact k2_hasslot (q4 k hk)) rfl rfl hdg fun H1 e1 e2 e3 => ?_
  have hat2 : va_at G.1 vwCl (a, toE G.2 (.inr (.inr (ci, fs.set k v)))) H1 := by
    rw [hsl] at e1
    exact ⟨_, hc, t_OB.to (V := updV (vp_V fs) k v) ⟨_, e1, q2, q3, t_set q4 hap hk v⟩ (fun j _ => vp_updV_set hl v j)⟩
  obtain ⟨g1, g2, g3⟩ := aft_set (j := fd.slot) hP hD hS0 hm hat2 e2 e3
  exact kk H1 _ e2 (tot_same e2 q1 e1 e3) g1 g2 g3
/-- a new object lies at the heap's size -/
def nO (st : CS) (ci N : Nat) (fs : List Value) : CS := ((st.1.1 + 1, st.1.2 + N), st.2.1 ++ [st.1.1], va_up st.2.2 st.1.1 (.inr (.inr (ci, fs))))
theorem wH_push {k : Nat → ClassId} {f : Nat → CE} {L : List Nat} {a : Nat} {e : CE} (h : a ∉ L) : va_pl L (fun b => toE k (f b)) ++ [(a, toE k e)] = va_pl (L ++ [a]) (fun b => toE k (va_up f a e b)) := by
  rw [va_pl_push h]
  exact wH_up
theorem hs_new (hexec : p.tables.exec = Jvm.exec) (hb : c.code = cc) {own C : String} {T : u_T} {N ci index : Nat} {Ts : List Cond} (hts : ∀ w ∈ Ts, w.before args s = true) (hin : ∀ w ∈ u_ws C T N, w ∈ Ts) (ty : Nat → FieldType) (hty : ∀ k, k < N → parseFieldDescriptor (T k).2.2.1 = some (ty k)) (hown : s.vm.findClass own = some m.cls) (hcl : (Cond.classLink own index C).before args s = true) (hinst : (Cond.instantiable C N).before args s = true) (hini : (Cond.initialized C).before args s = true)
    (hK : va_K G.1 vwCl tys s) (hP : va_P G.1 vwCl (wH G.2 st) H) (hD : va_D A (wH G.2 st)) (hS : va_S A H0 H locs) (hA : ∀ q, H0.size ≤ q → A q) (hz : H.size = st.1.1) (htt : tot H = st.1.2) (hc : vwCl[ci]? = some (C, T, N)) {fs : List Value} (hfs : ∀ j, j < N → defaultValue (ty j) = vp_V fs j) (hcells : cells + 1 ≤ R.cells) (hslots : slots + N ≤ R.slots) (hdg : decode cc pc = .ok (.new index, 3))
    (kk : ∀ (H1 : Heap), H1.size = (nO st ci N fs).1.1 → tot H1 = (nO st ci N fs).1.2 → va_P G.1 vwCl (wH G.2 (nO st ci N fs)) H1 → va_D A (wH G.2 (nO st ci N fs)) → va_S A H0 H1 locs → W p l e R s m args below meth c H1 locs (cells + 1) (slots + N) Q (F0 m (pc + 3) ls (.ref st.1.1 :: rest))) : W p l e R s m args below meth c H locs cells slots Q (F0 m pc ls rest) := by
  have hKn := hK.1 ci _ hc
  have hnot : st.1.1 ∉ st.2.1 := va_pl_fresh (X := []) hP (by rw [hz]; exact Nat.le_refl _)
  refine W.newcK hexec hb hown hcl hinst hini rfl hdg hcells hslots hKn.2.1 hz fun H1 kC hkC e1 z1 o1 => ?_
  have hlt : ∀ (k : Nat) (x : Nat × va_E), (wH G.2 st)[k]? = some x → x.1 < st.1.1 := fun k x hx => by rw [← hz]; exact (hP k x hx).lt
  have g1 : va_P G.1 vwCl (wH G.2 st ++ [(st.1.1, toE G.2 (.inr (.inr (ci, fs))))]) H1 := (hP.kept (fun k x hx => o1 x.1 (hlt k x hx))).app (one_P ⟨_, hc, (u_born ty hts hin hKn hkC e1 hty).to hfs⟩)
  have g2 : va_D A (wH G.2 st ++ [(st.1.1, toE G.2 (.inr (.inr (ci, fs))))]) := hD.push hP hz.symm (hA _ (by rw [← hz]; exact hS.1))
  rw [wH_push hnot] at g1 g2
  have hN : (blank (G.1.1 ci) kC).slots.size = N := by
    obtain ⟨cC2, kC2, hf2, hk2, hkd, hsz⟩ := Cond.instantiable_spec hinst
    have e1c : cC2 = G.1.1 ci := Option.some.inj (hf2.symm.trans hKn.2.1)
    subst e1c
    have e2c : kC2 = kC := Option.some.inj (hk2.symm.trans hkC)
    subst e2c
    first | simpa [blank] using hsz | simpa [blank] using hsz.1 | simpa [blank] using hsz.2 | simpa [blank] using hsz.2.1 | simp_all [blank]
  have ht1 : tot H1 = st.1.2 + N := by
    have q1 := tot_new (H := H) (by rw [z1, hz]) (by rw [hz]; exact e1) (fun q hq => o1 q (by rw [← hz]; exact hq))
    rw [q1, hN, htt]
  exact kk H1 z1 ht1 g1 g2 ⟨Nat.le_trans hS.1 (by omega), fun x h1 h2 => (o1 x (by rw [← hz]; exact Nat.lt_of_lt_of_le h1 hS.1)).trans (hS.2.1 x h1 h2), hS.2.2⟩
end HS
