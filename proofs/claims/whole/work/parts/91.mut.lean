/-! Values changed: names, chains. -/
def vch (s s1 : CS) (W : List Nat) : Prop := s1.1 = s.1 ∧ s1.2.1 = s.2.1 ∧ ∀ x, s1.2.2 x = s.2.2 x ∨ (x ∈ W ∧ x ∈ s.2.1 ∧ (∃ fs, s.2.2 x = .inr (.inr (11, fs))) ∧ ∃ fs, s1.2.2 x = .inr (.inr (11, fs)))
theorem vch.rf (s : CS) (W : List Nat) : vch s s W := ⟨rfl, rfl, fun _ => Or.inl rfl⟩
theorem vch.sub {s s1 : CS} {W V : List Nat} (h : vch s s1 W) (hs : ∀ x ∈ W, x ∈ V) : vch s s1 V := ⟨h.1, h.2.1, fun x => (h.2.2 x).imp_right (fun g => ⟨hs x g.1, g.2⟩)⟩
theorem vch.tr {s s1 s2 : CS} {W : List Nat} (h : vch s s1 W) (h1 : vch s1 s2 W) : vch s s2 W := by
  refine ⟨h1.1.trans h.1, h1.2.1.trans h.2.1, fun x => ?_⟩
  rcases h1.2.2 x with e | ⟨a1, a2, ⟨fs, a3⟩, fs2, a4⟩
  · rcases h.2.2 x with e2 | ⟨b1, b2, b3, fs3, b4⟩
    · exact Or.inl (e.trans e2)
    · exact Or.inr ⟨b1, b2, b3, fs3, e.trans b4⟩
  · rw [h.2.1] at a2
    rcases h.2.2 x with e2 | ⟨b1, b2, b3, -⟩
    · exact Or.inr ⟨a1, a2, ⟨fs, e2 ▸ a3⟩, fs2, a4⟩
    · exact Or.inr ⟨a1, a2, b3, fs2, a4⟩
theorem vch.one {s : CS} {a : Nat} {fs fs1 : List Value} (h : ob1 s a 11 fs) : vch s (uC s a (.inr (.inr (11, fs1)))) [a] := by
  refine ⟨rfl, rfl, fun x => ?_⟩
  by_cases e : x = a
  · subst e
    exact Or.inr ⟨List.mem_singleton.mpr rfl, h.1, ⟨fs, h.2⟩, fs1, uC_self⟩
  · exact Or.inl (uC_ne e)
theorem Lx_n11 {q : Nat → Nat} {cw : Nat} {I : Nat → Int32} {A : Nat → Nat → Int32} {R : Nat → Option Nat} {Q : Nat → Nat → Option Nat} : ∀ p ∈ Lx q cw I A R Q, ∀ fs, p.2 ≠ .inr (.inr (11, fs)) := by
  intro p hp fs
  unfold Lx at hp
  iterate 26 (rcases List.mem_cons.mp hp with rfl | hp; · intro e; cases e)
  cases hp
section MUT
variable {Zd : Nat → Nat} {K : KE} {s s1 st0 : CS} {q : Nat → Nat} {cw : Nat} {I : Nat → Int32} {A : Nat → Nat → Int32} {R : Nat → Option Nat} {Q : Nat → Nat → Option Nat}
theorem Fx.n11 (h : Fx s q cw I A R Q) {i : Nat} (hi : us i = true) : q i ∈ s.2.1 ∧ ∀ fs, s.2.2 (q i) ≠ .inr (.inr (11, fs)) := by
  have hcase : i < 26 ∨ (100 ≤ i ∧ i < 136) ∨ (200 ≤ i ∧ i < 208) := by
    unfold us at hi
    simp at hi
    omega
  rcases hcase with h9 | ⟨h8, h9⟩ | ⟨h8, h9⟩
  · have hl : i < (Lx q cw I A R Q).length := h9
    have hg9 : (Lx q cw I A R Q)[i]? = some (Lx q cw I A R Q)[i] := List.getElem?_eq_getElem hl
    obtain ⟨-, hp⟩ := Lx_at hg9
    obtain ⟨m1, m2⟩ := h.1 _ (List.mem_of_getElem? hg9)
    rw [hp] at m1 m2
    refine ⟨m1, fun fs e => Lx_n11 _ (List.mem_of_getElem? hg9) fs (m2.symm.trans e)⟩
  · obtain ⟨-, p2, p3, p4⟩ := h.2.1 ((i - 100) / 3) (by omega)
    rcases (show i = 100 + 3 * ((i - 100) / 3) ∨ i = 101 + 3 * ((i - 100) / 3) ∨ i = 102 + 3 * ((i - 100) / 3) by omega) with e | e | e
    · rw [e]; exact ⟨p2.1, fun fs e => by rw [p2.2] at e; cases e⟩
    · rw [e]; exact ⟨p3.1, fun fs e => by rw [p3.2] at e; cases e⟩
    · rw [e]; exact ⟨p4.1, fun fs e => by rw [p4.2] at e; cases e⟩
  · obtain ⟨-, p2⟩ := h.2.2.1 (i - 200) (by omega)
    have e : i = 200 + (i - 200) := by omega
    rw [e]; exact ⟨p2.1, fun fs e => by rw [p2.2] at e; cases e⟩
theorem vch.ce {W : List Nat} (h : vch s s1 W) {y : Nat} {e : CE} (hy : cA K s y = some e) (he : ∀ fs, e ≠ .inr (.inr (11, fs))) : cA K s1 y = some e := by
  rcases cA_or hy with ⟨g1, g2⟩ | ⟨g1, g2⟩
  · rw [cA_w (by rw [h.2.1]; exact g1)]
    rcases h.2.2 y with e1 | ⟨-, -, ⟨fs, e1⟩, -⟩
    · rw [e1, g2]
    · exact absurd (g2.symm.trans e1) (he fs)
  · by_cases hm : y ∈ s.2.1
    · rw [cA_w hm] at hy
      rw [cA_w (by rw [h.2.1]; exact hm)]
      rcases h.2.2 y with e1 | ⟨-, -, ⟨fs, e1⟩, -⟩
      · rw [e1]; exact hy
      · exact absurd ((Option.some.inj hy).symm.trans e1) (he fs)
    · unfold cA
      rw [h.2.1, if_neg hm, if_pos g1, g2]
theorem vch.str {W : List Nat} (h : vch s s1 W) {c : Nat} {cs : List Int32} (hc : strOf K s c = some cs) : strOf K s1 c = some cs := by
  obtain ⟨v, n, fs, g, h1, h2, rfl⟩ := strOf_some hc
  exact strOf_of (h.ce h1 (fun fs e => by cases e)) (h.ce h2 (fun fs e => by cases e))
theorem vch.sm {W N : List Nat} (h : vch s s1 W) (hd : ∀ x ∈ N, x ∉ W) : sm K s s1 N := by
  refine ⟨fun x hx hm => ⟨by rw [h.2.1]; exact hm, ?_⟩, fun c cs hc => h.str hc⟩
  rcases h.2.2 x with e | e
  · exact e
  · exact absurd e.1 (hd x hx)
theorem vch.cx {W : List Nat} (h : vch s s1 W) (hC : Cx K s q cw I A R Q) : Cx K s1 q cw I A R Q := by
  obtain ⟨hF, hw, hz⟩ := hC
  refine ⟨hF.mono (fun b hb => by rw [h.2.1]; exact hb) (fun i hi => ?_), ⟨fun b hb => ?_, fun b hb => ?_⟩, ?_⟩
  · obtain ⟨-, m2⟩ := hF.n11 hi
    rcases h.2.2 (q i) with e | ⟨-, -, ⟨fs, e⟩, -⟩
    · exact e
    · exact absurd e (m2 fs)
  · rw [h.1]; rw [h.2.1] at hb; exact hw.1 b hb
  · rw [h.1, h.2.1]; exact hw.2 b hb
  · intro a v fs ha
    have hb : cA K s a = some (.inr (.inr (12, .ref v :: fs))) := by
      rcases cA_or ha with ⟨g1, g2⟩ | ⟨g1, g2⟩
      · rw [h.2.1] at g1
        rw [cA_w g1]
        rcases h.2.2 a with e | ⟨-, -, -, fs2, e⟩
        · rw [← e, g2]
        · rw [g2] at e; cases e
      · rw [cA_k hw g1, g2]
    obtain ⟨z1, z2, z3, n, g, z4, z5⟩ := hz a v fs hb
    exact ⟨z1, z2, z3, n, g, h.ce z4 (fun fs e => by cases e), z5⟩
/-- what was there before st0's end stays, if only later values are changed -/
theorem le.vch {W : List Nat} (hw : wf K st0) (hz : Rz K st0 q) (hl : le K st0 s) (h : vch s s1 W) (hW : ∀ x ∈ W, st0.1.1 ≤ x) : le K st0 s1 := by
  have hlow : ∀ a e, cA K st0 a = some e → a < st0.1.1 := by
    intro a e ha
    rcases cA_or ha with ⟨g1, -⟩ | ⟨g1, -⟩
    · exact hw.1 a g1
    · exact (hw.2 a g1).1
  have heq : ∀ a, a < st0.1.1 → cA K s1 a = cA K s a := by
    intro a ha
    have e : s1.2.2 a = s.2.2 a := by
      rcases h.2.2 a with e | e
      · exact e
      · have := hW a e.1; omega
    unfold cA
    rw [h.2.1, e]
  refine ⟨fun a c fs hc ha => ?_, fun a v fs ha => ?_⟩
  · rw [heq a (hlow a _ ha)]; exact hl.1 a c fs hc ha
  · obtain ⟨-, -, -, n, g, z4, -⟩ := hz a v fs ha
    rw [heq v (hlow v _ z4)]; exact hl.2 a v fs ha
def nmd (ns : List Int32) (L : List Nd) : List Nd := match L with
  | [] => []
  | x :: xs => (x.1, x.2.1, x.2.2.1, x.2.2.2.1, ns) :: xs
theorem Nv.next {a : Nat} {o num : Int32} {cs ns : List Int32} {fst nx : Option Nat} (h : Nv Zd K s a o num cs ns fst nx) (r : Option Nat) : ∃ s1, sF s a 11 5 (va_rf r) = some s1 ∧ vch s s1 [a] ∧ Nv Zd K s1 a o num cs ns fst r := by
  obtain ⟨k, c, n, h1, h2, h3, h4⟩ := h
  have e := sF_ob (k := 5) (v := va_rf r) h1 (Nat.le_of_ble_eq_true rfl)
  have hv := vch.one (fs1 := [.ref k, .int num, .ref c, .ref n, va_rf fst, va_rf r]) h1
  exact ⟨_, e, hv, k, c, n, ob1_self h1.1, h2, hv.str h3, hv.str h4⟩
theorem Nv.first {a : Nat} {o num : Int32} {cs ns : List Int32} {fst nx : Option Nat} (h : Nv Zd K s a o num cs ns fst nx) (r : Option Nat) : ∃ s1, sF s a 11 4 (va_rf r) = some s1 ∧ vch s s1 [a] ∧ Nv Zd K s1 a o num cs ns r nx := by
  obtain ⟨k, c, n, h1, h2, h3, h4⟩ := h
  have e := sF_ob (k := 4) (v := va_rf r) h1 (Nat.le_of_ble_eq_true rfl)
  have hv := vch.one (fs1 := [.ref k, .int num, .ref c, .ref n, va_rf r, va_rf nx]) h1
  exact ⟨_, e, hv, k, c, n, ob1_self h1.1, h2, hv.str h3, hv.str h4⟩
theorem Nv.name {a : Nat} {o num : Int32} {cs ns : List Int32} {fst nx : Option Nat} (h : Nv Zd K s a o num cs ns fst nx) {m : Nat} {ns1 : List Int32} (hm : strOf K s m = some ns1) : ∃ s1, sF s a 11 3 (va_rf (some m)) = some s1 ∧ vch s s1 [a] ∧ Nv Zd K s1 a o num cs ns1 fst nx := by
  obtain ⟨k, c, n, h1, h2, h3, h4⟩ := h
  have e := sF_ob (k := 3) (v := va_rf (some m)) h1 (Nat.le_of_ble_eq_true rfl)
  have hv := vch.one (fs1 := [.ref k, .int num, .ref c, .ref m, va_rf fst, va_rf nx]) h1
  exact ⟨_, e, hv, k, c, m, ob1_self h1.1, h2, hv.str h3, hv.str hm⟩
theorem Tw.mem {d : Nat} {N : List Nat} {a : Nat} {nx : Option Nat} {L : List Nd} (h : Tw Zd K s d N a nx L) : a ∈ N := by
  cases d with
  | zero => exact h.elim
  | succ d =>
    obtain ⟨o, num, cs, ns, fst, ks, h1, h2, h3, h4, h5, h6⟩ := h
    rw [h5]; exact List.mem_cons_self
theorem Tw.next {d : Nat} {N : List Nat} {a : Nat} {nx : Option Nat} {L : List Nd} (h : Tw Zd K s d N a nx L) (hn : N.Nodup) (r : Option Nat) : ∃ s1, sF s a 11 5 (va_rf r) = some s1 ∧ vch s s1 [a] ∧ Tw Zd K s1 d N a r L := by
  cases d with
  | zero => exact h.elim
  | succ d =>
    obtain ⟨o, num, cs, ns, fst, ks, h1, h2, h3, h4, h5, h6⟩ := h
    obtain ⟨s1, e1, e2, e3⟩ := h1.next r
    rw [h5, List.nodup_cons] at hn
    refine ⟨s1, e1, e2, o, num, cs, ns, fst, ks, e3, Cs.mono ks fst none h2 (fun k hk nx h9 => Tw.mono d _ _ _ _ h9 (e2.sm (fun x hx hxa => hn.1 ?_))), h3, h4, h5, h6⟩
    rw [List.mem_singleton] at hxa
    rw [← hxa]; exact mem_kN hk hx
theorem Tw.name {d : Nat} {N : List Nat} {a : Nat} {nx : Option Nat} {L : List Nd} (h : Tw Zd K s d N a nx L) (hn : N.Nodup) {m : Nat} {ns1 : List Int32} (hm : strOf K s m = some ns1) (ho : okS ns1) : ∃ s1, sF s a 11 3 (va_rf (some m)) = some s1 ∧ vch s s1 [a] ∧ Tw Zd K s1 d N a nx (nmd ns1 L) := by
  cases d with
  | zero => exact h.elim
  | succ d =>
    obtain ⟨o, num, cs, ns, fst, ks, h1, h2, h3, h4, h5, h6⟩ := h
    obtain ⟨s1, e1, e2, e3⟩ := h1.name hm
    rw [h5, List.nodup_cons] at hn
    refine ⟨s1, e1, e2, o, num, cs, ns1, fst, ks, e3, Cs.mono ks fst none h2 (fun k hk nx h9 => Tw.mono d _ _ _ _ h9 (e2.sm (fun x hx hxa => hn.1 ?_))), h3, ⟨h4.1, h4.2.1, ho, h4.2.2.2⟩, h5, by rw [h6]; rfl⟩
    rw [List.mem_singleton] at hxa
    rw [← hxa]; exact mem_kN hk hx
theorem Cs.keep {W : List Nat} {d : Nat} (h : vch s s1 W) {ks : List Kd} {r e : Option Nat} (hc : Cs (Tw Zd K s d) r ks e) (hd : ∀ x ∈ kN ks, x ∉ W) : Cs (Tw Zd K s1 d) r ks e := Cs.mono ks r e hc (fun k hk nx h9 => Tw.mono d _ _ _ _ h9 (h.sm (fun x hx => hd x (mem_kN hk hx))))
theorem ins_l {f : List Nat → Nat → Option Nat → List Nd → Prop} (hr : rdC K s f) {at9 : Int32} {b : Nat} : ∀ (xs : List Kd) (fuel : Nat) (i : Int32) (r : Option Nat), Cs f r xs (some b) → at9.toInt = i.toInt + xs.length → 0 ≤ i.toInt → at9.toInt ≤ 1000 → xs.length < fuel → c_Value_insert_l1 K at9 s fuel (r, i) = some (some b, at9) := by
  have L := nums
  intro xs
  induction xs with
  | nil =>
    intro fuel i r h h1 h0 h9 hf
    have h : r = some b := h
    subst h
    obtain ⟨g, rfl⟩ : ∃ g, fuel = g + 1 := ⟨fuel - 1, by omega⟩
    have e : at9 = i := i32eq (by rw [h1]; simp)
    subst e
    rw [c_Value_insert_l1_s, if_pos (show at9 ≤ at9 from i32le.mpr (Int.le_refl _))]
  | cons k xs ih =>
    rintro fuel i r ⟨h1, nx, h2, h3⟩ h4 h0 h9 hf
    subst h1
    have hl : (k :: xs).length = xs.length + 1 := rfl
    obtain ⟨g, rfl⟩ : ∃ g, fuel = g + 1 := ⟨fuel - 1, by omega⟩
    have k1 : (i + 1).toInt = i.toInt + 1 := by rw [i32add (by omega) (by omega)]; omega
    have hne : ¬ at9 ≤ i := fun e => by have := i32le.mp e; omega
    obtain ⟨c, hc⟩ : ∃ c, nx = some c := by
      cases xs with
      | nil => exact ⟨b, h3⟩
      | cons x xs => exact ⟨x.2.1, h3.1⟩
    have i1 := ih g (i + 1) nx h3 (by omega) (by omega) h9 (by omega)
    rw [c_Value_insert_l1_s, if_neg hne]
    show ((gQ K s k.2.1 11 5).bind fun x35 => nl x35 (some (some k.2.1, i)) (fun a36z => (gQ K s k.2.1 11 5).bind fun x37 => (some (i + 1)).bind fun y38 => c_Value_insert_l1 K at9 s g (x37, y38))) = _
    rw [(hr _ _ _ _ h2).1, Option.bind_some, hc]
    show ((some (some c)).bind fun x37 => (some (i + 1)).bind fun y38 => c_Value_insert_l1 K at9 s g (x37, y38)) = _
    rw [Option.bind_some, Option.bind_some, ← hc]
    exact i1
theorem nodup_not {xs ys : List Nat} (h : (xs ++ ys).Nodup) {x : Nat} (hx : x ∈ xs) : x ∉ ys := fun hy => (List.nodup_append.mp h).2.2 x hx x hy rfl
/-- a part comes between others -/
theorem insert_ok {w : Nat} {o num : Int32} {cs ns : List Int32} {fst nx0 : Option Nat} {d : Nat} {pre post : List Kd} {N : List Nat} {a : Nat} {n9 : Option Nat} {Lp : List Nd} {at9 : Int32} (hw : Nv Zd K s w o num cs ns fst nx0) (hc : Cs (Tw Zd K s d) fst (pre ++ post) none) (hp : Tw Zd K s d N a n9 Lp) (hn : (w :: (kN pre ++ kN post ++ N)).Nodup) (hat : at9.toInt = pre.length) (hl : pre.length ≤ 1000) : ∃ s1 fst1, c_Value_insert Zd K w at9 (some a) s = some s1 ∧ vch s s1 (w :: (kN pre ++ kN post ++ N)) ∧ Nv Zd K s1 w o num cs ns fst1 nx0 ∧ Cs (Tw Zd K s1 d) fst1 (pre ++ (N, a, Lp) :: post) none := by
  have L := nums
  obtain ⟨hnw, hn2⟩ := List.nodup_cons.mp hn
  have hnN := (List.nodup_append.mp hn2).2.1
  have hdN : ∀ x ∈ kN pre ++ kN post, x ∉ N := fun x hx => nodup_not hn2 hx
  have haN := hp.mem
  have haw : a ≠ w := fun e => hnw (by rw [← e]; exact List.mem_append_right _ haN)
  rcases List.eq_nil_or_concat pre with rfl | ⟨pr, k0, rfl⟩
  · -- the first part
    have hz : at9 = 0 := i32eq (by rw [hat]; rfl)
    subst hz
    obtain ⟨s2, e1, e2, e3⟩ := hp.next hnN fst
    have hw2 := hw.mono (e2.sm (N := [w]) (fun x hx hxa => by rw [List.mem_singleton] at hx hxa; exact haw (by rw [← hxa, hx]))) (List.mem_singleton.mpr rfl)
    obtain ⟨s3, f1, f2, f3⟩ := hw2.first (some a)
    refine ⟨s3, some a, ?_, (e2.sub (fun x hx => ?_)).tr (f2.sub (fun x hx => ?_)), f3, ⟨rfl, fst, ?_, ?_⟩⟩
    · simp only [c_Value_insert, show (0 : Int32) ≤ 0 from by decide, if_true, hw.q4, Option.bind_some, e1, f1]
    · rw [List.mem_singleton] at hx
      rw [hx]; exact List.mem_cons_of_mem _ (List.mem_append_right _ haN)
    · rw [List.mem_singleton] at hx
      rw [hx]; exact List.mem_cons_self
    · exact Tw.mono d _ _ _ _ e3 (f2.sm (fun x hx hxw => by rw [List.mem_singleton] at hxw; exact hnw (by rw [← hxw]; exact List.mem_append_right _ hx)))
    · refine Cs.keep f2 (Cs.keep e2 hc (fun x hx hxa => ?_)) (fun x hx hxw => ?_)
      · rw [List.mem_singleton] at hxa
        exact hdN x (List.mem_append_right _ hx) (by rw [hxa]; exact haN)
      · rw [List.mem_singleton] at hxw
        exact hnw (by rw [← hxw]; exact List.mem_append_left _ (List.mem_append_right _ hx))
  · -- behind k0
    rw [List.concat_eq_append] at *
    have hlp : (pr ++ [k0]).length = pr.length + 1 := by rw [List.length_append, List.length_singleton]
    have hz : ¬ at9 ≤ 0 := fun e => by have := i32le.mp e; omega
    obtain ⟨m, hc1, hc2⟩ := (Cs.app (pr ++ [k0]) post fst none).mp hc
    obtain ⟨m1, hc3, hc4⟩ := (Cs.app pr [k0] fst m).mp hc1
    obtain ⟨hm1, nx, hk0, hm⟩ := hc4
    have hm : nx = m := hm
    subst hm
    subst hm1
    have hr : rdC K s (Tw Zd K s d) := rdC_T d
    have hil := ins_l hr (at9 := at9) (b := k0.2.1) pr 4096 1 fst hc3 (by omega) (by decide) (by omega) (by omega)
    have hk0m : k0.2.1 ∈ k0.1 := hk0.mem
    have hkN1 : kN (pr ++ [k0]) = kN pr ++ k0.1 := by rw [kN_app, kN_cons]; show _ = _ ++ _; rw [show kN [] = [] from rfl, List.append_nil]
    rw [hkN1] at hn2 hdN hnw
    have hk0n : k0.1.Nodup := (List.nodup_append.mp (List.nodup_append.mp (List.nodup_append.mp hn2).1).1).2.1
    have hk0a : k0.2.1 ≠ a := fun e => hdN k0.2.1 (List.mem_append_left _ (List.mem_append_right _ hk0m)) (by rw [e]; exact haN)
    obtain ⟨s2, e1, e2, e3⟩ := hp.next hnN nx
    have hk2 := Tw.mono d _ _ _ _ hk0 (e2.sm (fun x hx hxa => by rw [List.mem_singleton] at hxa; exact hdN x (List.mem_append_left _ (List.mem_append_right _ hx)) (by rw [hxa]; exact haN)))
    obtain ⟨s3, f1, f2, f3⟩ := hk2.next hk0n (some a)
    obtain ⟨c, hcf⟩ : ∃ c, fst = some c := by
      cases pr with
      | nil => exact ⟨_, hc3⟩
      | cons x xs => exact ⟨x.2.1, hc3.1⟩
    refine ⟨s3, fst, ?_, (e2.sub (fun x hx => ?_)).tr (f2.sub (fun x hx => ?_)), ?_, ?_⟩
    · rw [hcf] at hil
      have hq4 := hw.q4
      rw [hcf] at hq4
      simp only [c_Value_insert, hz, if_false, hq4, Option.bind_some, nl, hil, (hr _ _ _ _ hk0).1, e1, f1]
    · rw [List.mem_singleton] at hx
      rw [hx]; exact List.mem_cons_of_mem _ (List.mem_append_right _ haN)
    · rw [List.mem_singleton] at hx
      rw [hx, hkN1]; exact List.mem_cons_of_mem _ (List.mem_append_left _ (List.mem_append_left _ (List.mem_append_right _ hk0m)))
    · have h1 := hw.mono (e2.sm (N := [w]) (fun x hx hxa => by rw [List.mem_singleton] at hx hxa; exact haw (by rw [← hxa, hx]))) (List.mem_singleton.mpr rfl)
      exact h1.mono (f2.sm (N := [w]) (fun x hx hxa => by
        rw [List.mem_singleton] at hx hxa
        exact hnw (by rw [← hx, hxa]; exact List.mem_append_left _ (List.mem_append_left _ (List.mem_append_right _ hk0m))))) (List.mem_singleton.mpr rfl)
    · have hnp : ∀ x ∈ kN pr, x ∉ k0.1 := fun x hx => nodup_not (List.nodup_append.mp (List.nodup_append.mp hn2).1).1 hx
      have hnq : ∀ x ∈ k0.1, x ∉ kN post := fun x hx => nodup_not (List.nodup_append.mp hn2).1 (List.mem_append_right _ hx)
      refine (Cs.app (pr ++ [k0]) _ fst none).mpr ⟨some a, (Cs.app pr [k0] fst (some a)).mpr ⟨some k0.2.1, ?_, rfl, some a, f3, rfl⟩, rfl, nx, ?_, ?_⟩
      · refine Cs.keep f2 (Cs.keep e2 hc3 (fun x hx hxa => ?_)) (fun x hx hxw => ?_)
        · rw [List.mem_singleton] at hxa
          exact hdN x (List.mem_append_left _ (List.mem_append_left _ hx)) (by rw [hxa]; exact haN)
        · rw [List.mem_singleton] at hxw
          exact hnp x hx (by rw [hxw]; exact hk0m)
      · exact Tw.mono d _ _ _ _ e3 (f2.sm (fun x hx hxw => by rw [List.mem_singleton] at hxw; exact hdN x (List.mem_append_left _ (List.mem_append_right _ (by rw [hxw]; exact hk0m))) hx))
      · refine Cs.keep f2 (Cs.keep e2 hc2 (fun x hx hxa => ?_)) (fun x hx hxw => ?_)
        · rw [List.mem_singleton] at hxa
          exact hdN x (List.mem_append_right _ hx) (by rw [hxa]; exact haN)
        · rw [List.mem_singleton] at hxw
          exact hnq k0.2.1 hk0m (by rw [← hxw]; exact hx)
/-- a part comes behind all others -/
theorem append_ok {w : Nat} {o num : Int32} {cs ns : List Int32} {fst nx0 : Option Nat} {d : Nat} {ks : List Kd} {N : List Nat} {a : Nat} {n9 : Option Nat} {Lp : List Nd} (hw : Nv Zd K s w o num cs ns fst nx0) (hc : Cs (Tw Zd K s d) fst ks none) (hp : Tw Zd K s d N a n9 Lp) (hn : (w :: (kN ks ++ N)).Nodup) (hl : ks.length ≤ 1000) : ∃ s1 fst1, c_Value_append Zd K w (some a) s = some s1 ∧ vch s s1 (w :: (kN ks ++ N)) ∧ Nv Zd K s1 w o num cs ns fst1 nx0 ∧ Cs (Tw Zd K s1 d) fst1 (ks ++ [(N, a, Lp)]) none := by
  obtain ⟨m, e1, e2⟩ := count_l (rdC_T d) ks 4096 0 fst hc (by omega) (by decide) (by have := nums; omega)
  have hkn : kN ks ++ kN [] = kN ks := by rw [show kN [] = [] from rfl, List.append_nil]
  obtain ⟨s1, fst1, f1, f2, f3, f4⟩ := insert_ok (pre := ks) (post := []) (at9 := m) hw (by rw [List.append_nil]; exact hc) hp (by rw [hkn]; exact hn) (by rw [e2]; have := nums; omega) hl
  rw [hkn] at f2
  refine ⟨s1, fst1, ?_, f2, f3, f4⟩
  simp only [c_Value_append, hw.is, Option.bind_some, c_Value_partCount, hw.q4, e1, f1]
end MUT
