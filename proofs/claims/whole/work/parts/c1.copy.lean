/-! A value copied. -/
theorem nmd_self {L : List Nd} (h : okL L) : nmd (nmL L) (nmd [] L) = L := by
  obtain ⟨⟨x, xs, e, -⟩, -⟩ := h
  subst e
  rfl
section COPY
variable {Zd : Nat → Nat} {K : KE} {q : Nat → Nat} {cw : Nat} {I : Nat → Int32} {A : Nat → Nat → Int32} {R : Nat → Option Nat} {Q : Nat → Nat → Option Nat}
/-- what copying a value comes to -/
def CP (Zd : Nat → Nat) (K : KE) (q : Nat → Nat) (cw : Nat) (I : Nat → Int32) (A : Nat → Nat → Int32) (R : Nat → Option Nat) (Q : Nat → Nat → Option Nat) (s : CS) (d : Nat) (L : List Nd) (cv : Option (Option Nat × CS)) : Prop := ∃ s1 N, cv = some (some s.1.1, s1) ∧ Cx K s1 q cw I A R Q ∧ le K s s1 ∧ s1.1.1 = s.1.1 + L.length ∧ s1.1.2 = s.1.2 + 6 * L.length ∧ Tw Zd K s1 d N s.1.1 none (nmd [] L) ∧ N.Nodup ∧ ∀ x ∈ N, s.1.1 ≤ x
theorem copy_l {d w : Nat} {fv : Option Nat → Int32 → CS → Option (Option Nat × CS)} {a1 : Int32} {s0 : CS} {o num : Int32} {cs : List Int32} (hk : wk K) (hw0 : wf K s0) (hz0 : Rz K s0 q) (hfv : ∀ a L s, treeOf Zd K s d a = some L → Cx K s q cw I A R Q → s.1.1 + L.length ≤ Zd 6 → s.1.2 + 6 * L.length ≤ Zd 7 → CP Zd K q cw I A R Q s d L (fv (some a) (a1 + 1) s)) :
    ∀ (ks : List Kd) (fuel : Nat) (r last : Option Nat) (dn : List Kd) (sk : CS) (fst : Option Nat), Cs (fT Zd K s0 d) r ks none → ks.length < fuel → Cx K sk q cw I A R Q → le K s0 sk → s0.1.1 ≤ sk.1.1 → Nv Zd K sk w o num cs [] fst none → Cs (Tw Zd K sk d) fst dn none → (w :: kN dn).Nodup → (∀ x ∈ w :: kN dn, s0.1.1 ≤ x ∧ x < sk.1.1) → ((dn = [] ∧ last = none) ∨ ∃ pr p, dn = pr ++ [p] ∧ last = some p.2.1) → sk.1.1 + (kL ks).flatten.length ≤ Zd 6 → sk.1.2 + 6 * (kL ks).flatten.length ≤ Zd 7 →
    ∃ last1 s1 fst1 nw, c_Value_copyOf_l1 K fv a1 w fuel (last, r, sk) = some (last1, none, s1) ∧ Cx K s1 q cw I A R Q ∧ le K s0 s1 ∧ s1.1.1 = sk.1.1 + (kL ks).flatten.length ∧ s1.1.2 = sk.1.2 + 6 * (kL ks).flatten.length ∧ Nv Zd K s1 w o num cs [] fst1 none ∧ Cs (Tw Zd K s1 d) fst1 (dn ++ nw) none ∧ kL nw = kL ks ∧ (w :: kN (dn ++ nw)).Nodup ∧ ∀ x ∈ w :: kN (dn ++ nw), s0.1.1 ≤ x ∧ x < s1.1.1 := by
  intro ks
  induction ks with
  | nil =>
    intro fuel r last dn sk fst h hf hC hl hsz hN hc hn hb hlast z6 z7
    obtain ⟨f, rfl⟩ : ∃ f, fuel = f + 1 := ⟨fuel - 1, by have : 0 < fuel := hf; omega⟩
    have h : r = none := h
    subst h
    refine ⟨last, sk, fst, [], ?_, hC, hl, rfl, rfl, hN, by rw [List.append_nil]; exact hc, rfl, by rw [List.append_nil]; exact hn, by rw [List.append_nil]; exact hb⟩
    rw [c_Value_copyOf_l1_s]
    rfl
  | cons k ks ih =>
    intro fuel r last dn sk fst h hf hC hl hsz hN hc hn hb hlast z6 z7
    obtain ⟨f, rfl⟩ : ∃ f, fuel = f + 1 := ⟨fuel - 1, by have : ks.length + 1 < fuel := hf; omega⟩
    have hf : ks.length < f := Nat.lt_of_succ_lt_succ hf
    obtain ⟨h1, nx, ⟨ht, hq5⟩, h3⟩ := h
    subst h1
    rw [kL_cons, List.flatten_cons, List.length_append] at z6 z7
    have hoL := tree_ok d _ _ ht
    obtain ⟨s1, N', e1, e2, e3, e4, e5, e6, e7, e8⟩ := hfv k.2.1 k.2.2 sk (hl.tree d _ _ ht) hC (by omega) (by omega)
    have hl1 : le K s0 s1 := hl.tr e3
    obtain ⟨nn, q3, q4, q5⟩ := tree_nm (hl1.tree d _ _ ht)
    -- its name
    obtain ⟨s2, f1, f2, f3⟩ := e6.name e7 q4 q5
    rw [nmd_self hoL] at f3
    have hC2 := f2.cx e2
    have htw : sk.1.1 ∈ N' := e6.mem
    have hl2 : le K s0 s2 := le.vch hw0 hz0 hl1 f2 (fun x hx => by rw [List.mem_singleton] at hx; omega)
    have hs2 : s2.1 = s1.1 := f2.1
    have hdis : ∀ x ∈ w :: kN dn, x ∉ N' := fun x hx hx2 => by have := (hb x hx).2; have := e8 x hx2; omega
    have hN1 := hN.le hk e3
    have hc1 : Cs (Tw Zd K s1 d) fst dn none := Cs.mono dn fst none hc (fun y _ nx9 h9 => Tw.le hk e3 _ _ _ _ _ h9)
    have hoff : ∀ x ∈ w :: kN dn, x ∉ [sk.1.1] := fun x hx hx2 => by rw [List.mem_singleton] at hx2; exact hdis x hx (by rw [hx2]; exact htw)
    have hN2 := hN1.mono (f2.sm (K := K) (N := [w]) (fun x hx => by rw [List.mem_singleton] at hx; rw [hx]; exact hoff w List.mem_cons_self)) (List.mem_singleton.mpr rfl)
    have hc2 : Cs (Tw Zd K s2 d) fst dn none := Cs.keep f2 hc1 (fun x hx => hoff x (List.mem_cons_of_mem _ hx))
    have hNd : ∀ x ∈ N', x ∈ s2.2.1 := Tw.dom _ _ _ _ _ f3
    have hN'b : ∀ x ∈ N', s0.1.1 ≤ x ∧ x < s2.1.1 := fun x hx => ⟨by have := e8 x hx; omega, hC2.2.1.1 x (hNd x hx)⟩
    have hkNd : kN (dn ++ [(N', sk.1.1, k.2.2)]) = kN dn ++ N' := by rw [kN_app, kN_cons]; show _ ++ (_ ++ []) = _; rw [List.append_nil]
    have hnd2 : (w :: kN (dn ++ [(N', sk.1.1, k.2.2)])).Nodup := by
      rw [hkNd]
      obtain ⟨n1, n2⟩ := List.nodup_cons.mp hn
      refine List.nodup_cons.mpr ⟨fun h9 => ?_, List.nodup_append.mpr ⟨n2, e7, fun x hx y hy e9 => ?_⟩⟩
      · rcases List.mem_append.mp h9 with h8 | h8
        · exact n1 h8
        · exact hdis w List.mem_cons_self h8
      · exact hdis x (List.mem_cons_of_mem _ hx) (by rw [e9]; exact hy)
    -- the link
    obtain ⟨s3, fst3, g1, g2, g3, g4⟩ : ∃ s3 fst3, (nl last ((sF s2 w 11 4 (va_rf (some sk.1.1))).bind fun st44 => some st44) (fun a43z => (sF s2 a43z 11 5 (va_rf (some sk.1.1))).bind fun st45 => some st45)) = some s3 ∧ (∃ W, vch s2 s3 W ∧ ∀ x ∈ W, s0.1.1 ≤ x) ∧ Nv Zd K s3 w o num cs [] fst3 none ∧ Cs (Tw Zd K s3 d) fst3 (dn ++ [(N', sk.1.1, k.2.2)]) none := by
      rcases hlast with ⟨rfl, rfl⟩ | ⟨pr, p, rfl, rfl⟩
      · obtain ⟨s3, y1, y2, y3⟩ := hN2.first (some sk.1.1)
        refine ⟨s3, some sk.1.1, by simp only [nl, y1, Option.bind_some], ⟨[w], y2, fun x hx => by rw [List.mem_singleton] at hx; rw [hx]; exact (hb w List.mem_cons_self).1⟩, y3, rfl, none, ?_, rfl⟩
        exact Tw.mono d _ _ _ _ f3 (y2.sm (fun x hx hx2 => by rw [List.mem_singleton] at hx2; exact hdis w List.mem_cons_self (by rw [← hx2]; exact hx)))
      · obtain ⟨m, c4, c5, nxp, c6, c7⟩ := (Cs.app pr [p] fst none).mp hc2
        subst c5
        have c7 : nxp = none := c7
        subst c7
        have hkN1 : kN (pr ++ [p]) = kN pr ++ p.1 := by rw [kN_app, kN_cons]; show _ = _ ++ _; rw [show kN [] = [] from rfl, List.append_nil]
        have hpm : p.2.1 ∈ p.1 := c6.mem
        have hpk : ∀ x ∈ p.1, x ∈ kN (pr ++ [p]) := fun x hx => by rw [hkN1]; exact List.mem_append_right _ hx
        obtain ⟨n1, n2⟩ := List.nodup_cons.mp hn
        have n2b := n2
        rw [hkN1] at n2b
        obtain ⟨s3, y1, y2, y3⟩ := c6.next (List.nodup_append.mp n2b).2.1 (some sk.1.1)
        refine ⟨s3, fst, by simp only [nl, y1, Option.bind_some], ⟨[p.2.1], y2, fun x hx => by rw [List.mem_singleton] at hx; rw [hx]; exact (hb _ (List.mem_cons_of_mem _ (hpk _ hpm))).1⟩, ?_, ?_⟩
        · exact hN2.mono (y2.sm (N := [w]) (fun x hx hxa => by
            rw [List.mem_singleton] at hx hxa
            exact n1 (by rw [← hx, hxa]; exact hpk _ hpm))) (List.mem_singleton.mpr rfl)
        · refine (Cs.app (pr ++ [p]) [(N', sk.1.1, k.2.2)] fst none).mpr ⟨some sk.1.1, (Cs.app pr [p] fst (some sk.1.1)).mpr ⟨some p.2.1, Cs.keep y2 c4 (fun x hx hxw => ?_), rfl, some sk.1.1, y3, rfl⟩, rfl, none, ?_, rfl⟩
          · rw [List.mem_singleton] at hxw
            exact nodup_not n2b hx (by rw [hxw]; exact hpm)
          · exact Tw.mono d _ _ _ _ f3 (y2.sm (fun x hx hx2 => by rw [List.mem_singleton] at hx2; exact hdis p.2.1 (List.mem_cons_of_mem _ (hpk _ hpm)) (by rw [← hx2]; exact hx)))
    obtain ⟨W, v1, v2⟩ := g2
    have hC3 := v1.cx hC2
    have hl3 : le K s0 s3 := le.vch hw0 hz0 hl2 v1 v2
    have hs3 : s3.1 = s2.1 := v1.1
    have hx42 : gQ K s3 k.2.1 11 5 = some nx := hl3.fQ (Or.inl rfl) hq5
    obtain ⟨last1, s4, fst4, nw, j1, j2, j3, j4, j5, j6, j7, j8, j9, j10⟩ := ih f nx (some sk.1.1) (dn ++ [(N', sk.1.1, k.2.2)]) s3 fst3 h3 hf hC3 hl3 (by rw [hs3, hs2]; omega) g3 g4 hnd2 (fun x hx => by
      rw [hkNd] at hx
      rw [hs3]
      rcases List.mem_cons.mp hx with e9 | e9
      · rw [e9]
        have := hb w List.mem_cons_self
        rw [hs2]; omega
      · rcases List.mem_append.mp e9 with e8 | e8
        · have := hb x (List.mem_cons_of_mem _ e8)
          rw [hs2]; omega
        · exact hN'b x e8) (Or.inr ⟨dn, _, rfl, rfl⟩) (by rw [hs3, hs2, e4]; omega) (by rw [hs3, hs2, e5]; omega)
    refine ⟨last1, s4, fst4, (N', sk.1.1, k.2.2) :: nw, ?_, j2, j3, ?_, ?_, j6, ?_, ?_, ?_, ?_⟩
    · rw [c_Value_copyOf_l1_s]
      simp only [nl, Option.bind_some, e1, q3, f1]
      have g1' := g1
      simp only [nl] at g1'
      rw [g1', Option.bind_some, hx42, Option.bind_some]
      exact j1
    · rw [j4, hs3, hs2, e4, kL_cons, List.flatten_cons, List.length_append]; omega
    · rw [j5, hs3, hs2, e5, kL_cons, List.flatten_cons, List.length_append]; omega
    · rw [List.append_assoc] at j7; exact j7
    · rw [kL_cons, kL_cons, j8]
    · rw [List.append_assoc] at j9; exact j9
    · rw [List.append_assoc] at j10; exact j10
theorem copy_ok9 (hc : kc Zd K) : ∀ (d e a : Nat) (L : List Nd) (a1 : Int32) (s : CS), treeOf Zd K s d a = some L → d ≤ e → 0 ≤ a1.toInt → a1.toInt + d ≤ 8 → Cx K s q cw I A R Q → s.1.1 + L.length ≤ Zd 6 → s.1.2 + 6 * L.length ≤ Zd 7 → CP Zd K q cw I A R Q s d L (c_Value_copyOf Zd K e (some a) a1 s) := by
  have Nn := nums
  intro d
  induction d with
  | zero => intro e a L a1 s h; cases h
  | succ d ih =>
    intro e a L a1 s h he h0 h9 hC z6 z7
    obtain ⟨e, rfl⟩ : ∃ g, e = g + 1 := ⟨e - 1, by omega⟩
    obtain ⟨fs0, hob⟩ := tree_ob hc.2.2 h
    have hdp : ∀ (o num : Int32) (cs ns : List Int32) (xs : List (List Nd)), L = (o, 1 + xs.flatten.length, num, cs, ns) :: xs.flatten → (5 ≤ o.toInt → 0 < d) := by
      intro o num cs ns xs hL h5
      unfold treeOf at h
      obtain ⟨kd, y1, h⟩ := ob h
      obtain ⟨k, y2, h⟩ := ob h
      obtain ⟨o2, y3, h⟩ := ob h
      obtain ⟨num2, y4, h⟩ := ob h
      obtain ⟨ch, y5, h⟩ := ob h
      obtain ⟨c, y6, h⟩ := ob h
      obtain ⟨cs2, y7, h⟩ := ob h
      obtain ⟨nm, y8, h⟩ := ob h
      obtain ⟨n, y9, h⟩ := ob h
      obtain ⟨ns2, y10, h⟩ := ob h
      obtain ⟨fst, y11, h⟩ := ob h
      obtain ⟨xs2, y12, h⟩ := ob h
      obtain ⟨z1, z2⟩ := ite_of h
      rw [hL] at z2
      have : o2 = o := congrArg (fun x => x.1) (List.cons.inj z2).1
      exact z1.2 (by rw [this]; exact h5)
    obtain ⟨o, num, cs, ns, fst, nx, ks, ⟨k, c, n, fs, u1, u2, u3, u4, u5, u6, u7, u8, u9⟩, hcs, hlen, hok, hL⟩ := tree_node hc.2.2 h
    obtain ⟨i, hi, hk8, ho⟩ := ordK_some u7
    subst hk8
    have hLl : L.length = (kL ks).flatten.length + 1 := by rw [hL, List.length_cons]
    obtain ⟨s1, s2, e1, e2, e3, e4, e5, e6⟩ := new_val hc hC hi (num := num) u8 (by omega) (by omega)
    have hs1 : s1 = nO s 11 6 [.null, .int 0, .null, .null, .null, .null] := (nOc_some e1).2.2
    have hl1 : le K s s1 := (hC.new1 (s1 := s1) (fs := [.null, .int 0, .null, .null, .null, .null]) (by rw [hs1]; rfl) (by rw [hs1]; rfl) (fun b hb => by rw [hs1]; exact va_up_ne _ _ hb) (by rw [hs1]; exact va_up_self _ _ _)).2
    rw [← ho] at e6
    have h8 : ¬ (8 : Int32) ≤ a1 := fun e9 => by have := i32le.mp e9; omega
    have k1 : (a1 + 1).toInt = a1.toInt + 1 := by rw [i32add (by omega) (by omega)]; omega
    obtain ⟨last1, s3, fst3, nw, j1, j2, j3, j4, j5, j6, j7, j8, j9, j10⟩ := copy_l (Zd := Zd) (d := d) (w := s.1.1) (fv := c_Value_copyOf Zd K e) (a1 := a1) (s0 := s) (o := o) (num := num) (cs := cs) hc.2.2 hC.2.1 hC.2.2 (fun a9 L9 s9 y1 y2 y3 y4 => ih e a9 L9 (a1 + 1) s9 y1 (by omega) (by omega) (by omega) y2 y3 y4) ks 4096 fst none [] s2 none hcs (by omega) e3 e4 (by rw [e5]; exact Nat.le_succ _) e6 rfl (by simp [kN]) (fun x hx => by
      have hx : x = s.1.1 := by simpa [kN] using hx
      rw [hx, e5]
      exact ⟨Nat.le_refl _, Nat.lt_succ_self _⟩) (Or.inl ⟨rfl, rfl⟩) (by rw [e5]; show s.1.1 + 1 + _ ≤ _; omega) (by rw [e5]; show s.1.2 + 6 + _ ≤ _; omega)
    rw [List.nil_append] at j7 j9 j10
    have hnl : nw.length = ks.length := by
      have := congrArg List.length j8
      unfold kL at this
      rw [List.length_map, List.length_map] at this
      exact this
    refine ⟨s3, s.1.1 :: kN nw, ?_, j2, j3, by rw [j4, e5]; show s.1.1 + 1 + _ = _; omega, by rw [j5, e5]; show s.1.2 + 6 + _ = _; omega, ?_, j9, fun x hx => (j10 x hx).1⟩
    · show c_Value_copyOf_b Zd K (c_Value_copyOf Zd K e) (some a) a1 s = _
      simp only [c_Value_copyOf_b, Option.bind_some, e1, hl1.fQ (Or.inl rfl) u2, hl1.fI (Or.inl rfl) u3, hl1.fQ (Or.inl rfl) u4, e2, h8, if_false, e4.fQ (Or.inl rfl) u6, j1]
    · refine ⟨o, num, cs, [], fst3, nw, j6, j7, ⟨by omega, ?_⟩, ⟨?_, hok.2.1, ⟨by decide, fun c9 h9 => (by cases h9)⟩, hok.2.2.2.1, ?_⟩, rfl, ?_⟩
      · exact hdp o num cs ns (kL ks) hL
      · rw [j8]; exact hok.1
      · rw [j8]; exact hok.2.2.2.2
      · rw [j8, hL]; rfl
end COPY
