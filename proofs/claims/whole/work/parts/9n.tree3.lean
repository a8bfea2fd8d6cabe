/-! A value written: the class's half; the whole. -/
theorem sw_ok {Zd : Nat → Nat} {K : KE} {st : CS} (hk : kt Zd K) (hw : wf K st) {o : Int32} {i : Nat} (hi : i < 7) (ho : o.toInt = i) : ∃ w : Int32, rA K st (Zd 1) 1 o = some w ∧ (i < 6 → w = Int32.ofNat (i + 1)) ∧ (i = 6 → ∀ j, j < 6 → w ≠ Int32.ofNat (j + 1)) := by
  obtain ⟨⟨h1, n, g, h2, h3, h4, h5⟩, -⟩ := hk
  refine ⟨g i, ?_, h4 i, fun e => by subst e; exact h5⟩
  rw [rA_cA (by rw [cA_k hw h1, h2]) (vp_of (by omega) (by omega)), tnn, ho]
  rfl
section TREEC
variable {Zd : Nat → Nat} {K : KE} {R : Nat → Option Nat} {Q : Nat → Nat → Option Nat} {s0 : CS} {q0 : Nat → Nat} {cw0 : Nat} {I0 : Nat → Int32} {A0 : Nat → Nat → Int32}
theorem WB.wf {T : List Int32} {s : CS} (h : WB K R Q s0 q0 cw0 I0 A0 T s) : wf K s := by
  obtain ⟨q, cw, I, A, hy, -⟩ := h
  exact hy.1.2.1
/-- the class writes an array or an object -/
theorem cont_cw (hz : Wm Zd s0 cw0) {d a kd : Nat} {fst : Option Nat} {fs9 : List Value} {ob : Bool} (ha : cA K s0 a = some (.inr (.inr (11, fs9)))) (hf : gQ K s0 a 11 4 = some fst) (hkd : gQ K s0 a 11 0 = some (some kd)) (hob : (some kd = some (Zd 14)) = (ob = true)) {zs : List (Kd × List Int32)} (hcs : Cs (fT Zd K s0 d) fst (zs.map (fun z => z.1)) none) (hzs : ∀ z ∈ zs, CW Zd K R Q s0 q0 cw0 I0 A0 d z.1.2.1 z.2 ∧ (nmL z.1.2.2).length ≤ 10 ∧ ∃ f9, cA K s0 z.1.2.1 = some (.inr (.inr (11, f9)))) (hl : zs.length ≤ 64) {op cl : Int32} (o1 : 0 ≤ op.toInt ∧ op.toInt ≤ 255) (c1 : 0 ≤ cl.toInt ∧ cl.toInt ≤ 255) {e : Nat} {a2 : Int32} {T0 : List Int32} {s : CS} (he : d ≤ e) (h0 : 0 ≤ a2.toInt) (h8 : a2.toInt + 1 + d ≤ 8) (hw : WB K R Q s0 q0 cw0 I0 A0 T0 s) (hT : T0.length + ([op] ++ tPs ob true zs ++ [cl]).length ≤ 1200) : ∃ s1, (((some (q0 7)).bind fun a48z => (isO K s a48z 2).bind fun _ => (c_StringBuilder_append_C Zd K a48z op s).bind fun r51 => (c_Value_writeParts Zd K (c_Value_write Zd K e) (some a) (some (q0 7)) a2 r51.2).bind fun st53 => (isO K st53 a48z 2).bind fun _ => (c_StringBuilder_append_C Zd K a48z cl st53).bind fun r57 => some r57.2) = some s1) ∧ WB K R Q s0 q0 cw0 I0 A0 (T0 ++ ([op] ++ tPs ob true zs ++ [cl])) s1 := by
  have N := nums
  rw [List.length_append, List.length_append] at hT
  have hT : T0.length + (1 + (tPs ob true zs).length + 1) ≤ 1200 := hT
  obtain ⟨s1, f1, f2⟩ := hw.chr hz (by omega) o1.1 o1.2
  have hnd : (zs.map (fun z => z.1.2.1)).Nodup := by
    have := cs_nodup _ _ hcs
    rw [List.map_map] at this
    exact this
  obtain ⟨s2, g1, g2⟩ := cl_parts (fs9 := fs9) (ob := ob) hz he h0 h8 ha hf hkd hob zs 4096 fst true _ s1 hcs hzs hnd (by omega) (fun _ _ => rfl) (fun e9 => by cases e9) f2 (by rw [List.length_append]; show T0.length + 1 + _ ≤ 1200; omega)
  obtain ⟨s3, k1, k2⟩ := g2.chr hz (by rw [List.length_append, List.length_append]; show T0.length + 1 + _ < 1200; omega) c1.1 c1.2
  have hlt : a2 < 8 := i32lt.mpr (by omega)
  refine ⟨s3, ?_, by simp only [List.append_assoc] at k2 ⊢; exact k2⟩
  simp only [Option.bind_some, hw.is, f1, c_Value_writeParts, hlt, if_true, gQ_eq (cA_le f2.le ha), hf, g1, g2.is, k1]
theorem node_cw (hk : kc Zd K) (ht : kt Zd K) (hz : Wm Zd s0 cw0) {d a kd c9 : Nat} {o num : Int32} {cs ns : List Int32} {n9 : Nat} {fst : Option Nat} {fs9 : List Value} (ha : cA K s0 a = some (.inr (.inr (11, fs9)))) (hkd : gQ K s0 a 11 0 = some (some kd)) (hnum : gI K s0 a 11 1 = some num) (hc9 : gQ K s0 a 11 2 = some (some c9)) (hf : gQ K s0 a 11 4 = some fst) (hord : ordK Zd kd = some o) (hcs9 : strOf K s0 c9 = some cs) (hokc : okS cs) (hnr : -999999 ≤ num.toInt ∧ num.toInt ≤ 999999) {zs : List (Kd × List Int32)} (hp : o.toInt < 5 → zs = []) (hcs : Cs (fT Zd K s0 d) fst (zs.map (fun z => z.1)) none) (hzs : ∀ z ∈ zs, CW Zd K R Q s0 q0 cw0 I0 A0 d z.1.2.1 z.2 ∧ (nmL z.1.2.2).length ≤ 10 ∧ ∃ f9, cA K s0 z.1.2.1 = some (.inr (.inr (11, f9)))) (hl : zs.length ≤ 64) : CW Zd K R Q s0 q0 cw0 I0 A0 (d + 1) a (tHd (o, n9, num, cs, ns) ++ tPs (decide (o = 6)) true zs ++ cls o) := by
  have N := nums
  intro e a2 T0 s he h0 h8 hw hT
  obtain ⟨e, rfl⟩ : ∃ f, e = f + 1 := ⟨e - 1, by omega⟩
  have hca := cA_le hw.le ha
  have r0 : gQ K s a 11 0 = some (some kd) := (gQ_eq hca).trans hkd
  have r1 : gI K s a 11 1 = some num := (gI_eq hca).trans hnum
  have r2 : gQ K s a 11 2 = some (some c9) := (gQ_eq hca).trans hc9
  obtain ⟨i, hi, hkz, hoi⟩ := ordK_some hord
  show ∃ s1, c_Value_write_b Zd K (c_Value_write Zd K e) (some a) (some (q0 7)) a2 s = some s1 ∧ _
  have hob : (some kd = some (Zd 14)) = (decide (o = 6) = true) := by
    have h9 := kd_14 hk hord (i := 6) (by decide)
    rw [h9]
    simp
  have N56 : (5 : Int32).toInt = 5 ∧ (6 : Int32).toInt = 6 := by decide
  match i, hi with
  | 0, _ =>
    have hoi : o = 0 := hoi
    subst hoi
    obtain ⟨w, w1, w2, w3⟩ := sw_ok ht hw.wf (i := 0) (o := 0) (by decide) (by decide)
    have w2 : w = 1 := w2 (by decide)
    subst w2
    have hz0 := hp (by decide)
    subst hz0
    have htx : tHd (0, n9, num, cs, ns) ++ tPs (decide ((0 : Int32) = 6)) true [] ++ cls 0 = [110, 117, 108, 108] := rfl
    rw [htx] at hT ⊢
    obtain ⟨s1, f1, f2⟩ := hw.str hz (kcstr hk (i := 1) rfl s hw.wf) hT
    refine ⟨s1, ?_, f2⟩
    simp only [c_Value_write_b, Option.bind_some, r0, hord, w1, if_false, if_true, hw.is, f1]
  | 1, _ =>
    have hoi : o = 1 := hoi
    subst hoi
    obtain ⟨w, w1, w2, w3⟩ := sw_ok ht hw.wf (i := 1) (o := 1) (by decide) (by decide)
    have w2 : w = 2 := w2 (by decide)
    subst w2
    have hz0 := hp (by decide)
    subst hz0
    have htx : tHd (1, n9, num, cs, ns) ++ tPs (decide ((1 : Int32) = 6)) true [] ++ cls 1 = [116, 114, 117, 101] := rfl
    rw [htx] at hT ⊢
    obtain ⟨s1, f1, f2⟩ := hw.str hz (kcstr hk (i := 2) rfl s hw.wf) hT
    refine ⟨s1, ?_, f2⟩
    simp only [c_Value_write_b, Option.bind_some, r0, hord, w1, show ¬ ((2 : Int32) = 1) from by decide, if_false, if_true, hw.is, f1]
  | 2, _ =>
    have hoi : o = 2 := hoi
    subst hoi
    obtain ⟨w, w1, w2, w3⟩ := sw_ok ht hw.wf (i := 2) (o := 2) (by decide) (by decide)
    have w2 : w = 3 := w2 (by decide)
    subst w2
    have hz0 := hp (by decide)
    subst hz0
    have htx : tHd (2, n9, num, cs, ns) ++ tPs (decide ((2 : Int32) = 6)) true [] ++ cls 2 = [102, 97, 108, 115, 101] := rfl
    rw [htx] at hT ⊢
    obtain ⟨s1, f1, f2⟩ := hw.str hz (kcstr hk (i := 3) rfl s hw.wf) hT
    refine ⟨s1, ?_, f2⟩
    simp only [c_Value_write_b, Option.bind_some, r0, hord, w1, show ¬ ((3 : Int32) = 1) from by decide, show ¬ ((3 : Int32) = 2) from by decide, if_false, if_true, hw.is, f1]
  | 3, _ =>
    have hoi : o = 3 := hoi
    subst hoi
    obtain ⟨w, w1, w2, w3⟩ := sw_ok ht hw.wf (i := 3) (o := 3) (by decide) (by decide)
    have w2 : w = 4 := w2 (by decide)
    subst w2
    have hz0 := hp (by decide)
    subst hz0
    have htx : tHd (3, n9, num, cs, ns) ++ tPs (decide ((3 : Int32) = 6)) true [] ++ cls 3 = tNum num := by
      show tNum num ++ [] ++ [] = _
      rw [List.append_nil, List.append_nil]
    rw [htx] at hT ⊢
    obtain ⟨s1, f1, f2⟩ := hw.num ht hz (num := num) (by omega) hT
    refine ⟨s1, ?_, f2⟩
    simp only [c_Value_write_b, Option.bind_some, r0, hord, w1, show ¬ ((4 : Int32) = 1) from by decide, show ¬ ((4 : Int32) = 2) from by decide, show ¬ ((4 : Int32) = 3) from by decide, if_false, if_true, hw.is, r1, f1]
  | 4, _ =>
    have hoi : o = 4 := hoi
    subst hoi
    obtain ⟨w, w1, w2, w3⟩ := sw_ok ht hw.wf (i := 4) (o := 4) (by decide) (by decide)
    have w2 : w = 5 := w2 (by decide)
    subst w2
    have hz0 := hp (by decide)
    subst hz0
    have htx : tHd (4, n9, num, cs, ns) ++ tPs (decide ((4 : Int32) = 6)) true [] ++ cls 4 = tStr cs := by
      show tStr cs ++ [] ++ [] = _
      rw [List.append_nil, List.append_nil]
    rw [htx] at hT ⊢
    obtain ⟨s1, f1, f2⟩ := hw.qs hz hcs9 hokc.1 hT
    refine ⟨s1, ?_, f2⟩
    simp only [c_Value_write_b, Option.bind_some, r0, hord, w1, show ¬ ((5 : Int32) = 1) from by decide, show ¬ ((5 : Int32) = 2) from by decide, show ¬ ((5 : Int32) = 3) from by decide, show ¬ ((5 : Int32) = 4) from by decide, if_false, if_true, r2, f1]
  | 5, _ =>
    have hoi : o = 5 := hoi
    subst hoi
    obtain ⟨w, w1, w2, w3⟩ := sw_ok ht hw.wf (i := 5) (o := 5) (by decide) (by decide)
    have w2 : w = 6 := w2 (by decide)
    subst w2
    have htx : tHd (5, n9, num, cs, ns) ++ tPs (decide ((5 : Int32) = 6)) true zs ++ cls 5 = [91] ++ tPs (decide ((5 : Int32) = 6)) true zs ++ [93] := rfl
    rw [htx] at hT ⊢
    obtain ⟨s1, f1, f2⟩ := cont_cw hz ha hf hkd hob hcs hzs hl (op := 91) (cl := 93) (by decide) (by decide) (e := e) (a2 := a2) (by omega) h0 (by omega) hw hT
    refine ⟨s1, ?_, f2⟩
    simp only [Option.bind_some] at f1
    simp only [c_Value_write_b, Option.bind_some, r0, hord, w1, show ¬ ((6 : Int32) = 1) from by decide, show ¬ ((6 : Int32) = 2) from by decide, show ¬ ((6 : Int32) = 3) from by decide, show ¬ ((6 : Int32) = 4) from by decide, show ¬ ((6 : Int32) = 5) from by decide, if_false, if_true, f1]
  | 6, _ =>
    have hoi : o = 6 := hoi
    subst hoi
    obtain ⟨w, w1, w2, w3⟩ := sw_ok ht hw.wf (i := 6) (o := 6) (by decide) (by decide)
    have w3 := w3 rfl
    have v1 : ¬ w = 1 := w3 0 (by decide)
    have v2 : ¬ w = 2 := w3 1 (by decide)
    have v3 : ¬ w = 3 := w3 2 (by decide)
    have v4 : ¬ w = 4 := w3 3 (by decide)
    have v5 : ¬ w = 5 := w3 4 (by decide)
    have v6 : ¬ w = 6 := w3 5 (by decide)
    have htx : tHd (6, n9, num, cs, ns) ++ tPs (decide ((6 : Int32) = 6)) true zs ++ cls 6 = [123] ++ tPs (decide ((6 : Int32) = 6)) true zs ++ [125] := rfl
    rw [htx] at hT ⊢
    obtain ⟨s1, f1, f2⟩ := cont_cw hz ha hf hkd hob hcs hzs hl (op := 123) (cl := 125) (by decide) (by decide) (e := e) (a2 := a2) (by omega) h0 (by omega) hw hT
    refine ⟨s1, ?_, f2⟩
    simp only [Option.bind_some] at f1
    simp only [c_Value_write_b, Option.bind_some, r0, hord, w1, v1, v2, v3, v4, v5, v6, if_false, f1]
  | n + 7, hi => omega
end TREEC
section TREEB
variable {Zd : Nat → Nat} {K : KE} {R : Nat → Option Nat} {Q : Nat → Nat → Option Nat} {s0 : CS} {q0 : Nat → Nat} {cw0 : Nat} {I0 : Nat → Int32} {A0 : Nat → Nat → Int32} {LL : List Nd} {m0 : MS} {a0 : Nat} {b y2 : Int32}
theorem tree_tw (hk : kc Zd K) (ht : kt Zd K) (hz : Wm Zd s0 cw0) (h : RW LL m0 a0 b) (hy : y2.toInt = a0 + LL.length) : ∀ (d a : Nat) (L : List Nd), treeOf Zd K s0 d a = some L → ∃ T, T.length + 24 ≤ 46 * L.length ∧ CW Zd K R Q s0 q0 cw0 I0 A0 d a T ∧ MW LL m0 a0 b y2 L T := by
  intro d
  induction d with
  | zero => intro a L h9; cases h9
  | succ d ih =>
    intro a L hL
    obtain ⟨o, num, cs, ns, fst, nx, ks, ⟨k, c, n, fs, u1, u2, u3, u4, u5, u6, u7, u8, u9⟩, hcs, hlen, hok, rfl⟩ := tree_node hk.2.2 hL
    obtain ⟨zs, hz1, hz2⟩ := ex_zs (p := fun k T => T.length + 24 ≤ 46 * k.2.2.length ∧ CW Zd K R Q s0 q0 cw0 I0 A0 d k.2.1 T ∧ MW LL m0 a0 b y2 k.2.2 T ∧ treeOf Zd K s0 d k.2.1 = some k.2.2) ks (fun k9 hk9 => by
      obtain ⟨nx9, h9⟩ := Cs.all ks fst none hcs k9 hk9
      obtain ⟨T, t1, t2, t3⟩ := ih k9.2.1 k9.2.2 h9.1
      exact ⟨T, t1, t2, t3, h9.1⟩)
    have hzL : (kL ks).flatten = zL zs := by
      unfold kL zL
      rw [← hz1, List.map_map]
      rfl
    have hkz : (kL ks = []) → zs = [] := fun e9 => by
      have : (kL ks).length = 0 := by rw [e9]; rfl
      unfold kL at this
      rw [List.length_map, ← hz1, List.length_map] at this
      exact List.eq_nil_of_length_eq_zero this
    rw [← hz1] at hcs hlen
    rw [List.length_map] at hlen
    have hzs : ∀ z ∈ zs, CW Zd K R Q s0 q0 cw0 I0 A0 d z.1.2.1 z.2 ∧ (nmL z.1.2.2).length ≤ 10 ∧ ∃ f9, cA K s0 z.1.2.1 = some (.inr (.inr (11, f9))) := by
      intro z hz9
      obtain ⟨t1, t2, t3, t4⟩ := hz2 z hz9
      obtain ⟨nm, -, -, v3⟩ := tree_nm t4
      refine ⟨t2, v3.1, ?_⟩
      obtain ⟨f9, hob9⟩ := tree_ob hk.2.2 t4
      exact ⟨f9, by rw [cA_w hob9.1, hob9.2]⟩
    have hmz : ∀ z ∈ zs, MW LL m0 a0 b y2 z.1.2.2 z.2 ∧ okE z.1.2.2 ∧ 0 < z.1.2.2.length := by
      intro z hz9
      obtain ⟨t1, t2, t3, t4⟩ := hz2 z hz9
      exact ⟨t3, tree_end hk.2.2 _ _ _ t4, by omega⟩
    have hr := ordK_r u7
    have hpz : o.toInt < 5 → zs = [] := fun e9 => hkz (hok.1 e9)
    rw [hzL]
    refine ⟨tHd (o, 1 + (zL zs).length, num, cs, ns) ++ tPs (decide (o = 6)) true zs ++ cls o, ?_, node_cw hk ht hz u1 u2 u3 u4 u6 u7 u8 hok.2.1 hok.2.2.2.1 hpz hcs hzs hlen, node_mw h hy (x := (o, 1 + (zL zs).length, num, cs, ns)) rfl hpz hmz⟩
    have e1 := tPs_len (decide (o = 6)) zs true (fun z hz9 => ⟨(hz2 z hz9).1, (hzs z hz9).2.1⟩)
    rw [List.length_append, List.length_append, List.length_cons]
    by_cases h5 : o < 5
    · have hz0 := hpz (by have := i32lt.mp h5; rw [show (5 : Int32).toInt = 5 from by decide] at this; exact this)
      subst hz0
      have e2 := tHd_len (x := (o, 1 + (zL []).length, num, cs, ns)) hok.2.1
      have e3 : cls o = [] := by unfold cls; rw [if_pos h5]
      rw [e3]
      have e4 : (tPs (decide (o = 6)) true []).length = 0 := rfl
      have e5 : (zL ([] : List (Kd × List Int32))).length = 0 := rfl
      rw [e5] at e2
      rw [e4, e5]
      show _ + 0 + 0 + 24 ≤ 46 * (0 + 1)
      omega
    · have e2 : (tHd (o, 1 + (zL zs).length, num, cs, ns)).length = 1 := by
        have h9 : ¬ o.toInt < 5 := fun e => h5 (i32lt.mpr (by rw [show (5 : Int32).toInt = 5 from by decide]; exact e))
        rcases (show o.toInt = 5 ∨ o.toInt = 6 by omega) with e | e
        · have : o = 5 := i32eq (by rw [e]; decide)
          subst this; rfl
        · have : o = 6 := i32eq (by rw [e]; decide)
          subst this; rfl
      have e3 : (cls o).length = 1 := by unfold cls; rw [if_neg h5]; rfl
      omega
end TREEB
