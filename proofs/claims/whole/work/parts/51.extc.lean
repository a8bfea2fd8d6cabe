theorem d1_2_0 : decode prog_1_method_2_code 0 = .ok (.aload_n 0, 1) := by decide +kernel
theorem d1_2_1 : decode prog_1_method_2_code 1 = .ok (.getfield 47, 3) := by decide +kernel
theorem d1_2_4 : decode prog_1_method_2_code 4 = .ok (.getfield 58, 3) := by decide +kernel
theorem kn247 : (Jvm.Cond.fieldLinkNest "PagedValues" (58 : Nat) "PagedValues$Store" "stopped" "Z" "PagedValues") ∈ NW := tn_2 7 rfl rfl
theorem d1_2_7 : decode prog_1_method_2_code 7 = .ok (.ifCond .eq 6, 3) := by decide +kernel
theorem d1_2_13 : decode prog_1_method_2_code 13 = .ok (.aload_n 0, 1) := by decide +kernel
theorem d1_2_14 : decode prog_1_method_2_code 14 = .ok (.getfield 10, 3) := by decide +kernel
theorem d1_2_17 : decode prog_1_method_2_code 17 = .ok (.iload_n 1, 1) := by decide +kernel
theorem d1_2_18 : decode prog_1_method_2_code 18 = .ok (.invokevirtual 62, 3) := by decide +kernel
theorem k299 : (Jvm.Cond.code ({ cls := "PagedValues$Text", name := "add", desc := "(C)Z" } : Jvm.MethodName) prog_11_method_2_code (2 : Nat) (Option.some Jvm.ClassFile.FieldType.boolean)) ∈ TB := tk_2 59 rfl rfl
theorem k296 : (Jvm.Cond.methodLink "PagedValues" (62 : Nat) ({ cls := "PagedValues$Text", name := "add", desc := "(C)Z" } : Jvm.MethodName)) ∈ TB := tk_2 56 rfl rfl
theorem k297 : (Jvm.Cond.instanceMethod ({ cls := "PagedValues$Text", name := "add", desc := "(C)Z" } : Jvm.MethodName)) ∈ TB := tk_2 57 rfl rfl
theorem k298 : (Jvm.Cond.selects "PagedValues$Text" ({ cls := "PagedValues$Text", name := "add", desc := "(C)Z" } : Jvm.MethodName) ({ cls := "PagedValues$Text", name := "add", desc := "(C)Z" } : Jvm.MethodName)) ∈ TB := tk_2 58 rfl rfl
theorem d1_2_21 : decode prog_1_method_2_code 21 = .ok (.ifCond .eq 13, 3) := by decide +kernel
theorem d1_2_34 : decode prog_1_method_2_code 34 = .ok (.iconst (-1), 1) := by decide +kernel
theorem d1_2_24 : decode prog_1_method_2_code 24 = .ok (.aload_n 0, 1) := by decide +kernel
theorem d1_2_25 : decode prog_1_method_2_code 25 = .ok (.getfield 10, 3) := by decide +kernel
theorem d1_2_28 : decode prog_1_method_2_code 28 = .ok (.getfield 66, 3) := by decide +kernel
theorem kn78 : (Jvm.Cond.fieldLinkNest "PagedValues" (66 : Nat) "PagedValues$Text" "length" "I" "PagedValues") ∈ NW := tn_1 78 rfl rfl
theorem d1_2_31 : decode prog_1_method_2_code 31 = .ok (.goto 4, 3) := by decide +kernel
theorem d1_2_35 : decode prog_1_method_2_code 35 = .ok (.ireturn, 1) := by decide +kernel
theorem d1_2_10 : decode prog_1_method_2_code 10 = .ok (.bipush (-9), 2) := by decide +kernel
theorem d1_2_12 : decode prog_1_method_2_code 12 = .ok (.ireturn, 1) := by decide +kernel
def y1_2 : MethodName := { cls := "PagedValues", name := "type", desc := "(C)I" }
def c_PagedValues_type (Zd : Nat → Nat) (K : KE) (o : Nat) (a0 : Int32) (st : CS) : Option (Int32 × CS) := (gQ K st o 0 5).bind fun x11 => x11.bind fun a12z => (gI K st a12z 9 8).bind fun x13 => if x13 = (0 : Int32) then ((gQ K st o 0 0).bind fun x15 => x15.bind fun a16z => (isO K st a16z 1).bind fun _ => (c_Text_add Zd K a16z a0 st).bind fun r19 => (if r19.1 = (0 : Int32) then (some ((-1) : Int32)) else ((gQ K r19.2 o 0 0).bind fun x23 => x23.bind fun a24z => (gI K r19.2 a24z 1 2).bind fun x25 => some x25)).bind fun e20 => some (e20, r19.2)) else (some (((-9) : Int32), st))
set_option maxHeartbeats 4000000 in
set_option maxRecDepth 100000 in
theorem cc_PagedValues_type (l : Launch) (G : Gk) (Zd : Nat → Nat) (K : KE) (o : Nat) (a0 : Int32) (st : CS) (r0 : Int32) (st0 : CS) (hm : c_PagedValues_type Zd K o a0 st = some (r0, st0)) : CT l y1_2 prog_1_method_2_code 2 (some .int) G Zd K (1) [.ref o, .int a0] st (hI G Zd r0 st0) := by
  refine goH (d := 1) (y := y1_2) (cc := prog_1_method_2_code) (maxL := 2) (ret := (some .int)) (av := [.ref o, .int a0]) (Qc := hI G Zd r0 st0) "PagedValues" rfl (by decide) (c1_c rfl (c1_c rfl c1_n)) (Nat.le_of_ble_eq_true rfl) ?_
  intro p e s m below meth c ls A args Q hQ hx hb hr hlk hml hown hts hin hl hE hw
  have hl : lw ls 2 [(0, .ref o), (1, .int a0)] := hl
  have hZ := hE.2.2.1
  have h := hm
  clear hm
  refine lv_aload_n hx hb d1_2_0 rfl (lv_at hl.1 0 rfl) ?_
  obtain ⟨x11, hr, h⟩ := ob h
  refine xg_q (ci := 0) (C := r_0) (T := f_0) (N := 7) (ref := "PagedValues") hx hb hts (fun w h => List.mem_cons_of_mem _ (ly_0 w h)) hown hE hw rfl 5 (by decide) (hts _ (List.mem_cons_of_mem _ k275)) (fun _ h9 => h9) hr d1_2_1 ?_
  clear hr
  obtain ⟨a12z, hn12, h⟩ := ob h
  have hn12 : x11 = some a12z := hn12
  refine W.eq (g2 := F0 m 4 ls [.ref a12z]) (by rw [hn12]; rfl) ?_
  obtain ⟨x13, hr, h⟩ := ob h
  refine xgN_i (ci := 9) (C := r_9) (T := f_9) (N := 9) (ref := "PagedValues$Store") hx hb hts (fun w h => List.mem_cons_of_mem _ (ly_9 w h)) hown hE hw rfl 8 (by decide) (va_Nw.use rfl (hZ.1.1 _ kn247)) (fun _ h9 => h9) hr d1_2_4 ?_
  clear hr
  refine lv_if_eq (tgt := 13) hx hb d1_2_7 rfl (fun c14 => ?_) (fun c14 => ?_)
  ·
    replace h := (if_pos c14).symm.trans h
    refine lv_aload_n hx hb d1_2_13 rfl (lv_at hl.1 0 rfl) ?_
    obtain ⟨x15, hr, h⟩ := ob h
    refine xg_q (ci := 0) (C := r_0) (T := f_0) (N := 7) (ref := "PagedValues") hx hb hts (fun w h => List.mem_cons_of_mem _ (ly_0 w h)) hown hE hw rfl 0 (by decide) (hts _ (List.mem_cons_of_mem _ k270)) (fun _ h9 => h9) hr d1_2_14 ?_
    clear hr
    refine lv_iload_n hx hb d1_2_17 rfl (lv_at hl.1 1 rfl) ?_
    obtain ⟨a16z, hn16, h⟩ := ob h
    have hn16 : x15 = some a16z := hn16
    refine W.eq (g2 := F0 m 18 ls [.int a0, .ref a16z]) (by rw [hn16]; rfl) ?_
    obtain ⟨u9, ho, h⟩ := ob h
    obtain ⟨⟨x17, st18⟩, hc, h⟩ := ob h
    refine hV_i (ci := 1) (As := [.int a0]) (rest := []) ⟨hx, hb, hml, hown, hts⟩ (cc_Text_add l G Zd K a16z a0 st x17 st18 hc) (kw_V (n := 1) hts k299 k296 k2 k297 k298 (by decide +kernel) ⟨Nat.le_of_ble_eq_true rfl, Nat.le_of_ble_eq_true rfl⟩) hE hw rfl rfl ho rfl hl.1.1 rfl (c1_8 c1_n (Nat.le_of_ble_eq_true rfl)) d1_2_18 (fun H locs cells slots hw => ?_)
    clear hc ho u9
    refine W.eq (g2 := F0 m 21 ls [.int x17]) rfl ?_
    obtain ⟨e20, hX, h⟩ := ob h
    have hj : ∀ (H : Heap) (locs : List Loc) (cells slots : Nat) (ls : Array Slot), lw ls 2 [(0, .ref o), (1, .int a0)] → wsH G Zd A s st18 H locs → W p l e (rmH Zd (1) st.1) s m args below meth c H locs cells slots Q (F0 m 35 ls [.int e20]) := by
      intro H locs cells slots ls hl hw
      cases h
      exact finH_i hQ hx hb hr hlk hE hw d1_2_35
    clear h
    refine lv_if_eq (tgt := 34) hx hb d1_2_21 rfl (fun c22 => ?_) (fun c22 => ?_)
    ·
      replace h := (if_pos c22).symm.trans hX
      refine lv_iconst (v := (-1)) hx hb d1_2_34 (by decide) ?_
      have e9 := Option.some.inj h
      subst e20
      have hl := lw_sub hl (l' := [(0, .ref o), (1, .int a0)]) [0, 1] rfl
      exact hj _ _ _ _ _ hl hw
    ·
      replace h := (if_neg c22).symm.trans hX
      refine lv_aload_n hx hb d1_2_24 rfl (lv_at hl.1 0 rfl) ?_
      obtain ⟨x23, hr, h⟩ := ob h
      refine xg_q (ci := 0) (C := r_0) (T := f_0) (N := 7) (ref := "PagedValues") hx hb hts (fun w h => List.mem_cons_of_mem _ (ly_0 w h)) hown hE hw rfl 0 (by decide) (hts _ (List.mem_cons_of_mem _ k270)) (fun _ h9 => h9) hr d1_2_25 ?_
      clear hr
      obtain ⟨a24z, hn24, h⟩ := ob h
      have hn24 : x23 = some a24z := hn24
      refine W.eq (g2 := F0 m 28 ls [.ref a24z]) (by rw [hn24]; rfl) ?_
      obtain ⟨x25, hr, h⟩ := ob h
      refine xgN_i (ci := 1) (C := r_1) (T := f_1) (N := 5) (ref := "PagedValues$Text") hx hb hts (fun w h => List.mem_cons_of_mem _ (ly_1 w h)) hown hE hw rfl 2 (by decide) (va_Nw.use rfl (hZ.1.1 _ kn78)) (fun _ h9 => h9) hr d1_2_28 ?_
      clear hr
      refine lv_goto (tgt := 35) hx hb d1_2_31 rfl ?_
      have e9 := Option.some.inj h
      subst e20
      have hl := lw_sub hl (l' := [(0, .ref o), (1, .int a0)]) [0, 1] rfl
      exact hj _ _ _ _ _ hl hw
  ·
    replace h := (if_neg c14).symm.trans h
    refine lv_bipush (v := (-9)) hx hb d1_2_10 (by decide) ?_
    cases h
    exact finH_i hQ hx hb hr hlk hE hw d1_2_12
theorem d1_3_0 : decode prog_1_method_3_code 0 = .ok (.aload_n 0, 1) := by decide +kernel
theorem d1_3_1 : decode prog_1_method_3_code 1 = .ok (.getfield 47, 3) := by decide +kernel
theorem d1_3_4 : decode prog_1_method_3_code 4 = .ok (.getfield 58, 3) := by decide +kernel
theorem d1_3_7 : decode prog_1_method_3_code 7 = .ok (.ifCond .eq 6, 3) := by decide +kernel
theorem d1_3_13 : decode prog_1_method_3_code 13 = .ok (.iload_n 1, 1) := by decide +kernel
theorem d1_3_14 : decode prog_1_method_3_code 14 = .ok (.invokestatic 70, 3) := by decide +kernel
theorem k304 : (Jvm.Cond.methodLink "PagedValues" (70 : Nat) ({ cls := "PagedValues", name := "isId", desc := "(I)Z" } : Jvm.MethodName)) ∈ TB := tk_2 64 rfl rfl
theorem d1_3_17 : decode prog_1_method_3_code 17 = .ok (.ifCond .ne 5, 3) := by decide +kernel
theorem d1_3_22 : decode prog_1_method_3_code 22 = .ok (.aload_n 0, 1) := by decide +kernel
theorem d1_3_23 : decode prog_1_method_3_code 23 = .ok (.getfield 19, 3) := by decide +kernel
theorem d1_3_26 : decode prog_1_method_3_code 26 = .ok (.aload_n 0, 1) := by decide +kernel
theorem d1_3_27 : decode prog_1_method_3_code 27 = .ok (.getfield 10, 3) := by decide +kernel
theorem d1_3_30 : decode prog_1_method_3_code 30 = .ok (.invokevirtual 74, 3) := by decide +kernel
theorem k310 : (Jvm.Cond.code ({ cls := "PagedValues$ValueParser", name := "parse", desc := "(LPagedValues$Text;)LPagedValues$Value;" } : Jvm.MethodName) prog_13_method_2_code (3 : Nat) (Option.some (Jvm.ClassFile.FieldType.object "PagedValues$Value"))) ∈ TB := tk_2 70 rfl rfl
theorem k307 : (Jvm.Cond.methodLink "PagedValues" (74 : Nat) ({ cls := "PagedValues$ValueParser", name := "parse", desc := "(LPagedValues$Text;)LPagedValues$Value;" } : Jvm.MethodName)) ∈ TB := tk_2 67 rfl rfl
theorem k308 : (Jvm.Cond.instanceMethod ({ cls := "PagedValues$ValueParser", name := "parse", desc := "(LPagedValues$Text;)LPagedValues$Value;" } : Jvm.MethodName)) ∈ TB := tk_2 68 rfl rfl
theorem k309 : (Jvm.Cond.selects "PagedValues$ValueParser" ({ cls := "PagedValues$ValueParser", name := "parse", desc := "(LPagedValues$Text;)LPagedValues$Value;" } : Jvm.MethodName) ({ cls := "PagedValues$ValueParser", name := "parse", desc := "(LPagedValues$Text;)LPagedValues$Value;" } : Jvm.MethodName)) ∈ TB := tk_2 69 rfl rfl
theorem d1_3_33 : decode prog_1_method_3_code 33 = .ok (.astore_n 2, 1) := by decide +kernel
theorem d1_3_34 : decode prog_1_method_3_code 34 = .ok (.aload_n 0, 1) := by decide +kernel
theorem d1_3_35 : decode prog_1_method_3_code 35 = .ok (.getfield 10, 3) := by decide +kernel
theorem d1_3_38 : decode prog_1_method_3_code 38 = .ok (.invokevirtual 78, 3) := by decide +kernel
theorem k674 : (Jvm.Cond.code ({ cls := "PagedValues$Text", name := "clear", desc := "()V" } : Jvm.MethodName) prog_11_method_3_code (1 : Nat) (Option.none : Option Jvm.ClassFile.FieldType)) ∈ TB := tk_3 194 rfl rfl
theorem k671 : (Jvm.Cond.methodLink "PagedValues" (78 : Nat) ({ cls := "PagedValues$Text", name := "clear", desc := "()V" } : Jvm.MethodName)) ∈ TB := tk_3 191 rfl rfl
theorem k672 : (Jvm.Cond.instanceMethod ({ cls := "PagedValues$Text", name := "clear", desc := "()V" } : Jvm.MethodName)) ∈ TB := tk_3 192 rfl rfl
theorem k673 : (Jvm.Cond.selects "PagedValues$Text" ({ cls := "PagedValues$Text", name := "clear", desc := "()V" } : Jvm.MethodName) ({ cls := "PagedValues$Text", name := "clear", desc := "()V" } : Jvm.MethodName)) ∈ TB := tk_3 193 rfl rfl
theorem d1_3_41 : decode prog_1_method_3_code 41 = .ok (.aload_n 2, 1) := by decide +kernel
theorem d1_3_42 : decode prog_1_method_3_code 42 = .ok (.ifnonnull 14, 3) := by decide +kernel
theorem d1_3_45 : decode prog_1_method_3_code 45 = .ok (.bipush (-100), 2) := by decide +kernel
theorem d1_3_47 : decode prog_1_method_3_code 47 = .ok (.aload_n 0, 1) := by decide +kernel
theorem d1_3_48 : decode prog_1_method_3_code 48 = .ok (.getfield 10, 3) := by decide +kernel
theorem d1_3_51 : decode prog_1_method_3_code 51 = .ok (.getfield 81, 3) := by decide +kernel
theorem kn82 : (Jvm.Cond.fieldLinkNest "PagedValues" (81 : Nat) "PagedValues$Text" "fault" "I" "PagedValues") ∈ NW := tn_1 82 rfl rfl
theorem d1_3_54 : decode prog_1_method_3_code 54 = .ok (.isub, 1) := by decide +kernel
theorem d1_3_55 : decode prog_1_method_3_code 55 = .ok (.ireturn, 1) := by decide +kernel
theorem d1_3_56 : decode prog_1_method_3_code 56 = .ok (.aload_n 0, 1) := by decide +kernel
theorem d1_3_57 : decode prog_1_method_3_code 57 = .ok (.iload_n 1, 1) := by decide +kernel
theorem d1_3_58 : decode prog_1_method_3_code 58 = .ok (.aload_n 2, 1) := by decide +kernel
theorem d1_3_59 : decode prog_1_method_3_code 59 = .ok (.invokevirtual 84, 3) := by decide +kernel
theorem d1_18_0 : decode prog_1_method_18_code 0 = .ok (.aload_n 0, 1) := by decide +kernel
theorem d1_18_1 : decode prog_1_method_18_code 1 = .ok (.getfield 47, 3) := by decide +kernel
theorem d1_18_4 : decode prog_1_method_18_code 4 = .ok (.iload_n 1, 1) := by decide +kernel
theorem d1_18_5 : decode prog_1_method_18_code 5 = .ok (.aload_n 2, 1) := by decide +kernel
theorem d1_18_6 : decode prog_1_method_18_code 6 = .ok (.invokevirtual 181, 3) := by decide +kernel
theorem k682 : (Jvm.Cond.code ({ cls := "PagedValues$Store", name := "change", desc := "(ILPagedValues$Value;)I" } : Jvm.MethodName) prog_10_method_16_code (9 : Nat) (Option.some Jvm.ClassFile.FieldType.int)) ∈ TB := tk_3 202 rfl rfl
theorem k679 : (Jvm.Cond.methodLink "PagedValues" (181 : Nat) ({ cls := "PagedValues$Store", name := "change", desc := "(ILPagedValues$Value;)I" } : Jvm.MethodName)) ∈ TB := tk_3 199 rfl rfl
theorem k680 : (Jvm.Cond.instanceMethod ({ cls := "PagedValues$Store", name := "change", desc := "(ILPagedValues$Value;)I" } : Jvm.MethodName)) ∈ TB := tk_3 200 rfl rfl
theorem k681 : (Jvm.Cond.selects "PagedValues$Store" ({ cls := "PagedValues$Store", name := "change", desc := "(ILPagedValues$Value;)I" } : Jvm.MethodName) ({ cls := "PagedValues$Store", name := "change", desc := "(ILPagedValues$Value;)I" } : Jvm.MethodName)) ∈ TB := tk_3 201 rfl rfl
theorem d1_18_9 : decode prog_1_method_18_code 9 = .ok (.istore_n 3, 1) := by decide +kernel
theorem d1_18_10 : decode prog_1_method_18_code 10 = .ok (.aload_n 0, 1) := by decide +kernel
theorem d1_18_11 : decode prog_1_method_18_code 11 = .ok (.getfield 47, 3) := by decide +kernel
theorem d1_18_14 : decode prog_1_method_18_code 14 = .ok (.getfield 58, 3) := by decide +kernel
theorem d1_18_17 : decode prog_1_method_18_code 17 = .ok (.ifCond .eq 10, 3) := by decide +kernel
theorem d1_18_20 : decode prog_1_method_18_code 20 = .ok (.aload_n 0, 1) := by decide +kernel
theorem d1_18_21 : decode prog_1_method_18_code 21 = .ok (.getfield 10, 3) := by decide +kernel
theorem d1_18_24 : decode prog_1_method_18_code 24 = .ok (.invokevirtual 78, 3) := by decide +kernel
theorem d1_18_27 : decode prog_1_method_18_code 27 = .ok (.iload_n 3, 1) := by decide +kernel
theorem d1_18_28 : decode prog_1_method_18_code 28 = .ok (.ireturn, 1) := by decide +kernel
def y1_18 : MethodName := { cls := "PagedValues", name := "change", desc := "(ILPagedValues$Value;)I" }
theorem k678 : (Jvm.Cond.code ({ cls := "PagedValues", name := "change", desc := "(ILPagedValues$Value;)I" } : Jvm.MethodName) prog_1_method_18_code (4 : Nat) (Option.some Jvm.ClassFile.FieldType.int)) ∈ TB := tk_3 198 rfl rfl
theorem k675 : (Jvm.Cond.methodLink "PagedValues" (84 : Nat) ({ cls := "PagedValues", name := "change", desc := "(ILPagedValues$Value;)I" } : Jvm.MethodName)) ∈ TB := tk_3 195 rfl rfl
theorem k677 : (Jvm.Cond.instanceMethod ({ cls := "PagedValues", name := "change", desc := "(ILPagedValues$Value;)I" } : Jvm.MethodName)) ∈ TB := tk_3 197 rfl rfl
theorem ks7 : Cond.selects y1_18.cls y1_18 y1_18 ∈ TB := List.mem_filter.mpr ⟨List.mem_append_left _ (List.mem_of_getElem? (i := 7) (by decide +kernel)), rfl⟩
theorem d1_3_62 : decode prog_1_method_3_code 62 = .ok (.istore_n 3, 1) := by decide +kernel
theorem d1_3_63 : decode prog_1_method_3_code 63 = .ok (.iload_n 3, 1) := by decide +kernel
theorem d1_3_64 : decode prog_1_method_3_code 64 = .ok (.ifCond .ne 11, 3) := by decide +kernel
theorem d1_3_75 : decode prog_1_method_3_code 75 = .ok (.iload_n 3, 1) := by decide +kernel
theorem d1_3_67 : decode prog_1_method_3_code 67 = .ok (.aload_n 2, 1) := by decide +kernel
theorem d1_3_68 : decode prog_1_method_3_code 68 = .ok (.iconst 0, 1) := by decide +kernel
theorem d1_3_69 : decode prog_1_method_3_code 69 = .ok (.invokestatic 88, 3) := by decide +kernel
theorem kn737 : (Jvm.Cond.methodLinkNest "PagedValues" (88 : Nat) ({ cls := "PagedValues$Value", name := "sizeOf", desc := "(LPagedValues$Value;I)I" } : Jvm.MethodName) "PagedValues") ∈ NW := tn_4 17 rfl rfl
theorem d1_3_72 : decode prog_1_method_3_code 72 = .ok (.goto 4, 3) := by decide +kernel
theorem d1_3_76 : decode prog_1_method_3_code 76 = .ok (.ireturn, 1) := by decide +kernel
theorem d1_3_20 : decode prog_1_method_3_code 20 = .ok (.iconst (-1), 1) := by decide +kernel
theorem d1_3_21 : decode prog_1_method_3_code 21 = .ok (.ireturn, 1) := by decide +kernel
theorem d1_3_10 : decode prog_1_method_3_code 10 = .ok (.bipush (-9), 2) := by decide +kernel
theorem d1_3_12 : decode prog_1_method_3_code 12 = .ok (.ireturn, 1) := by decide +kernel
def y1_3 : MethodName := { cls := "PagedValues", name := "put", desc := "(I)I" }
def c_PagedValues_change (Zd : Nat → Nat) (K : KE) (o : Nat) (a0 : Int32) (a1 : Option Nat) (st : CS) : Option (Int32 × CS) := (gQ K st o 0 5).bind fun x11 => x11.bind fun a12z => (isO K st a12z 9).bind fun _ => (c_Store_change Zd K a12z a0 a1 st).bind fun r15 => (gQ K r15.2 o 0 5).bind fun x16 => x16.bind fun a17z => (gI K r15.2 a17z 9 8).bind fun x18 => (if x18 = (0 : Int32) then (some r15.2) else ((gQ K r15.2 o 0 0).bind fun x22 => x22.bind fun a23z => (isO K r15.2 a23z 1).bind fun _ => (c_Text_clear Zd K a23z r15.2).bind fun st25 => some st25)).bind fun e19 => some (r15.1, e19)
set_option maxHeartbeats 4000000 in
set_option maxRecDepth 100000 in
theorem cc_PagedValues_change (l : Launch) (G : Gk) (Zd : Nat → Nat) (K : KE) (o : Nat) (a0 : Int32) (a1 : Option Nat) (st : CS) (r0 : Int32) (st0 : CS) (hm : c_PagedValues_change Zd K o a0 a1 st = some (r0, st0)) : CT l y1_18 prog_1_method_18_code 4 (some .int) G Zd K (5) [.ref o, .int a0, va_rf a1] st (hI G Zd r0 st0) := by
  refine goH (d := 5) (y := y1_18) (cc := prog_1_method_18_code) (maxL := 4) (ret := (some .int)) (av := [.ref o, .int a0, va_rf a1]) (Qc := hI G Zd r0 st0) "PagedValues" rfl (by decide) (c1_c rfl (c1_c rfl (c1_c (rf_cat _) c1_n))) (Nat.le_of_ble_eq_true rfl) ?_
  intro p e s m below meth c ls A args Q hQ hx hb hr hlk hml hown hts hin hl hE hw
  have hl : lw ls 4 [(0, .ref o), (1, .int a0), (2, va_rf a1)] := hl
  have hZ := hE.2.2.1
  have h := hm
  clear hm
  refine lv_aload_n hx hb d1_18_0 rfl (lv_at hl.1 0 rfl) ?_
  obtain ⟨x11, hr, h⟩ := ob h
  refine xg_q (ci := 0) (C := r_0) (T := f_0) (N := 7) (ref := "PagedValues") hx hb hts (fun w h => List.mem_cons_of_mem _ (ly_0 w h)) hown hE hw rfl 5 (by decide) (hts _ (List.mem_cons_of_mem _ k275)) (fun _ h9 => h9) hr d1_18_1 ?_
  clear hr
  refine lv_iload_n hx hb d1_18_4 rfl (lv_at hl.1 1 rfl) ?_
  refine xq_aload_n (r := a1) hx hb d1_18_5 rfl (lv_at hl.1 2 rfl) ?_
  obtain ⟨a12z, hn12, h⟩ := ob h
  have hn12 : x11 = some a12z := hn12
  refine W.eq (g2 := F0 m 6 ls [va_rf a1, .int a0, .ref a12z]) (by rw [hn12]; rfl) ?_
  obtain ⟨u9, ho, h⟩ := ob h
  obtain ⟨⟨x13, st14⟩, hc, h⟩ := ob h
  refine hV_i (ci := 9) (As := [.int a0, va_rf a1]) (rest := []) ⟨hx, hb, hml, hown, hts⟩ (cc_Store_change l G Zd K a12z a0 a1 st x13 st14 hc) (kw_V (n := 2) hts k682 k679 k13 k680 k681 (by decide +kernel) ⟨Nat.le_of_ble_eq_true rfl, Nat.le_of_ble_eq_true rfl⟩) hE hw rfl rfl ho rfl hl.1.1 rfl (c1_8 c1_n (Nat.le_of_ble_eq_true rfl)) d1_18_6 (fun H locs cells slots hw => ?_)
  clear hc ho u9
  refine W.eq (g2 := F0 m 9 ls [.int x13]) rfl ?_
  refine xt_istore_n (x := x13) (lv' := [(3, .int x13), (0, .ref o), (1, .int a0), (2, va_rf a1)]) hx hb d1_18_9 rfl hl (by decide) rfl (fun ls hl => ?_)
  refine lv_aload_n hx hb d1_18_10 rfl (lv_at hl.1 1 rfl) ?_
  obtain ⟨x16, hr, h⟩ := ob h
  refine xg_q (ci := 0) (C := r_0) (T := f_0) (N := 7) (ref := "PagedValues") hx hb hts (fun w h => List.mem_cons_of_mem _ (ly_0 w h)) hown hE hw rfl 5 (by decide) (hts _ (List.mem_cons_of_mem _ k275)) (fun _ h9 => h9) hr d1_18_11 ?_
  clear hr
  obtain ⟨a17z, hn17, h⟩ := ob h
  have hn17 : x16 = some a17z := hn17
  refine W.eq (g2 := F0 m 14 ls [.ref a17z]) (by rw [hn17]; rfl) ?_
  obtain ⟨x18, hr, h⟩ := ob h
  refine xgN_i (ci := 9) (C := r_9) (T := f_9) (N := 9) (ref := "PagedValues$Store") hx hb hts (fun w h => List.mem_cons_of_mem _ (ly_9 w h)) hown hE hw rfl 8 (by decide) (va_Nw.use rfl (hZ.1.1 _ kn247)) (fun _ h9 => h9) hr d1_18_14 ?_
  clear hr
  obtain ⟨e19, hX, h⟩ := ob h
  have hj : ∀ (H : Heap) (locs : List Loc) (cells slots : Nat) (ls : Array Slot), lw ls 4 [(0, .ref o), (1, .int a0), (2, va_rf a1), (3, .int x13)] → wsH G Zd A s e19 H locs → W p l e (rmH Zd (5) st.1) s m args below meth c H locs cells slots Q (F0 m 27 ls []) := by
    intro H locs cells slots ls hl hw
    refine lv_iload_n hx hb d1_18_27 rfl (lv_at hl.1 3 rfl) ?_
    cases h
    exact finH_i hQ hx hb hr hlk hE hw d1_18_28
  clear h
  refine lv_if_eq (tgt := 27) hx hb d1_18_17 rfl (fun c21 => ?_) (fun c21 => ?_)
  ·
    replace h := (if_pos c21).symm.trans hX
    have e9 := Option.some.inj h
    subst e19
    have hl := lw_sub hl (l' := [(0, .ref o), (1, .int a0), (2, va_rf a1), (3, .int x13)]) [1, 2, 3, 0] rfl
    exact hj _ _ _ _ _ hl hw
  ·
    replace h := (if_neg c21).symm.trans hX
    refine lv_aload_n hx hb d1_18_20 rfl (lv_at hl.1 1 rfl) ?_
    obtain ⟨x22, hr, h⟩ := ob h
    refine xg_q (ci := 0) (C := r_0) (T := f_0) (N := 7) (ref := "PagedValues") hx hb hts (fun w h => List.mem_cons_of_mem _ (ly_0 w h)) hown hE hw rfl 0 (by decide) (hts _ (List.mem_cons_of_mem _ k270)) (fun _ h9 => h9) hr d1_18_21 ?_
    clear hr
    obtain ⟨a23z, hn23, h⟩ := ob h
    have hn23 : x22 = some a23z := hn23
    refine W.eq (g2 := F0 m 24 ls [.ref a23z]) (by rw [hn23]; rfl) ?_
    obtain ⟨u9, ho, h⟩ := ob h
    obtain ⟨st25, hc, h⟩ := ob h
    refine hV_v (ci := 1) (As := []) (rest := []) ⟨hx, hb, hml, hown, hts⟩ (cc_Text_clear l G Zd K a23z st14 st25 hc) (kw_V (n := 0) hts k674 k671 k2 k672 k673 (by decide +kernel) ⟨Nat.le_of_ble_eq_true rfl, Nat.le_of_ble_eq_true rfl⟩) hE hw rfl rfl ho rfl hl.1.1 rfl (c1_8 c1_n (Nat.le_of_ble_eq_true rfl)) d1_18_24 (fun H locs cells slots hw => ?_)
    clear hc ho u9
    refine W.eq (g2 := F0 m 27 ls []) rfl ?_
    have e9 := Option.some.inj h
    subst e19
    have hl := lw_sub hl (l' := [(0, .ref o), (1, .int a0), (2, va_rf a1), (3, .int x13)]) [1, 2, 3, 0] rfl
    exact hj _ _ _ _ _ hl hw
def c_PagedValues_put (Zd : Nat → Nat) (K : KE) (o : Nat) (a0 : Int32) (st : CS) : Option (Int32 × CS) := (gQ K st o 0 5).bind fun x11 => x11.bind fun a12z => (gI K st a12z 9 8).bind fun x13 => if x13 = (0 : Int32) then ((c_PagedValues_isId Zd K a0 st).bind fun x15 => if x15 = (0 : Int32) then (some (((-1) : Int32), st)) else ((gQ K st o 0 1).bind fun x19 => (gQ K st o 0 0).bind fun x20 => x19.bind fun a21z => (isO K st a21z 3).bind fun _ => (c_ValueParser_parse Zd K a21z x20 st).bind fun r24 => (gQ K r24.2 o 0 0).bind fun x25 => x25.bind fun a26z => (isO K r24.2 a26z 1).bind fun _ => (c_Text_clear Zd K a26z r24.2).bind fun st28 => nl r24.1 ((gQ K st28 o 0 0).bind fun x31 => x31.bind fun a32z => (gI K st28 a32z 1 4).bind fun x33 => (some (((-100) : Int32) - x33)).bind fun y34 => some (y34, st28)) (fun a30z => (isO K st28 o 0).bind fun _ => (c_PagedValues_change Zd K o a0 r24.1 st28).bind fun r37 => (if r37.1 = (0 : Int32) then ((c_Value_sizeOf Zd K 10 r24.1 (0 : Int32) r37.2).bind fun x41 => some x41) else (some r37.1)).bind fun e38 => some (e38, r37.2)))) else (some (((-9) : Int32), st))
set_option maxHeartbeats 4000000 in
set_option maxRecDepth 100000 in
theorem cc_PagedValues_put (l : Launch) (G : Gk) (Zd : Nat → Nat) (K : KE) (o : Nat) (a0 : Int32) (st : CS) (r0 : Int32) (st0 : CS) (hm : c_PagedValues_put Zd K o a0 st = some (r0, st0)) : CT l y1_3 prog_1_method_3_code 4 (some .int) G Zd K (62) [.ref o, .int a0] st (hI G Zd r0 st0) := by
  refine goH (d := 62) (y := y1_3) (cc := prog_1_method_3_code) (maxL := 4) (ret := (some .int)) (av := [.ref o, .int a0]) (Qc := hI G Zd r0 st0) "PagedValues" rfl (by decide) (c1_c rfl (c1_c rfl c1_n)) (Nat.le_of_ble_eq_true rfl) ?_
  intro p e s m below meth c ls A args Q hQ hx hb hr hlk hml hown hts hin hl hE hw
  have hl : lw ls 4 [(0, .ref o), (1, .int a0)] := hl
  have hZ := hE.2.2.1
  have h := hm
  clear hm
  refine lv_aload_n hx hb d1_3_0 rfl (lv_at hl.1 0 rfl) ?_
  obtain ⟨x11, hr, h⟩ := ob h
  refine xg_q (ci := 0) (C := r_0) (T := f_0) (N := 7) (ref := "PagedValues") hx hb hts (fun w h => List.mem_cons_of_mem _ (ly_0 w h)) hown hE hw rfl 5 (by decide) (hts _ (List.mem_cons_of_mem _ k275)) (fun _ h9 => h9) hr d1_3_1 ?_
  clear hr
  obtain ⟨a12z, hn12, h⟩ := ob h
  have hn12 : x11 = some a12z := hn12
  refine W.eq (g2 := F0 m 4 ls [.ref a12z]) (by rw [hn12]; rfl) ?_
  obtain ⟨x13, hr, h⟩ := ob h
  refine xgN_i (ci := 9) (C := r_9) (T := f_9) (N := 9) (ref := "PagedValues$Store") hx hb hts (fun w h => List.mem_cons_of_mem _ (ly_9 w h)) hown hE hw rfl 8 (by decide) (va_Nw.use rfl (hZ.1.1 _ kn247)) (fun _ h9 => h9) hr d1_3_4 ?_
  clear hr
  refine lv_if_eq (tgt := 13) hx hb d1_3_7 rfl (fun c14 => ?_) (fun c14 => ?_)
  ·
    replace h := (if_pos c14).symm.trans h
    refine lv_iload_n hx hb d1_3_13 rfl (lv_at hl.1 1 rfl) ?_
    obtain ⟨x15, hc, h⟩ := ob h
    refine hS_i (As := [.int a0]) (rest := []) ⟨hx, hb, hml, hown, hts⟩ (cc_PagedValues_isId l G Zd K a0 st x15 hc) (kw_S (n := 1) hts k306 k304 k1 k305 (by decide +kernel) ⟨Nat.le_of_ble_eq_true rfl, Nat.le_of_ble_eq_true rfl⟩) hE hw rfl hl.1.1 rfl (c1_8 c1_n (Nat.le_of_ble_eq_true rfl)) d1_3_14 (fun H locs cells slots hw => ?_)
    clear hc
    refine W.eq (g2 := F0 m 17 ls [.int x15]) rfl ?_
    refine lv_if_ne (tgt := 22) hx hb d1_3_17 rfl (fun c18 => ?_) (fun c18 => ?_)
    ·
      replace h := (if_neg c18).symm.trans h
      refine lv_aload_n hx hb d1_3_22 rfl (lv_at hl.1 0 rfl) ?_
      obtain ⟨x19, hr, h⟩ := ob h
      refine xg_q (ci := 0) (C := r_0) (T := f_0) (N := 7) (ref := "PagedValues") hx hb hts (fun w h => List.mem_cons_of_mem _ (ly_0 w h)) hown hE hw rfl 1 (by decide) (hts _ (List.mem_cons_of_mem _ k271)) (fun _ h9 => h9) hr d1_3_23 ?_
      clear hr
      refine lv_aload_n hx hb d1_3_26 rfl (lv_at hl.1 0 rfl) ?_
      obtain ⟨x20, hr, h⟩ := ob h
      refine xg_q (ci := 0) (C := r_0) (T := f_0) (N := 7) (ref := "PagedValues") hx hb hts (fun w h => List.mem_cons_of_mem _ (ly_0 w h)) hown hE hw rfl 0 (by decide) (hts _ (List.mem_cons_of_mem _ k270)) (fun _ h9 => h9) hr d1_3_27 ?_
      clear hr
      obtain ⟨a21z, hn21, h⟩ := ob h
      have hn21 : x19 = some a21z := hn21
      refine W.eq (g2 := F0 m 30 ls [va_rf x20, .ref a21z]) (by rw [hn21]; rfl) ?_
      obtain ⟨u9, ho, h⟩ := ob h
      obtain ⟨⟨x22, st23⟩, hc, h⟩ := ob h
      refine hV_q (ci := 3) (As := [va_rf x20]) (rest := []) ⟨hx, hb, hml, hown, hts⟩ (cc_ValueParser_parse l G Zd K a21z x20 st x22 st23 hc) (kw_V (n := 1) hts k310 k307 k7 k308 k309 (by decide +kernel) ⟨Nat.le_of_ble_eq_true rfl, Nat.le_of_ble_eq_true rfl⟩) hE hw rfl rfl ho rfl hl.1.1 rfl (c1_8 c1_n (Nat.le_of_ble_eq_true rfl)) d1_3_30 (fun H locs cells slots hw => ?_)
      clear hc ho u9
      refine W.eq (g2 := F0 m 33 ls [va_rf x22]) rfl ?_
      refine xt_astore_n (r := x22) (lv' := [(2, va_rf x22), (0, .ref o), (1, .int a0)]) hx hb d1_3_33 rfl hl (by decide) rfl (fun ls hl => ?_)
      refine lv_aload_n hx hb d1_3_34 rfl (lv_at hl.1 1 rfl) ?_
      obtain ⟨x25, hr, h⟩ := ob h
      refine xg_q (ci := 0) (C := r_0) (T := f_0) (N := 7) (ref := "PagedValues") hx hb hts (fun w h => List.mem_cons_of_mem _ (ly_0 w h)) hown hE hw rfl 0 (by decide) (hts _ (List.mem_cons_of_mem _ k270)) (fun _ h9 => h9) hr d1_3_35 ?_
      clear hr
      obtain ⟨a26z, hn26, h⟩ := ob h
      have hn26 : x25 = some a26z := hn26
      refine W.eq (g2 := F0 m 38 ls [.ref a26z]) (by rw [hn26]; rfl) ?_
      obtain ⟨u9, ho, h⟩ := ob h
      obtain ⟨st28, hc, h⟩ := ob h
      refine hV_v (ci := 1) (As := []) (rest := []) ⟨hx, hb, hml, hown, hts⟩ (cc_Text_clear l G Zd K a26z st23 st28 hc) (kw_V (n := 0) hts k674 k671 k2 k672 k673 (by decide +kernel) ⟨Nat.le_of_ble_eq_true rfl, Nat.le_of_ble_eq_true rfl⟩) hE hw rfl rfl ho rfl hl.1.1 rfl (c1_8 c1_n (Nat.le_of_ble_eq_true rfl)) d1_3_38 (fun H locs cells slots hw => ?_)
      clear hc ho u9
      refine W.eq (g2 := F0 m 41 ls []) rfl ?_
      refine xq_aload_n (r := x22) hx hb d1_3_41 rfl (lv_at hl.1 0 rfl) ?_
      rcases nl_case h with ⟨hn30, h⟩ | ⟨a30z, hn30, h⟩
      ·
        have hn30 : x22 = none := hn30
        refine W.eq (g2 := F0 m 42 ls [.null]) (by rw [hn30]; rfl) ?_
        refine lv_ifnonnullN hx hb d1_3_42 ?_
        refine lv_bipush (v := (-100)) hx hb d1_3_45 (by decide) ?_
        refine lv_aload_n hx hb d1_3_47 rfl (lv_at hl.1 1 rfl) ?_
        obtain ⟨x31, hr, h⟩ := ob h
        refine xg_q (ci := 0) (C := r_0) (T := f_0) (N := 7) (ref := "PagedValues") hx hb hts (fun w h => List.mem_cons_of_mem _ (ly_0 w h)) hown hE hw rfl 0 (by decide) (hts _ (List.mem_cons_of_mem _ k270)) (fun _ h9 => h9) hr d1_3_48 ?_
        clear hr
        obtain ⟨a32z, hn32, h⟩ := ob h
        have hn32 : x31 = some a32z := hn32
        refine W.eq (g2 := F0 m 51 ls [.ref a32z, .int (-100)]) (by rw [hn32]; rfl) ?_
        obtain ⟨x33, hr, h⟩ := ob h
        refine xgN_i (ci := 1) (C := r_1) (T := f_1) (N := 5) (ref := "PagedValues$Text") hx hb hts (fun w h => List.mem_cons_of_mem _ (ly_1 w h)) hown hE hw rfl 4 (by decide) (va_Nw.use rfl (hZ.1.1 _ kn82)) (fun _ h9 => h9) hr d1_3_51 ?_
        clear hr
        refine lv_isub hx hb d1_3_54 ?_
        obtain ⟨y34, hr, h⟩ := ob h
        refine lv_topi (fun y9 ey => ?_)
        have e9 := ey.trans (Option.some.inj hr)
        clear ey
        subst y9
        clear hr
        cases h
        exact finH_i hQ hx hb hr hlk hE hw d1_3_55
      ·
        have hn30 : x22 = some a30z := hn30
        refine W.eq (g2 := F0 m 42 ls [.ref a30z]) (by rw [hn30]; rfl) ?_
        refine lv_ifnonnull (tgt := 56) hx hb d1_3_42 rfl ?_
        refine lv_aload_n hx hb d1_3_56 rfl (lv_at hl.1 1 rfl) ?_
        refine lv_iload_n hx hb d1_3_57 rfl (lv_at hl.1 2 rfl) ?_
        refine xq_aload_n (r := x22) hx hb d1_3_58 rfl (lv_at hl.1 0 rfl) ?_
        obtain ⟨u9, ho, h⟩ := ob h
        obtain ⟨⟨x35, st36⟩, hc, h⟩ := ob h
        refine hV_i (ci := 0) (As := [.int a0, va_rf x22]) (rest := []) ⟨hx, hb, hml, hown, hts⟩ (cc_PagedValues_change l G Zd K o a0 x22 st28 x35 st36 hc) (kw_V (n := 2) hts k678 k675 k1 k677 ks7 (by decide +kernel) ⟨Nat.le_of_ble_eq_true rfl, Nat.le_of_ble_eq_true rfl⟩) hE hw rfl rfl ho rfl hl.1.1 rfl (c1_8 c1_n (Nat.le_of_ble_eq_true rfl)) d1_3_59 (fun H locs cells slots hw => ?_)
        clear hc ho u9
        refine W.eq (g2 := F0 m 62 ls [.int x35]) rfl ?_
        refine xt_istore_n (x := x35) (lv' := [(3, .int x35), (2, va_rf x22), (0, .ref o), (1, .int a0)]) hx hb d1_3_62 rfl hl (by decide) rfl (fun ls hl => ?_)
        refine lv_iload_n hx hb d1_3_63 rfl (lv_at hl.1 0 rfl) ?_
        obtain ⟨e38, hX, h⟩ := ob h
        have hj : ∀ (H : Heap) (locs : List Loc) (cells slots : Nat) (ls : Array Slot), lw ls 4 [(0, .ref o), (1, .int a0), (2, va_rf x22), (3, .int x35)] → wsH G Zd A s st36 H locs → W p l e (rmH Zd (62) st.1) s m args below meth c H locs cells slots Q (F0 m 76 ls [.int e38]) := by
          intro H locs cells slots ls hl hw
          cases h
          exact finH_i hQ hx hb hr hlk hE hw d1_3_76
        clear h
        refine lv_if_ne (tgt := 75) hx hb d1_3_64 rfl (fun c40 => ?_) (fun c40 => ?_)
        ·
          replace h := (if_neg c40).symm.trans hX
          refine lv_iload_n hx hb d1_3_75 rfl (lv_at hl.1 0 rfl) ?_
          have e9 := Option.some.inj h
          subst e38
          have hl := lw_sub hl (l' := [(0, .ref o), (1, .int a0), (2, va_rf x22), (3, .int x35)]) [2, 3, 1, 0] rfl
          exact hj _ _ _ _ _ hl hw
        ·
          replace h := (if_pos c40).symm.trans hX
          refine xq_aload_n (r := x22) hx hb d1_3_67 rfl (lv_at hl.1 1 rfl) ?_
          refine lv_iconst (v := 0) hx hb d1_3_68 (by decide) ?_
          obtain ⟨x41, hc, h⟩ := ob h
          refine hSN_i (As := [va_rf x22, .int 0]) (rest := []) ⟨hx, hb, hml, hown, hts⟩ (cc_Value_sizeOf l G Zd K 10 x22 (0 : Int32) st36 x41 hc) (kw_SN (n := 2) hts hZ.1.1 k739 kn737 k18 k738 (by decide +kernel) ⟨Nat.le_of_ble_eq_true rfl, Nat.le_of_ble_eq_true rfl⟩) hE hw rfl hl.1.1 rfl (c1_8 c1_n (Nat.le_of_ble_eq_true rfl)) d1_3_69 (fun H locs cells slots hw => ?_)
          clear hc
          refine W.eq (g2 := F0 m 72 ls [.int x41]) rfl ?_
          refine lv_goto (tgt := 76) hx hb d1_3_72 rfl ?_
          have e9 := Option.some.inj h
          subst e38
          have hl := lw_sub hl (l' := [(0, .ref o), (1, .int a0), (2, va_rf x22), (3, .int x35)]) [2, 3, 1, 0] rfl
          exact hj _ _ _ _ _ hl hw
    ·
      replace h := (if_pos c18).symm.trans h
      refine lv_iconst (v := (-1)) hx hb d1_3_20 (by decide) ?_
      cases h
      exact finH_i hQ hx hb hr hlk hE hw d1_3_21
  ·
    replace h := (if_neg c14).symm.trans h
    refine lv_bipush (v := (-9)) hx hb d1_3_10 (by decide) ?_
    cases h
    exact finH_i hQ hx hb hr hlk hE hw d1_3_12
theorem d1_4_0 : decode prog_1_method_4_code 0 = .ok (.aload_n 0, 1) := by decide +kernel
theorem d1_4_1 : decode prog_1_method_4_code 1 = .ok (.getfield 47, 3) := by decide +kernel
theorem d1_4_4 : decode prog_1_method_4_code 4 = .ok (.getfield 58, 3) := by decide +kernel
theorem d1_4_7 : decode prog_1_method_4_code 7 = .ok (.ifCond .eq 6, 3) := by decide +kernel
theorem d1_4_13 : decode prog_1_method_4_code 13 = .ok (.aload_n 0, 1) := by decide +kernel
theorem d1_4_14 : decode prog_1_method_4_code 14 = .ok (.getfield 47, 3) := by decide +kernel
theorem d1_4_17 : decode prog_1_method_4_code 17 = .ok (.aload_n 0, 1) := by decide +kernel
theorem d1_4_18 : decode prog_1_method_4_code 18 = .ok (.getfield 47, 3) := by decide +kernel
theorem d1_4_21 : decode prog_1_method_4_code 21 = .ok (.invokevirtual 94, 3) := by decide +kernel
theorem k745 : (Jvm.Cond.methodLink "PagedValues" (94 : Nat) ({ cls := "PagedValues$Store", name := "currentRoot", desc := "()I" } : Jvm.MethodName)) ∈ TB := tk_4 25 rfl rfl
theorem d1_4_24 : decode prog_1_method_4_code 24 = .ok (.iload_n 1, 1) := by decide +kernel
theorem d1_4_25 : decode prog_1_method_4_code 25 = .ok (.invokevirtual 98, 3) := by decide +kernel
theorem k746 : (Jvm.Cond.methodLink "PagedValues" (98 : Nat) ({ cls := "PagedValues$Store", name := "document", desc := "(II)LPagedValues$Value;" } : Jvm.MethodName)) ∈ TB := tk_4 26 rfl rfl
theorem d1_4_28 : decode prog_1_method_4_code 28 = .ok (.astore_n 2, 1) := by decide +kernel
theorem d1_4_29 : decode prog_1_method_4_code 29 = .ok (.aload_n 2, 1) := by decide +kernel
theorem d1_4_30 : decode prog_1_method_4_code 30 = .ok (.ifnonnull 5, 3) := by decide +kernel
theorem d1_4_33 : decode prog_1_method_4_code 33 = .ok (.iconst (-1), 1) := by decide +kernel
theorem d1_4_34 : decode prog_1_method_4_code 34 = .ok (.ireturn, 1) := by decide +kernel
theorem d1_4_35 : decode prog_1_method_4_code 35 = .ok (.aload_n 0, 1) := by decide +kernel
theorem d1_4_36 : decode prog_1_method_4_code 36 = .ok (.getfield 19, 3) := by decide +kernel
theorem d1_4_39 : decode prog_1_method_4_code 39 = .ok (.aload_n 0, 1) := by decide +kernel
theorem d1_4_40 : decode prog_1_method_4_code 40 = .ok (.getfield 10, 3) := by decide +kernel
theorem d1_4_43 : decode prog_1_method_4_code 43 = .ok (.invokevirtual 74, 3) := by decide +kernel
theorem d1_4_46 : decode prog_1_method_4_code 46 = .ok (.astore_n 3, 1) := by decide +kernel
theorem d1_4_47 : decode prog_1_method_4_code 47 = .ok (.aload_n 0, 1) := by decide +kernel
theorem d1_4_48 : decode prog_1_method_4_code 48 = .ok (.getfield 10, 3) := by decide +kernel
theorem d1_4_51 : decode prog_1_method_4_code 51 = .ok (.invokevirtual 78, 3) := by decide +kernel
theorem d1_4_54 : decode prog_1_method_4_code 54 = .ok (.aload_n 3, 1) := by decide +kernel
theorem d1_4_55 : decode prog_1_method_4_code 55 = .ok (.ifnonnull 14, 3) := by decide +kernel
theorem d1_4_58 : decode prog_1_method_4_code 58 = .ok (.bipush (-100), 2) := by decide +kernel
theorem d1_4_60 : decode prog_1_method_4_code 60 = .ok (.aload_n 0, 1) := by decide +kernel
theorem d1_4_61 : decode prog_1_method_4_code 61 = .ok (.getfield 10, 3) := by decide +kernel
theorem d1_4_64 : decode prog_1_method_4_code 64 = .ok (.getfield 81, 3) := by decide +kernel
theorem d1_4_67 : decode prog_1_method_4_code 67 = .ok (.isub, 1) := by decide +kernel
theorem d1_4_68 : decode prog_1_method_4_code 68 = .ok (.ireturn, 1) := by decide +kernel
theorem d1_4_69 : decode prog_1_method_4_code 69 = .ok (.aload_n 0, 1) := by decide +kernel
theorem d1_4_70 : decode prog_1_method_4_code 70 = .ok (.getfield 26, 3) := by decide +kernel
theorem d1_4_73 : decode prog_1_method_4_code 73 = .ok (.aload_n 3, 1) := by decide +kernel
theorem d1_4_74 : decode prog_1_method_4_code 74 = .ok (.aload_n 2, 1) := by decide +kernel
theorem d1_4_75 : decode prog_1_method_4_code 75 = .ok (.invokevirtual 102, 3) := by decide +kernel
theorem k750 : (Jvm.Cond.code ({ cls := "PagedValues$Patcher", name := "apply", desc := "(LPagedValues$Value;LPagedValues$Value;)I" } : Jvm.MethodName) prog_6_method_2_code (5 : Nat) (Option.some Jvm.ClassFile.FieldType.int)) ∈ TB := tk_4 30 rfl rfl
theorem k747 : (Jvm.Cond.methodLink "PagedValues" (102 : Nat) ({ cls := "PagedValues$Patcher", name := "apply", desc := "(LPagedValues$Value;LPagedValues$Value;)I" } : Jvm.MethodName)) ∈ TB := tk_4 27 rfl rfl
theorem k748 : (Jvm.Cond.instanceMethod ({ cls := "PagedValues$Patcher", name := "apply", desc := "(LPagedValues$Value;LPagedValues$Value;)I" } : Jvm.MethodName)) ∈ TB := tk_4 28 rfl rfl
theorem k749 : (Jvm.Cond.selects "PagedValues$Patcher" ({ cls := "PagedValues$Patcher", name := "apply", desc := "(LPagedValues$Value;LPagedValues$Value;)I" } : Jvm.MethodName) ({ cls := "PagedValues$Patcher", name := "apply", desc := "(LPagedValues$Value;LPagedValues$Value;)I" } : Jvm.MethodName)) ∈ TB := tk_4 29 rfl rfl
theorem d1_4_78 : decode prog_1_method_4_code 78 = .ok (.istore 4, 2) := by decide +kernel
theorem d1_4_80 : decode prog_1_method_4_code 80 = .ok (.iload 4, 2) := by decide +kernel
theorem d1_4_82 : decode prog_1_method_4_code 82 = .ok (.ifCond .ne 17, 3) := by decide +kernel
theorem d1_4_85 : decode prog_1_method_4_code 85 = .ok (.aload_n 0, 1) := by decide +kernel
theorem d1_4_86 : decode prog_1_method_4_code 86 = .ok (.iload_n 1, 1) := by decide +kernel
theorem d1_4_87 : decode prog_1_method_4_code 87 = .ok (.aload_n 0, 1) := by decide +kernel
theorem d1_4_88 : decode prog_1_method_4_code 88 = .ok (.getfield 26, 3) := by decide +kernel
theorem d1_4_91 : decode prog_1_method_4_code 91 = .ok (.getfield 106, 3) := by decide +kernel
theorem kn124 : (Jvm.Cond.fieldLinkNest "PagedValues" (106 : Nat) "PagedValues$Patcher" "document" "LPagedValues$Value;" "PagedValues") ∈ NW := tn_1 124 rfl rfl
theorem d1_4_94 : decode prog_1_method_4_code 94 = .ok (.invokevirtual 84, 3) := by decide +kernel
theorem d1_4_97 : decode prog_1_method_4_code 97 = .ok (.istore 4, 2) := by decide +kernel
theorem d1_4_99 : decode prog_1_method_4_code 99 = .ok (.iload 4, 2) := by decide +kernel
theorem d1_4_101 : decode prog_1_method_4_code 101 = .ok (.ifCond .ne 17, 3) := by decide +kernel
theorem d1_4_118 : decode prog_1_method_4_code 118 = .ok (.iload 4, 2) := by decide +kernel
theorem d1_4_104 : decode prog_1_method_4_code 104 = .ok (.aload_n 0, 1) := by decide +kernel
theorem d1_4_105 : decode prog_1_method_4_code 105 = .ok (.getfield 26, 3) := by decide +kernel
theorem d1_4_108 : decode prog_1_method_4_code 108 = .ok (.getfield 106, 3) := by decide +kernel
theorem d1_4_111 : decode prog_1_method_4_code 111 = .ok (.iconst 0, 1) := by decide +kernel
theorem d1_4_112 : decode prog_1_method_4_code 112 = .ok (.invokestatic 88, 3) := by decide +kernel
theorem d1_4_115 : decode prog_1_method_4_code 115 = .ok (.goto 5, 3) := by decide +kernel
theorem d1_4_120 : decode prog_1_method_4_code 120 = .ok (.ireturn, 1) := by decide +kernel
theorem d1_4_10 : decode prog_1_method_4_code 10 = .ok (.bipush (-9), 2) := by decide +kernel
theorem d1_4_12 : decode prog_1_method_4_code 12 = .ok (.ireturn, 1) := by decide +kernel
def y1_4 : MethodName := { cls := "PagedValues", name := "patch", desc := "(I)I" }
def c_PagedValues_patch (Zd : Nat → Nat) (K : KE) (o : Nat) (a0 : Int32) (st : CS) : Option (Int32 × CS) := (gQ K st o 0 5).bind fun x11 => x11.bind fun a12z => (gI K st a12z 9 8).bind fun x13 => if x13 = (0 : Int32) then ((gQ K st o 0 5).bind fun x15 => (gQ K st o 0 5).bind fun x16 => x16.bind fun a17z => (isO K st a17z 9).bind fun _ => (c_Store_currentRoot Zd K a17z st).bind fun x18 => x15.bind fun a21z => (isO K st a21z 9).bind fun _ => (c_Store_document Zd K a21z x18 a0 st).bind fun x22 => nl x22 (some (((-1) : Int32), st)) (fun a25z => (gQ K st o 0 1).bind fun x26 => (gQ K st o 0 0).bind fun x27 => x26.bind fun a28z => (isO K st a28z 3).bind fun _ => (c_ValueParser_parse Zd K a28z x27 st).bind fun r31 => (gQ K r31.2 o 0 0).bind fun x32 => x32.bind fun a33z => (isO K r31.2 a33z 1).bind fun _ => (c_Text_clear Zd K a33z r31.2).bind fun st35 => nl r31.1 ((gQ K st35 o 0 0).bind fun x38 => x38.bind fun a39z => (gI K st35 a39z 1 4).bind fun x40 => (some (((-100) : Int32) - x40)).bind fun y41 => some (y41, st35)) (fun a37z => (gQ K st35 o 0 2).bind fun x42 => x42.bind fun a43z => (isO K st35 a43z 4).bind fun _ => (c_Patcher_apply Zd K a43z r31.1 x22 st35).bind fun r46 => (if r46.1 = (0 : Int32) then ((gQ K r46.2 o 0 2).bind fun x60 => x60.bind fun a61z => (gQ K r46.2 a61z 4 1).bind fun x62 => (isO K r46.2 o 0).bind fun _ => (c_PagedValues_change Zd K o a0 x62 r46.2).bind fun r65 => some (r65.1, r65.2)) else (some (r46.1, r46.2))).bind fun e47 => (if e47.1 = (0 : Int32) then ((gQ K e47.2 o 0 2).bind fun x53 => x53.bind fun a54z => (gQ K e47.2 a54z 4 1).bind fun x55 => (c_Value_sizeOf Zd K 10 x55 (0 : Int32) e47.2).bind fun x56 => some x56) else (some e47.1)).bind fun e50 => some (e50, e47.2)))) else (some (((-9) : Int32), st))
set_option maxHeartbeats 4000000 in
set_option maxRecDepth 100000 in
theorem cc_PagedValues_patch (l : Launch) (G : Gk) (Zd : Nat → Nat) (K : KE) (o : Nat) (a0 : Int32) (st : CS) (r0 : Int32) (st0 : CS) (hm : c_PagedValues_patch Zd K o a0 st = some (r0, st0)) : CT l y1_4 prog_1_method_4_code 5 (some .int) G Zd K (62) [.ref o, .int a0] st (hI G Zd r0 st0) := by
  refine goH (d := 62) (y := y1_4) (cc := prog_1_method_4_code) (maxL := 5) (ret := (some .int)) (av := [.ref o, .int a0]) (Qc := hI G Zd r0 st0) "PagedValues" rfl (by decide) (c1_c rfl (c1_c rfl c1_n)) (Nat.le_of_ble_eq_true rfl) ?_
  intro p e s m below meth c ls A args Q hQ hx hb hr hlk hml hown hts hin hl hE hw
  have hl : lw ls 5 [(0, .ref o), (1, .int a0)] := hl
  have hZ := hE.2.2.1
  have h := hm
  clear hm
  refine lv_aload_n hx hb d1_4_0 rfl (lv_at hl.1 0 rfl) ?_
  obtain ⟨x11, hr, h⟩ := ob h
  refine xg_q (ci := 0) (C := r_0) (T := f_0) (N := 7) (ref := "PagedValues") hx hb hts (fun w h => List.mem_cons_of_mem _ (ly_0 w h)) hown hE hw rfl 5 (by decide) (hts _ (List.mem_cons_of_mem _ k275)) (fun _ h9 => h9) hr d1_4_1 ?_
  clear hr
  obtain ⟨a12z, hn12, h⟩ := ob h
  have hn12 : x11 = some a12z := hn12
  refine W.eq (g2 := F0 m 4 ls [.ref a12z]) (by rw [hn12]; rfl) ?_
  obtain ⟨x13, hr, h⟩ := ob h
  refine xgN_i (ci := 9) (C := r_9) (T := f_9) (N := 9) (ref := "PagedValues$Store") hx hb hts (fun w h => List.mem_cons_of_mem _ (ly_9 w h)) hown hE hw rfl 8 (by decide) (va_Nw.use rfl (hZ.1.1 _ kn247)) (fun _ h9 => h9) hr d1_4_4 ?_
  clear hr
  refine lv_if_eq (tgt := 13) hx hb d1_4_7 rfl (fun c14 => ?_) (fun c14 => ?_)
  ·
    replace h := (if_pos c14).symm.trans h
    refine lv_aload_n hx hb d1_4_13 rfl (lv_at hl.1 0 rfl) ?_
    obtain ⟨x15, hr, h⟩ := ob h
    refine xg_q (ci := 0) (C := r_0) (T := f_0) (N := 7) (ref := "PagedValues") hx hb hts (fun w h => List.mem_cons_of_mem _ (ly_0 w h)) hown hE hw rfl 5 (by decide) (hts _ (List.mem_cons_of_mem _ k275)) (fun _ h9 => h9) hr d1_4_14 ?_
    clear hr
    refine lv_aload_n hx hb d1_4_17 rfl (lv_at hl.1 0 rfl) ?_
    obtain ⟨x16, hr, h⟩ := ob h
    refine xg_q (ci := 0) (C := r_0) (T := f_0) (N := 7) (ref := "PagedValues") hx hb hts (fun w h => List.mem_cons_of_mem _ (ly_0 w h)) hown hE hw rfl 5 (by decide) (hts _ (List.mem_cons_of_mem _ k275)) (fun _ h9 => h9) hr d1_4_18 ?_
    clear hr
    obtain ⟨a17z, hn17, h⟩ := ob h
    have hn17 : x16 = some a17z := hn17
    refine W.eq (g2 := F0 m 21 ls [.ref a17z, va_rf x15]) (by rw [hn17]; rfl) ?_
    obtain ⟨u9, ho, h⟩ := ob h
    obtain ⟨x18, hc, h⟩ := ob h
    refine hV_i (ci := 9) (As := []) (rest := [va_rf x15]) ⟨hx, hb, hml, hown, hts⟩ (cc_Store_currentRoot l G Zd K a17z st x18 hc) (kw_V (n := 0) hts k686 k745 k13 k684 k685 (by decide +kernel) ⟨Nat.le_of_ble_eq_true rfl, Nat.le_of_ble_eq_true rfl⟩) hE hw rfl rfl ho rfl hl.1.1 rfl (c1_8 (c1_c (rf_cat _) c1_n) (Nat.le_of_ble_eq_true rfl)) d1_4_21 (fun H locs cells slots hw => ?_)
    clear hc ho u9
    refine W.eq (g2 := F0 m 24 ls [.int x18, va_rf x15]) rfl ?_
    refine lv_iload_n hx hb d1_4_24 rfl (lv_at hl.1 1 rfl) ?_
    obtain ⟨a21z, hn21, h⟩ := ob h
    have hn21 : x15 = some a21z := hn21
    refine W.eq (g2 := F0 m 25 ls [.int a0, .int x18, .ref a21z]) (by rw [hn21]; rfl) ?_
    obtain ⟨u9, ho, h⟩ := ob h
    obtain ⟨x22, hc, h⟩ := ob h
    refine hV_q (ci := 9) (As := [.int x18, .int a0]) (rest := []) ⟨hx, hb, hml, hown, hts⟩ (cc_Store_document l G Zd K a21z x18 a0 st x22 hc) (kw_V (n := 2) hts k702 k746 k13 k700 k701 (by decide +kernel) ⟨Nat.le_of_ble_eq_true rfl, Nat.le_of_ble_eq_true rfl⟩) hE hw rfl rfl ho rfl hl.1.1 rfl (c1_8 c1_n (Nat.le_of_ble_eq_true rfl)) d1_4_25 (fun H locs cells slots hw => ?_)
    clear hc ho u9
    refine W.eq (g2 := F0 m 28 ls [va_rf x22]) rfl ?_
    refine xt_astore_n (r := x22) (lv' := [(2, va_rf x22), (0, .ref o), (1, .int a0)]) hx hb d1_4_28 rfl hl (by decide) rfl (fun ls hl => ?_)
    refine xq_aload_n (r := x22) hx hb d1_4_29 rfl (lv_at hl.1 0 rfl) ?_
    rcases nl_case h with ⟨hn25, h⟩ | ⟨a25z, hn25, h⟩
    ·
      have hn25 : x22 = none := hn25
      refine W.eq (g2 := F0 m 30 ls [.null]) (by rw [hn25]; rfl) ?_
      refine lv_ifnonnullN hx hb d1_4_30 ?_
      refine lv_iconst (v := (-1)) hx hb d1_4_33 (by decide) ?_
      cases h
      exact finH_i hQ hx hb hr hlk hE hw d1_4_34
    ·
      have hn25 : x22 = some a25z := hn25
      refine W.eq (g2 := F0 m 30 ls [.ref a25z]) (by rw [hn25]; rfl) ?_
      refine lv_ifnonnull (tgt := 35) hx hb d1_4_30 rfl ?_
      refine lv_aload_n hx hb d1_4_35 rfl (lv_at hl.1 1 rfl) ?_
      obtain ⟨x26, hr, h⟩ := ob h
      refine xg_q (ci := 0) (C := r_0) (T := f_0) (N := 7) (ref := "PagedValues") hx hb hts (fun w h => List.mem_cons_of_mem _ (ly_0 w h)) hown hE hw rfl 1 (by decide) (hts _ (List.mem_cons_of_mem _ k271)) (fun _ h9 => h9) hr d1_4_36 ?_
      clear hr
      refine lv_aload_n hx hb d1_4_39 rfl (lv_at hl.1 1 rfl) ?_
      obtain ⟨x27, hr, h⟩ := ob h
      refine xg_q (ci := 0) (C := r_0) (T := f_0) (N := 7) (ref := "PagedValues") hx hb hts (fun w h => List.mem_cons_of_mem _ (ly_0 w h)) hown hE hw rfl 0 (by decide) (hts _ (List.mem_cons_of_mem _ k270)) (fun _ h9 => h9) hr d1_4_40 ?_
      clear hr
      obtain ⟨a28z, hn28, h⟩ := ob h
      have hn28 : x26 = some a28z := hn28
      refine W.eq (g2 := F0 m 43 ls [va_rf x27, .ref a28z]) (by rw [hn28]; rfl) ?_
      obtain ⟨u9, ho, h⟩ := ob h
      obtain ⟨⟨x29, st30⟩, hc, h⟩ := ob h
      refine hV_q (ci := 3) (As := [va_rf x27]) (rest := []) ⟨hx, hb, hml, hown, hts⟩ (cc_ValueParser_parse l G Zd K a28z x27 st x29 st30 hc) (kw_V (n := 1) hts k310 k307 k7 k308 k309 (by decide +kernel) ⟨Nat.le_of_ble_eq_true rfl, Nat.le_of_ble_eq_true rfl⟩) hE hw rfl rfl ho rfl hl.1.1 rfl (c1_8 c1_n (Nat.le_of_ble_eq_true rfl)) d1_4_43 (fun H locs cells slots hw => ?_)
      clear hc ho u9
      refine W.eq (g2 := F0 m 46 ls [va_rf x29]) rfl ?_
      refine xt_astore_n (r := x29) (lv' := [(3, va_rf x29), (2, va_rf x22), (0, .ref o), (1, .int a0)]) hx hb d1_4_46 rfl hl (by decide) rfl (fun ls hl => ?_)
      refine lv_aload_n hx hb d1_4_47 rfl (lv_at hl.1 2 rfl) ?_
      obtain ⟨x32, hr, h⟩ := ob h
      refine xg_q (ci := 0) (C := r_0) (T := f_0) (N := 7) (ref := "PagedValues") hx hb hts (fun w h => List.mem_cons_of_mem _ (ly_0 w h)) hown hE hw rfl 0 (by decide) (hts _ (List.mem_cons_of_mem _ k270)) (fun _ h9 => h9) hr d1_4_48 ?_
      clear hr
      obtain ⟨a33z, hn33, h⟩ := ob h
      have hn33 : x32 = some a33z := hn33
      refine W.eq (g2 := F0 m 51 ls [.ref a33z]) (by rw [hn33]; rfl) ?_
      obtain ⟨u9, ho, h⟩ := ob h
      obtain ⟨st35, hc, h⟩ := ob h
      refine hV_v (ci := 1) (As := []) (rest := []) ⟨hx, hb, hml, hown, hts⟩ (cc_Text_clear l G Zd K a33z st30 st35 hc) (kw_V (n := 0) hts k674 k671 k2 k672 k673 (by decide +kernel) ⟨Nat.le_of_ble_eq_true rfl, Nat.le_of_ble_eq_true rfl⟩) hE hw rfl rfl ho rfl hl.1.1 rfl (c1_8 c1_n (Nat.le_of_ble_eq_true rfl)) d1_4_51 (fun H locs cells slots hw => ?_)
      clear hc ho u9
      refine W.eq (g2 := F0 m 54 ls []) rfl ?_
      refine xq_aload_n (r := x29) hx hb d1_4_54 rfl (lv_at hl.1 0 rfl) ?_
      rcases nl_case h with ⟨hn37, h⟩ | ⟨a37z, hn37, h⟩
      ·
        have hn37 : x29 = none := hn37
        refine W.eq (g2 := F0 m 55 ls [.null]) (by rw [hn37]; rfl) ?_
        refine lv_ifnonnullN hx hb d1_4_55 ?_
        refine lv_bipush (v := (-100)) hx hb d1_4_58 (by decide) ?_
        refine lv_aload_n hx hb d1_4_60 rfl (lv_at hl.1 2 rfl) ?_
        obtain ⟨x38, hr, h⟩ := ob h
        refine xg_q (ci := 0) (C := r_0) (T := f_0) (N := 7) (ref := "PagedValues") hx hb hts (fun w h => List.mem_cons_of_mem _ (ly_0 w h)) hown hE hw rfl 0 (by decide) (hts _ (List.mem_cons_of_mem _ k270)) (fun _ h9 => h9) hr d1_4_61 ?_
        clear hr
        obtain ⟨a39z, hn39, h⟩ := ob h
        have hn39 : x38 = some a39z := hn39
        refine W.eq (g2 := F0 m 64 ls [.ref a39z, .int (-100)]) (by rw [hn39]; rfl) ?_
        obtain ⟨x40, hr, h⟩ := ob h
        refine xgN_i (ci := 1) (C := r_1) (T := f_1) (N := 5) (ref := "PagedValues$Text") hx hb hts (fun w h => List.mem_cons_of_mem _ (ly_1 w h)) hown hE hw rfl 4 (by decide) (va_Nw.use rfl (hZ.1.1 _ kn82)) (fun _ h9 => h9) hr d1_4_64 ?_
        clear hr
        refine lv_isub hx hb d1_4_67 ?_
        obtain ⟨y41, hr, h⟩ := ob h
        refine lv_topi (fun y9 ey => ?_)
        have e9 := ey.trans (Option.some.inj hr)
        clear ey
        subst y9
        clear hr
        cases h
        exact finH_i hQ hx hb hr hlk hE hw d1_4_68
      ·
        have hn37 : x29 = some a37z := hn37
        refine W.eq (g2 := F0 m 55 ls [.ref a37z]) (by rw [hn37]; rfl) ?_
        refine lv_ifnonnull (tgt := 69) hx hb d1_4_55 rfl ?_
        refine lv_aload_n hx hb d1_4_69 rfl (lv_at hl.1 2 rfl) ?_
        obtain ⟨x42, hr, h⟩ := ob h
        refine xg_q (ci := 0) (C := r_0) (T := f_0) (N := 7) (ref := "PagedValues") hx hb hts (fun w h => List.mem_cons_of_mem _ (ly_0 w h)) hown hE hw rfl 2 (by decide) (hts _ (List.mem_cons_of_mem _ k272)) (fun _ h9 => h9) hr d1_4_70 ?_
        clear hr
        refine xq_aload_n (r := x29) hx hb d1_4_73 rfl (lv_at hl.1 0 rfl) ?_
        refine xq_aload_n (r := x22) hx hb d1_4_74 rfl (lv_at hl.1 1 rfl) ?_
        obtain ⟨a43z, hn43, h⟩ := ob h
        have hn43 : x42 = some a43z := hn43
        refine W.eq (g2 := F0 m 75 ls [va_rf x22, va_rf x29, .ref a43z]) (by rw [hn43]; rfl) ?_
        obtain ⟨u9, ho, h⟩ := ob h
        obtain ⟨⟨x44, st45⟩, hc, h⟩ := ob h
        refine hV_i (ci := 4) (As := [va_rf x29, va_rf x22]) (rest := []) ⟨hx, hb, hml, hown, hts⟩ (cc_Patcher_apply l G Zd K a43z x29 x22 st35 x44 st45 hc) (kw_V (n := 2) hts k750 k747 k8 k748 k749 (by decide +kernel) ⟨Nat.le_of_ble_eq_true rfl, Nat.le_of_ble_eq_true rfl⟩) hE hw rfl rfl ho rfl hl.1.1 rfl (c1_8 c1_n (Nat.le_of_ble_eq_true rfl)) d1_4_75 (fun H locs cells slots hw => ?_)
        clear hc ho u9
        refine W.eq (g2 := F0 m 78 ls [.int x44]) rfl ?_
        refine xt_istore (x := x44) (lv' := [(4, .int x44), (3, va_rf x29), (2, va_rf x22), (0, .ref o), (1, .int a0)]) hx hb d1_4_78 hl (by decide) rfl (fun ls hl => ?_)
        refine lv_iload hx hb d1_4_80 (lv_at hl.1 0 rfl) ?_
        obtain ⟨e47, hX, h⟩ := ob h
        obtain ⟨v48, v49⟩ := e47
        have hj : ∀ (H : Heap) (locs : List Loc) (cells slots : Nat) (ls : Array Slot), lw ls 5 [(0, .ref o), (1, .int a0), (2, va_rf x22), (3, va_rf x29), (4, .int v48)] → wsH G Zd A s v49 H locs → W p l e (rmH Zd (62) st.1) s m args below meth c H locs cells slots Q (F0 m 99 ls []) := by
          intro H locs cells slots ls hl hw
          refine lv_iload hx hb d1_4_99 (lv_at hl.1 4 rfl) ?_
          obtain ⟨e50, hX, h⟩ := ob h
          have hj : ∀ (H : Heap) (locs : List Loc) (cells slots : Nat) (ls : Array Slot), lw ls 5 [(0, .ref o), (1, .int a0), (2, va_rf x22), (3, va_rf x29), (4, .int v48)] → wsH G Zd A s v49 H locs → W p l e (rmH Zd (62) st.1) s m args below meth c H locs cells slots Q (F0 m 120 ls [.int e50]) := by
            intro H locs cells slots ls hl hw
            cases h
            exact finH_i hQ hx hb hr hlk hE hw d1_4_120
          clear h
          refine lv_if_ne (tgt := 118) hx hb d1_4_101 rfl (fun c52 => ?_) (fun c52 => ?_)
          ·
            replace h := (if_neg c52).symm.trans hX
            refine lv_iload hx hb d1_4_118 (lv_at hl.1 4 rfl) ?_
            have e9 := Option.some.inj h
            subst e50
            have hl := lw_sub hl (l' := [(0, .ref o), (1, .int a0), (2, va_rf x22), (3, va_rf x29), (4, .int v48)]) [0, 1, 2, 3, 4] rfl
            exact hj _ _ _ _ _ hl hw
          ·
            replace h := (if_pos c52).symm.trans hX
            refine lv_aload_n hx hb d1_4_104 rfl (lv_at hl.1 0 rfl) ?_
            obtain ⟨x53, hr, h⟩ := ob h
            refine xg_q (ci := 0) (C := r_0) (T := f_0) (N := 7) (ref := "PagedValues") hx hb hts (fun w h => List.mem_cons_of_mem _ (ly_0 w h)) hown hE hw rfl 2 (by decide) (hts _ (List.mem_cons_of_mem _ k272)) (fun _ h9 => h9) hr d1_4_105 ?_
            clear hr
            obtain ⟨a54z, hn54, h⟩ := ob h
            have hn54 : x53 = some a54z := hn54
            refine W.eq (g2 := F0 m 108 ls [.ref a54z]) (by rw [hn54]; rfl) ?_
            obtain ⟨x55, hr, h⟩ := ob h
            refine xgN_q (ci := 4) (C := r_4) (T := f_4) (N := 2) (ref := "PagedValues$Patcher") hx hb hts (fun w h => List.mem_cons_of_mem _ (ly_4 w h)) hown hE hw rfl 1 (by decide) (va_Nw.use rfl (hZ.1.1 _ kn124)) (fun _ h9 => h9) hr d1_4_108 ?_
            clear hr
            refine lv_iconst (v := 0) hx hb d1_4_111 (by decide) ?_
            obtain ⟨x56, hc, h⟩ := ob h
            refine hSN_i (As := [va_rf x55, .int 0]) (rest := []) ⟨hx, hb, hml, hown, hts⟩ (cc_Value_sizeOf l G Zd K 10 x55 (0 : Int32) v49 x56 hc) (kw_SN (n := 2) hts hZ.1.1 k739 kn737 k18 k738 (by decide +kernel) ⟨Nat.le_of_ble_eq_true rfl, Nat.le_of_ble_eq_true rfl⟩) hE hw rfl hl.1.1 rfl (c1_8 c1_n (Nat.le_of_ble_eq_true rfl)) d1_4_112 (fun H locs cells slots hw => ?_)
            clear hc
            refine W.eq (g2 := F0 m 115 ls [.int x56]) rfl ?_
            refine lv_goto (tgt := 120) hx hb d1_4_115 rfl ?_
            have e9 := Option.some.inj h
            subst e50
            have hl := lw_sub hl (l' := [(0, .ref o), (1, .int a0), (2, va_rf x22), (3, va_rf x29), (4, .int v48)]) [0, 1, 2, 3, 4] rfl
            exact hj _ _ _ _ _ hl hw
        clear h
        refine lv_if_ne (tgt := 99) hx hb d1_4_82 rfl (fun c59 => ?_) (fun c59 => ?_)
        ·
          replace h := (if_neg c59).symm.trans hX
          have e9_0 := Option.some.inj h
          obtain ⟨q9, e9_1⟩ := Prod.mk.inj e9_0
          clear e9_0
          subst v48
          subst v49
          have hl := lw_sub hl (l' := [(0, .ref o), (1, .int a0), (2, va_rf x22), (3, va_rf x29), (4, .int x44)]) [3, 4, 2, 1, 0] rfl
          exact hj _ _ _ _ _ hl hw
        ·
          replace h := (if_pos c59).symm.trans hX
          refine lv_aload_n hx hb d1_4_85 rfl (lv_at hl.1 3 rfl) ?_
          refine lv_iload_n hx hb d1_4_86 rfl (lv_at hl.1 4 rfl) ?_
          refine lv_aload_n hx hb d1_4_87 rfl (lv_at hl.1 3 rfl) ?_
          obtain ⟨x60, hr, h⟩ := ob h
          refine xg_q (ci := 0) (C := r_0) (T := f_0) (N := 7) (ref := "PagedValues") hx hb hts (fun w h => List.mem_cons_of_mem _ (ly_0 w h)) hown hE hw rfl 2 (by decide) (hts _ (List.mem_cons_of_mem _ k272)) (fun _ h9 => h9) hr d1_4_88 ?_
          clear hr
          obtain ⟨a61z, hn61, h⟩ := ob h
          have hn61 : x60 = some a61z := hn61
          refine W.eq (g2 := F0 m 91 ls [.ref a61z, .int a0, .ref o]) (by rw [hn61]; rfl) ?_
          obtain ⟨x62, hr, h⟩ := ob h
          refine xgN_q (ci := 4) (C := r_4) (T := f_4) (N := 2) (ref := "PagedValues$Patcher") hx hb hts (fun w h => List.mem_cons_of_mem _ (ly_4 w h)) hown hE hw rfl 1 (by decide) (va_Nw.use rfl (hZ.1.1 _ kn124)) (fun _ h9 => h9) hr d1_4_91 ?_
          clear hr
          obtain ⟨u9, ho, h⟩ := ob h
          obtain ⟨⟨x63, st64⟩, hc, h⟩ := ob h
          refine hV_i (ci := 0) (As := [.int a0, va_rf x62]) (rest := []) ⟨hx, hb, hml, hown, hts⟩ (cc_PagedValues_change l G Zd K o a0 x62 st45 x63 st64 hc) (kw_V (n := 2) hts k678 k675 k1 k677 ks7 (by decide +kernel) ⟨Nat.le_of_ble_eq_true rfl, Nat.le_of_ble_eq_true rfl⟩) hE hw rfl rfl ho rfl hl.1.1 rfl (c1_8 c1_n (Nat.le_of_ble_eq_true rfl)) d1_4_94 (fun H locs cells slots hw => ?_)
          clear hc ho u9
          refine W.eq (g2 := F0 m 97 ls [.int x63]) rfl ?_
          refine xt_istore (x := x63) (lv' := [(4, .int x63), (3, va_rf x29), (2, va_rf x22), (0, .ref o), (1, .int a0)]) hx hb d1_4_97 hl (by decide) rfl (fun ls hl => ?_)
          have e9_0 := Option.some.inj h
          obtain ⟨q9, e9_1⟩ := Prod.mk.inj e9_0
          clear e9_0
          subst v48
          subst v49
          have hl := lw_sub hl (l' := [(0, .ref o), (1, .int a0), (2, va_rf x22), (3, va_rf x29), (4, .int x63)]) [3, 4, 2, 1, 0] rfl
          exact hj _ _ _ _ _ hl hw
  ·
    replace h := (if_neg c14).symm.trans h
    refine lv_bipush (v := (-9)) hx hb d1_4_10 (by decide) ?_
    cases h
    exact finH_i hQ hx hb hr hlk hE hw d1_4_12
theorem d1_5_0 : decode prog_1_method_5_code 0 = .ok (.aload_n 0, 1) := by decide +kernel
theorem d1_5_1 : decode prog_1_method_5_code 1 = .ok (.getfield 47, 3) := by decide +kernel
theorem d1_5_4 : decode prog_1_method_5_code 4 = .ok (.getfield 58, 3) := by decide +kernel
theorem d1_5_7 : decode prog_1_method_5_code 7 = .ok (.ifCond .eq 6, 3) := by decide +kernel
theorem d1_5_13 : decode prog_1_method_5_code 13 = .ok (.aload_n 0, 1) := by decide +kernel
theorem d1_5_14 : decode prog_1_method_5_code 14 = .ok (.getfield 47, 3) := by decide +kernel
theorem d1_5_17 : decode prog_1_method_5_code 17 = .ok (.aload_n 0, 1) := by decide +kernel
theorem d1_5_18 : decode prog_1_method_5_code 18 = .ok (.getfield 47, 3) := by decide +kernel
theorem d1_5_21 : decode prog_1_method_5_code 21 = .ok (.invokevirtual 94, 3) := by decide +kernel
theorem d1_5_24 : decode prog_1_method_5_code 24 = .ok (.iload_n 1, 1) := by decide +kernel
theorem d1_5_25 : decode prog_1_method_5_code 25 = .ok (.invokevirtual 98, 3) := by decide +kernel
theorem d1_5_28 : decode prog_1_method_5_code 28 = .ok (.ifnonnull 5, 3) := by decide +kernel
theorem d1_5_31 : decode prog_1_method_5_code 31 = .ok (.iconst (-1), 1) := by decide +kernel
theorem d1_5_32 : decode prog_1_method_5_code 32 = .ok (.ireturn, 1) := by decide +kernel
theorem d1_5_33 : decode prog_1_method_5_code 33 = .ok (.aload_n 0, 1) := by decide +kernel
theorem d1_5_34 : decode prog_1_method_5_code 34 = .ok (.iload_n 1, 1) := by decide +kernel
theorem d1_5_35 : decode prog_1_method_5_code 35 = .ok (.aconst_null, 1) := by decide +kernel
theorem d1_5_36 : decode prog_1_method_5_code 36 = .ok (.invokevirtual 84, 3) := by decide +kernel
theorem d1_5_39 : decode prog_1_method_5_code 39 = .ok (.istore_n 2, 1) := by decide +kernel
theorem d1_5_40 : decode prog_1_method_5_code 40 = .ok (.iload_n 2, 1) := by decide +kernel
theorem d1_5_41 : decode prog_1_method_5_code 41 = .ok (.ifCond .ne 13, 3) := by decide +kernel
theorem d1_5_54 : decode prog_1_method_5_code 54 = .ok (.iload_n 2, 1) := by decide +kernel
theorem d1_5_44 : decode prog_1_method_5_code 44 = .ok (.aload_n 0, 1) := by decide +kernel
theorem d1_5_45 : decode prog_1_method_5_code 45 = .ok (.getfield 47, 3) := by decide +kernel
theorem d1_5_48 : decode prog_1_method_5_code 48 = .ok (.invokevirtual 109, 3) := by decide +kernel
theorem d10_12_0 : decode prog_10_method_12_code 0 = .ok (.iconst 0, 1) := by decide +kernel
theorem d10_12_1 : decode prog_10_method_12_code 1 = .ok (.istore_n 1, 1) := by decide +kernel
theorem d10_12_2 : decode prog_10_method_12_code 2 = .ok (.iconst 0, 1) := by decide +kernel
theorem d10_12_3 : decode prog_10_method_12_code 3 = .ok (.istore_n 2, 1) := by decide +kernel
theorem d10_12_36 : decode prog_10_method_12_code 36 = .ok (.iload_n 1, 1) := by decide +kernel
theorem d10_12_37 : decode prog_10_method_12_code 37 = .ok (.ireturn, 1) := by decide +kernel
theorem d10_12_4 : decode prog_10_method_12_code 4 = .ok (.iload_n 2, 1) := by decide +kernel
theorem d10_12_5 : decode prog_10_method_12_code 5 = .ok (.bipush 8, 2) := by decide +kernel
theorem d10_12_7 : decode prog_10_method_12_code 7 = .ok (.if_icmp .ge 29, 3) := by decide +kernel
theorem d10_12_10 : decode prog_10_method_12_code 10 = .ok (.iload_n 1, 1) := by decide +kernel
theorem d10_12_11 : decode prog_10_method_12_code 11 = .ok (.aload_n 0, 1) := by decide +kernel
theorem d10_12_12 : decode prog_10_method_12_code 12 = .ok (.aload_n 0, 1) := by decide +kernel
theorem d10_12_13 : decode prog_10_method_12_code 13 = .ok (.invokevirtual 46, 3) := by decide +kernel
theorem d10_12_16 : decode prog_10_method_12_code 16 = .ok (.iload_n 2, 1) := by decide +kernel
theorem d10_12_17 : decode prog_10_method_12_code 17 = .ok (.invokevirtual 62, 3) := by decide +kernel
theorem d10_12_20 : decode prog_10_method_12_code 20 = .ok (.ifnonnull 7, 3) := by decide +kernel
theorem d10_12_23 : decode prog_10_method_12_code 23 = .ok (.iconst 0, 1) := by decide +kernel
theorem d10_12_24 : decode prog_10_method_12_code 24 = .ok (.goto 4, 3) := by decide +kernel
theorem d10_12_27 : decode prog_10_method_12_code 27 = .ok (.iconst 1, 1) := by decide +kernel
theorem d10_12_28 : decode prog_10_method_12_code 28 = .ok (.iadd, 1) := by decide +kernel
theorem d10_12_29 : decode prog_10_method_12_code 29 = .ok (.istore_n 1, 1) := by decide +kernel
theorem d10_12_30 : decode prog_10_method_12_code 30 = .ok (.iinc 2 1, 3) := by decide +kernel
theorem d10_12_33 : decode prog_10_method_12_code 33 = .ok (.goto (-29), 3) := by decide +kernel
def y10_12 : MethodName := { cls := "PagedValues$Store", name := "documentCount", desc := "()I" }
theorem k875 : (Jvm.Cond.code ({ cls := "PagedValues$Store", name := "documentCount", desc := "()I" } : Jvm.MethodName) prog_10_method_12_code (3 : Nat) (Option.some Jvm.ClassFile.FieldType.int)) ∈ TB := tk_4 155 rfl rfl
theorem k872 : (Jvm.Cond.methodLink "PagedValues" (109 : Nat) ({ cls := "PagedValues$Store", name := "documentCount", desc := "()I" } : Jvm.MethodName)) ∈ TB := tk_4 152 rfl rfl
theorem k873 : (Jvm.Cond.instanceMethod ({ cls := "PagedValues$Store", name := "documentCount", desc := "()I" } : Jvm.MethodName)) ∈ TB := tk_4 153 rfl rfl
theorem k874 : (Jvm.Cond.selects "PagedValues$Store" ({ cls := "PagedValues$Store", name := "documentCount", desc := "()I" } : Jvm.MethodName) ({ cls := "PagedValues$Store", name := "documentCount", desc := "()I" } : Jvm.MethodName)) ∈ TB := tk_4 154 rfl rfl
theorem d1_5_51 : decode prog_1_method_5_code 51 = .ok (.goto 4, 3) := by decide +kernel
theorem d1_5_55 : decode prog_1_method_5_code 55 = .ok (.ireturn, 1) := by decide +kernel
theorem d1_5_10 : decode prog_1_method_5_code 10 = .ok (.bipush (-9), 2) := by decide +kernel
theorem d1_5_12 : decode prog_1_method_5_code 12 = .ok (.ireturn, 1) := by decide +kernel
def y1_5 : MethodName := { cls := "PagedValues", name := "remove", desc := "(I)I" }
def c_Store_documentCount_l1 (Zd : Nat → Nat) (K : KE) (o : Nat) (st : CS) : Nat → (Int32 × Int32) → Option (Int32 × Int32)
  | 0, _ => none
  | n9 + 1, e9 => if (8 : Int32) ≤ e9.2 then (some (e9.1, e9.2)) else ((isO K st o 9).bind fun _ => (c_Store_currentRoot Zd K o st).bind fun x17 => (isO K st o 9).bind fun _ => (c_Store_document Zd K o x17 e9.2 st).bind fun x20 => (nl x20 (some (0 : Int32)) (fun a27z => some (1 : Int32))).bind fun e23 => (some (e9.1 + e23)).bind fun y25 => (some (e9.2 + 1)).bind fun y26 => c_Store_documentCount_l1 Zd K o st n9 (y25, y26))
theorem c_Store_documentCount_l1_s (Zd : Nat → Nat) (K : KE) (o : Nat) (st : CS) (n9 : Nat) (e9 : Int32 × Int32) : c_Store_documentCount_l1 Zd K o st (n9 + 1) e9 = (if (8 : Int32) ≤ e9.2 then (some (e9.1, e9.2)) else ((isO K st o 9).bind fun _ => (c_Store_currentRoot Zd K o st).bind fun x17 => (isO K st o 9).bind fun _ => (c_Store_document Zd K o x17 e9.2 st).bind fun x20 => (nl x20 (some (0 : Int32)) (fun a27z => some (1 : Int32))).bind fun e23 => (some (e9.1 + e23)).bind fun y25 => (some (e9.2 + 1)).bind fun y26 => c_Store_documentCount_l1 Zd K o st n9 (y25, y26))) := rfl
def c_Store_documentCount (Zd : Nat → Nat) (K : KE) (o : Nat) (st : CS) : Option (Int32) := (c_Store_documentCount_l1 Zd K o st 4096 ((0 : Int32), (0 : Int32))).bind fun e11 => some e11.1
set_option maxHeartbeats 4000000 in
set_option maxRecDepth 100000 in
theorem cc_Store_documentCount (l : Launch) (G : Gk) (Zd : Nat → Nat) (K : KE) (o : Nat) (st : CS) (r0 : Int32) (hm : c_Store_documentCount Zd K o st = some r0) : CT l y10_12 prog_10_method_12_code 3 (some .int) G Zd K (2) [.ref o] st (hI G Zd r0 st) := by
  refine goH (d := 2) (y := y10_12) (cc := prog_10_method_12_code) (maxL := 3) (ret := (some .int)) (av := [.ref o]) (Qc := hI G Zd r0 st) "PagedValues$Store" rfl (by decide) (c1_c rfl c1_n) (Nat.le_of_ble_eq_true rfl) ?_
  intro p e s m below meth c ls A args Q hQ hx hb hr hlk hml hown hts hin hl hE hw
  have hl : lw ls 3 [(0, .ref o)] := hl
  have hZ := hE.2.2.1
  have h := hm
  clear hm
  refine lv_iconst (v := 0) hx hb d10_12_0 (by decide) ?_
  refine xt_istore_n (x := 0) (lv' := [(1, .int 0), (0, .ref o)]) hx hb d10_12_1 rfl hl (by decide) rfl (fun ls hl => ?_)
  refine lv_iconst (v := 0) hx hb d10_12_2 (by decide) ?_
  refine xt_istore_n (x := 0) (lv' := [(2, .int 0), (1, .int 0), (0, .ref o)]) hx hb d10_12_3 rfl hl (by decide) rfl (fun ls hl => ?_)
  obtain ⟨e11, hX, hrest⟩ := ob h
  clear h
  have hj : ∀ (v14 : Int32) (v15 : Int32), e11 = (v14, v15) → ∀ (H : Heap) (locs : List Loc) (cells slots : Nat) (ls : Array Slot), lw ls 3 [(0, .ref o), (1, .int v14), (2, .int v15)] → wsH G Zd A s st H locs → W p l e (rmH Zd (2) st.1) s m args below meth c H locs cells slots Q (F0 m 36 ls []) := by
    intro v14 v15 he H locs cells slots ls hl hw
    subst e11
    have h := hrest
    clear hrest
    refine lv_iload_n hx hb d10_12_36 rfl (lv_at hl.1 1 rfl) ?_
    cases h
    exact finH_i hQ hx hb hr hlk hE hw d10_12_37
  have hloop : ∀ (n9 : Nat) (v12 : Int32) (v13 : Int32), c_Store_documentCount_l1 Zd K o st n9 (v12, v13) = some e11 → ∀ (H : Heap) (locs : List Loc) (cells slots : Nat) (ls : Array Slot), lw ls 3 [(0, .ref o), (1, .int v12), (2, .int v13)] → wsH G Zd A s st H locs → W p l e (rmH Zd (2) st.1) s m args below meth c H locs cells slots Q (F0 m 4 ls []) := by
    intro n9
    induction n9 with
    | zero =>
      intro v12 v13 h
      cases h
    | succ n9 ih =>
      intro v12 v13 h H locs cells slots ls hl hw
      replace h := (c_Store_documentCount_l1_s Zd K o st n9 (v12, v13)).symm.trans h
      refine lv_iload_n hx hb d10_12_4 rfl (lv_at hl.1 2 rfl) ?_
      refine lv_bipush (v := 8) hx hb d10_12_5 (by decide) ?_
      refine lv_icmp_ge (tgt := 36) hx hb d10_12_7 rfl (fun c16 => ?_) (fun c16 => ?_)
      ·
        replace h := (if_pos c16).symm.trans h
        have e9 := Option.some.inj h
        subst e11
        have hl := lw_sub hl (l' := [(0, .ref o), (1, .int v12), (2, .int v13)]) [0, 1, 2] rfl
        exact hj _ _ rfl _ _ _ _ _ hl hw
      ·
        replace h := (if_neg c16).symm.trans h
        refine lv_iload_n hx hb d10_12_10 rfl (lv_at hl.1 1 rfl) ?_
        refine lv_aload_n hx hb d10_12_11 rfl (lv_at hl.1 0 rfl) ?_
        refine lv_aload_n hx hb d10_12_12 rfl (lv_at hl.1 0 rfl) ?_
        obtain ⟨u9, ho, h⟩ := ob h
        obtain ⟨x17, hc, h⟩ := ob h
        refine hV_i (ci := 9) (As := []) (rest := [.ref o, .int v12]) ⟨hx, hb, hml, hown, hts⟩ (cc_Store_currentRoot l G Zd K o st x17 hc) (kw_V (n := 0) hts k686 k683 k13 k684 k685 (by decide +kernel) ⟨Nat.le_of_ble_eq_true rfl, Nat.le_of_ble_eq_true rfl⟩) hE hw rfl rfl ho rfl hl.1.1 rfl (c1_8 (c1_c rfl (c1_c rfl c1_n)) (Nat.le_of_ble_eq_true rfl)) d10_12_13 (fun H locs cells slots hw => ?_)
        clear hc ho u9
        refine W.eq (g2 := F0 m 16 ls [.int x17, .ref o, .int v12]) rfl ?_
        refine lv_iload_n hx hb d10_12_16 rfl (lv_at hl.1 2 rfl) ?_
        obtain ⟨u9, ho, h⟩ := ob h
        obtain ⟨x20, hc, h⟩ := ob h
        refine hV_q (ci := 9) (As := [.int x17, .int v13]) (rest := [.int v12]) ⟨hx, hb, hml, hown, hts⟩ (cc_Store_document l G Zd K o x17 v13 st x20 hc) (kw_V (n := 2) hts k702 k699 k13 k700 k701 (by decide +kernel) ⟨Nat.le_of_ble_eq_true rfl, Nat.le_of_ble_eq_true rfl⟩) hE hw rfl rfl ho rfl hl.1.1 rfl (c1_8 (c1_c rfl c1_n) (Nat.le_of_ble_eq_true rfl)) d10_12_17 (fun H locs cells slots hw => ?_)
        clear hc ho u9
        refine W.eq (g2 := F0 m 20 ls [va_rf x20, .int v12]) rfl ?_
        obtain ⟨e23, hX, h⟩ := ob h
        have hj : ∀ (H : Heap) (locs : List Loc) (cells slots : Nat) (ls : Array Slot), lw ls 3 [(0, .ref o), (1, .int v12), (2, .int v13)] → wsH G Zd A s st H locs → W p l e (rmH Zd (2) st.1) s m args below meth c H locs cells slots Q (F0 m 28 ls [.int e23, .int v12]) := by
          intro H locs cells slots ls hl hw
          refine lv_iadd hx hb d10_12_28 ?_
          obtain ⟨y25, hr, h⟩ := ob h
          refine lv_topi (fun y9 ey => ?_)
          have e9 := ey.trans (Option.some.inj hr)
          clear ey
          subst y9
          clear hr
          refine xt_istore_n (x := y25) (lv' := [(1, .int y25), (0, .ref o), (2, .int v13)]) hx hb d10_12_29 rfl hl (by decide) rfl (fun ls hl => ?_)
          obtain ⟨y26, hr, h⟩ := ob h
          refine xt_iinc (k := 2) (v := y26) (lv' := [(2, .int y26), (1, .int y25), (0, .ref o)]) hx hb d10_12_30 hl rfl hr (by decide) rfl (fun ls hl => ?_)
          clear hr
          refine lv_goto (tgt := 4) hx hb d10_12_33 rfl ?_
          have hl := lw_sub hl (l' := [(0, .ref o), (1, .int y25), (2, .int y26)]) [2, 1, 0] rfl
          exact ih _ _ h _ _ _ _ _ hl hw
        clear h
        rcases nl_case hX with ⟨hn27, h⟩ | ⟨a27z, hn27, h⟩
        ·
          have hn27 : x20 = none := hn27
          refine W.eq (g2 := F0 m 20 ls [.null, .int v12]) (by rw [hn27]; rfl) ?_
          refine lv_ifnonnullN hx hb d10_12_20 ?_
          refine lv_iconst (v := 0) hx hb d10_12_23 (by decide) ?_
          refine lv_goto (tgt := 28) hx hb d10_12_24 rfl ?_
          have e9 := Option.some.inj h
          subst e23
          have hl := lw_sub hl (l' := [(0, .ref o), (1, .int v12), (2, .int v13)]) [0, 1, 2] rfl
          exact hj _ _ _ _ _ hl hw
        ·
          have hn27 : x20 = some a27z := hn27
          refine W.eq (g2 := F0 m 20 ls [.ref a27z, .int v12]) (by rw [hn27]; rfl) ?_
          refine lv_ifnonnull (tgt := 27) hx hb d10_12_20 rfl ?_
          refine lv_iconst (v := 1) hx hb d10_12_27 (by decide) ?_
          have e9 := Option.some.inj h
          subst e23
          have hl := lw_sub hl (l' := [(0, .ref o), (1, .int v12), (2, .int v13)]) [0, 1, 2] rfl
          exact hj _ _ _ _ _ hl hw
  have hl := lw_sub hl (l' := [(0, .ref o), (1, .int 0), (2, .int 0)]) [2, 1, 0] rfl
  exact hloop _ _ _ hX _ _ _ _ _ hl hw
def c_PagedValues_remove (Zd : Nat → Nat) (K : KE) (o : Nat) (a0 : Int32) (st : CS) : Option (Int32 × CS) := (gQ K st o 0 5).bind fun x11 => x11.bind fun a12z => (gI K st a12z 9 8).bind fun x13 => if x13 = (0 : Int32) then ((gQ K st o 0 5).bind fun x15 => (gQ K st o 0 5).bind fun x16 => x16.bind fun a17z => (isO K st a17z 9).bind fun _ => (c_Store_currentRoot Zd K a17z st).bind fun x18 => x15.bind fun a21z => (isO K st a21z 9).bind fun _ => (c_Store_document Zd K a21z x18 a0 st).bind fun x22 => nl x22 (some (((-1) : Int32), st)) (fun a25z => (isO K st o 0).bind fun _ => (c_PagedValues_change Zd K o a0 none st).bind fun r28 => (if r28.1 = (0 : Int32) then ((gQ K r28.2 o 0 5).bind fun x32 => x32.bind fun a33z => (isO K r28.2 a33z 9).bind fun _ => (c_Store_documentCount Zd K a33z r28.2).bind fun x34 => some x34) else (some r28.1)).bind fun e29 => some (e29, r28.2))) else (some (((-9) : Int32), st))
set_option maxHeartbeats 4000000 in
set_option maxRecDepth 100000 in
theorem cc_PagedValues_remove (l : Launch) (G : Gk) (Zd : Nat → Nat) (K : KE) (o : Nat) (a0 : Int32) (st : CS) (r0 : Int32) (st0 : CS) (hm : c_PagedValues_remove Zd K o a0 st = some (r0, st0)) : CT l y1_5 prog_1_method_5_code 3 (some .int) G Zd K (6) [.ref o, .int a0] st (hI G Zd r0 st0) := by
  refine goH (d := 6) (y := y1_5) (cc := prog_1_method_5_code) (maxL := 3) (ret := (some .int)) (av := [.ref o, .int a0]) (Qc := hI G Zd r0 st0) "PagedValues" rfl (by decide) (c1_c rfl (c1_c rfl c1_n)) (Nat.le_of_ble_eq_true rfl) ?_
  intro p e s m below meth c ls A args Q hQ hx hb hr hlk hml hown hts hin hl hE hw
  have hl : lw ls 3 [(0, .ref o), (1, .int a0)] := hl
  have hZ := hE.2.2.1
  have h := hm
  clear hm
  refine lv_aload_n hx hb d1_5_0 rfl (lv_at hl.1 0 rfl) ?_
  obtain ⟨x11, hr, h⟩ := ob h
  refine xg_q (ci := 0) (C := r_0) (T := f_0) (N := 7) (ref := "PagedValues") hx hb hts (fun w h => List.mem_cons_of_mem _ (ly_0 w h)) hown hE hw rfl 5 (by decide) (hts _ (List.mem_cons_of_mem _ k275)) (fun _ h9 => h9) hr d1_5_1 ?_
  clear hr
  obtain ⟨a12z, hn12, h⟩ := ob h
  have hn12 : x11 = some a12z := hn12
  refine W.eq (g2 := F0 m 4 ls [.ref a12z]) (by rw [hn12]; rfl) ?_
  obtain ⟨x13, hr, h⟩ := ob h
  refine xgN_i (ci := 9) (C := r_9) (T := f_9) (N := 9) (ref := "PagedValues$Store") hx hb hts (fun w h => List.mem_cons_of_mem _ (ly_9 w h)) hown hE hw rfl 8 (by decide) (va_Nw.use rfl (hZ.1.1 _ kn247)) (fun _ h9 => h9) hr d1_5_4 ?_
  clear hr
  refine lv_if_eq (tgt := 13) hx hb d1_5_7 rfl (fun c14 => ?_) (fun c14 => ?_)
  ·
    replace h := (if_pos c14).symm.trans h
    refine lv_aload_n hx hb d1_5_13 rfl (lv_at hl.1 0 rfl) ?_
    obtain ⟨x15, hr, h⟩ := ob h
    refine xg_q (ci := 0) (C := r_0) (T := f_0) (N := 7) (ref := "PagedValues") hx hb hts (fun w h => List.mem_cons_of_mem _ (ly_0 w h)) hown hE hw rfl 5 (by decide) (hts _ (List.mem_cons_of_mem _ k275)) (fun _ h9 => h9) hr d1_5_14 ?_
    clear hr
    refine lv_aload_n hx hb d1_5_17 rfl (lv_at hl.1 0 rfl) ?_
    obtain ⟨x16, hr, h⟩ := ob h
    refine xg_q (ci := 0) (C := r_0) (T := f_0) (N := 7) (ref := "PagedValues") hx hb hts (fun w h => List.mem_cons_of_mem _ (ly_0 w h)) hown hE hw rfl 5 (by decide) (hts _ (List.mem_cons_of_mem _ k275)) (fun _ h9 => h9) hr d1_5_18 ?_
    clear hr
    obtain ⟨a17z, hn17, h⟩ := ob h
    have hn17 : x16 = some a17z := hn17
    refine W.eq (g2 := F0 m 21 ls [.ref a17z, va_rf x15]) (by rw [hn17]; rfl) ?_
    obtain ⟨u9, ho, h⟩ := ob h
    obtain ⟨x18, hc, h⟩ := ob h
    refine hV_i (ci := 9) (As := []) (rest := [va_rf x15]) ⟨hx, hb, hml, hown, hts⟩ (cc_Store_currentRoot l G Zd K a17z st x18 hc) (kw_V (n := 0) hts k686 k745 k13 k684 k685 (by decide +kernel) ⟨Nat.le_of_ble_eq_true rfl, Nat.le_of_ble_eq_true rfl⟩) hE hw rfl rfl ho rfl hl.1.1 rfl (c1_8 (c1_c (rf_cat _) c1_n) (Nat.le_of_ble_eq_true rfl)) d1_5_21 (fun H locs cells slots hw => ?_)
    clear hc ho u9
    refine W.eq (g2 := F0 m 24 ls [.int x18, va_rf x15]) rfl ?_
    refine lv_iload_n hx hb d1_5_24 rfl (lv_at hl.1 1 rfl) ?_
    obtain ⟨a21z, hn21, h⟩ := ob h
    have hn21 : x15 = some a21z := hn21
    refine W.eq (g2 := F0 m 25 ls [.int a0, .int x18, .ref a21z]) (by rw [hn21]; rfl) ?_
    obtain ⟨u9, ho, h⟩ := ob h
    obtain ⟨x22, hc, h⟩ := ob h
    refine hV_q (ci := 9) (As := [.int x18, .int a0]) (rest := []) ⟨hx, hb, hml, hown, hts⟩ (cc_Store_document l G Zd K a21z x18 a0 st x22 hc) (kw_V (n := 2) hts k702 k746 k13 k700 k701 (by decide +kernel) ⟨Nat.le_of_ble_eq_true rfl, Nat.le_of_ble_eq_true rfl⟩) hE hw rfl rfl ho rfl hl.1.1 rfl (c1_8 c1_n (Nat.le_of_ble_eq_true rfl)) d1_5_25 (fun H locs cells slots hw => ?_)
    clear hc ho u9
    refine W.eq (g2 := F0 m 28 ls [va_rf x22]) rfl ?_
    rcases nl_case h with ⟨hn25, h⟩ | ⟨a25z, hn25, h⟩
    ·
      have hn25 : x22 = none := hn25
      refine W.eq (g2 := F0 m 28 ls [.null]) (by rw [hn25]; rfl) ?_
      refine lv_ifnonnullN hx hb d1_5_28 ?_
      refine lv_iconst (v := (-1)) hx hb d1_5_31 (by decide) ?_
      cases h
      exact finH_i hQ hx hb hr hlk hE hw d1_5_32
    ·
      have hn25 : x22 = some a25z := hn25
      refine W.eq (g2 := F0 m 28 ls [.ref a25z]) (by rw [hn25]; rfl) ?_
      refine lv_ifnonnull (tgt := 33) hx hb d1_5_28 rfl ?_
      refine lv_aload_n hx hb d1_5_33 rfl (lv_at hl.1 0 rfl) ?_
      refine lv_iload_n hx hb d1_5_34 rfl (lv_at hl.1 1 rfl) ?_
      refine lv_null hx hb d1_5_35 ?_
      obtain ⟨u9, ho, h⟩ := ob h
      obtain ⟨⟨x26, st27⟩, hc, h⟩ := ob h
      refine hV_i (ci := 0) (As := [.int a0, .null]) (rest := []) ⟨hx, hb, hml, hown, hts⟩ (cc_PagedValues_change l G Zd K o a0 none st x26 st27 hc) (kw_V (n := 2) hts k678 k675 k1 k677 ks7 (by decide +kernel) ⟨Nat.le_of_ble_eq_true rfl, Nat.le_of_ble_eq_true rfl⟩) hE hw rfl rfl ho rfl hl.1.1 rfl (c1_8 c1_n (Nat.le_of_ble_eq_true rfl)) d1_5_36 (fun H locs cells slots hw => ?_)
      clear hc ho u9
      refine W.eq (g2 := F0 m 39 ls [.int x26]) rfl ?_
      refine xt_istore_n (x := x26) (lv' := [(2, .int x26), (0, .ref o), (1, .int a0)]) hx hb d1_5_39 rfl hl (by decide) rfl (fun ls hl => ?_)
      refine lv_iload_n hx hb d1_5_40 rfl (lv_at hl.1 0 rfl) ?_
      obtain ⟨e29, hX, h⟩ := ob h
      have hj : ∀ (H : Heap) (locs : List Loc) (cells slots : Nat) (ls : Array Slot), lw ls 3 [(0, .ref o), (1, .int a0), (2, .int x26)] → wsH G Zd A s st27 H locs → W p l e (rmH Zd (6) st.1) s m args below meth c H locs cells slots Q (F0 m 55 ls [.int e29]) := by
        intro H locs cells slots ls hl hw
        cases h
        exact finH_i hQ hx hb hr hlk hE hw d1_5_55
      clear h
      refine lv_if_ne (tgt := 54) hx hb d1_5_41 rfl (fun c31 => ?_) (fun c31 => ?_)
      ·
        replace h := (if_neg c31).symm.trans hX
        refine lv_iload_n hx hb d1_5_54 rfl (lv_at hl.1 0 rfl) ?_
        have e9 := Option.some.inj h
        subst e29
        have hl := lw_sub hl (l' := [(0, .ref o), (1, .int a0), (2, .int x26)]) [1, 2, 0] rfl
        exact hj _ _ _ _ _ hl hw
      ·
        replace h := (if_pos c31).symm.trans hX
        refine lv_aload_n hx hb d1_5_44 rfl (lv_at hl.1 1 rfl) ?_
        obtain ⟨x32, hr, h⟩ := ob h
        refine xg_q (ci := 0) (C := r_0) (T := f_0) (N := 7) (ref := "PagedValues") hx hb hts (fun w h => List.mem_cons_of_mem _ (ly_0 w h)) hown hE hw rfl 5 (by decide) (hts _ (List.mem_cons_of_mem _ k275)) (fun _ h9 => h9) hr d1_5_45 ?_
        clear hr
        obtain ⟨a33z, hn33, h⟩ := ob h
        have hn33 : x32 = some a33z := hn33
        refine W.eq (g2 := F0 m 48 ls [.ref a33z]) (by rw [hn33]; rfl) ?_
        obtain ⟨u9, ho, h⟩ := ob h
        obtain ⟨x34, hc, h⟩ := ob h
        refine hV_i (ci := 9) (As := []) (rest := []) ⟨hx, hb, hml, hown, hts⟩ (cc_Store_documentCount l G Zd K a33z st27 x34 hc) (kw_V (n := 0) hts k875 k872 k13 k873 k874 (by decide +kernel) ⟨Nat.le_of_ble_eq_true rfl, Nat.le_of_ble_eq_true rfl⟩) hE hw rfl rfl ho rfl hl.1.1 rfl (c1_8 c1_n (Nat.le_of_ble_eq_true rfl)) d1_5_48 (fun H locs cells slots hw => ?_)
        clear hc ho u9
        refine W.eq (g2 := F0 m 51 ls [.int x34]) rfl ?_
        refine lv_goto (tgt := 55) hx hb d1_5_51 rfl ?_
        have e9 := Option.some.inj h
        subst e29
        have hl := lw_sub hl (l' := [(0, .ref o), (1, .int a0), (2, .int x26)]) [1, 2, 0] rfl
        exact hj _ _ _ _ _ hl hw
  ·
    replace h := (if_neg c14).symm.trans h
    refine lv_bipush (v := (-9)) hx hb d1_5_10 (by decide) ?_
    cases h
    exact finH_i hQ hx hb hr hlk hE hw d1_5_12
theorem d1_6_0 : decode prog_1_method_6_code 0 = .ok (.aload_n 0, 1) := by decide +kernel
theorem d1_6_1 : decode prog_1_method_6_code 1 = .ok (.getfield 47, 3) := by decide +kernel
theorem d1_6_4 : decode prog_1_method_6_code 4 = .ok (.getfield 58, 3) := by decide +kernel
theorem d1_6_7 : decode prog_1_method_6_code 7 = .ok (.ifCond .eq 6, 3) := by decide +kernel
theorem d1_6_13 : decode prog_1_method_6_code 13 = .ok (.aload_n 0, 1) := by decide +kernel
theorem d1_6_14 : decode prog_1_method_6_code 14 = .ok (.getfield 47, 3) := by decide +kernel
theorem d1_6_17 : decode prog_1_method_6_code 17 = .ok (.iload_n 1, 1) := by decide +kernel
theorem d1_6_18 : decode prog_1_method_6_code 18 = .ok (.invokevirtual 112, 3) := by decide +kernel
theorem d10_5_0 : decode prog_10_method_5_code 0 = .ok (.iload_n 1, 1) := by decide +kernel
theorem d10_5_1 : decode prog_10_method_5_code 1 = .ok (.iconst (-1), 1) := by decide +kernel
theorem d10_5_2 : decode prog_10_method_5_code 2 = .ok (.if_icmp .eq 11, 3) := by decide +kernel
theorem d10_5_13 : decode prog_10_method_5_code 13 = .ok (.iconst 1, 1) := by decide +kernel
theorem d10_5_14 : decode prog_10_method_5_code 14 = .ok (.goto 4, 3) := by decide +kernel
theorem d10_5_5 : decode prog_10_method_5_code 5 = .ok (.aload_n 0, 1) := by decide +kernel
theorem d10_5_6 : decode prog_10_method_5_code 6 = .ok (.iload_n 1, 1) := by decide +kernel
theorem d10_5_7 : decode prog_10_method_5_code 7 = .ok (.invokevirtual 42, 3) := by decide +kernel
theorem d10_4_0 : decode prog_10_method_4_code 0 = .ok (.iload_n 1, 1) := by decide +kernel
theorem d10_4_1 : decode prog_10_method_4_code 1 = .ok (.ifCond .lt 21, 3) := by decide +kernel
theorem d10_4_22 : decode prog_10_method_4_code 22 = .ok (.iconst 0, 1) := by decide +kernel
theorem d10_4_4 : decode prog_10_method_4_code 4 = .ok (.iload_n 1, 1) := by decide +kernel
theorem d10_4_5 : decode prog_10_method_4_code 5 = .ok (.iconst 3, 1) := by decide +kernel
theorem d10_4_6 : decode prog_10_method_4_code 6 = .ok (.if_icmp .ge 16, 3) := by decide +kernel
theorem d10_4_9 : decode prog_10_method_4_code 9 = .ok (.aload_n 0, 1) := by decide +kernel
theorem d10_4_10 : decode prog_10_method_4_code 10 = .ok (.getfield 24, 3) := by decide +kernel
theorem d10_4_13 : decode prog_10_method_4_code 13 = .ok (.iload_n 1, 1) := by decide +kernel
theorem d10_4_14 : decode prog_10_method_4_code 14 = .ok (.baload, 1) := by decide +kernel
theorem d10_4_15 : decode prog_10_method_4_code 15 = .ok (.ifCond .eq 7, 3) := by decide +kernel
theorem d10_4_18 : decode prog_10_method_4_code 18 = .ok (.iconst 1, 1) := by decide +kernel
theorem d10_4_19 : decode prog_10_method_4_code 19 = .ok (.goto 4, 3) := by decide +kernel
theorem d10_4_23 : decode prog_10_method_4_code 23 = .ok (.ireturn, 1) := by decide +kernel
def y10_4 : MethodName := { cls := "PagedValues$Store", name := "isOpen", desc := "(I)Z" }
theorem k887 : (Jvm.Cond.code ({ cls := "PagedValues$Store", name := "isOpen", desc := "(I)Z" } : Jvm.MethodName) prog_10_method_4_code (2 : Nat) (Option.some Jvm.ClassFile.FieldType.boolean)) ∈ TB := tk_4 167 rfl rfl
theorem k884 : (Jvm.Cond.methodLink "PagedValues$Store" (42 : Nat) ({ cls := "PagedValues$Store", name := "isOpen", desc := "(I)Z" } : Jvm.MethodName)) ∈ TB := tk_4 164 rfl rfl
theorem k885 : (Jvm.Cond.instanceMethod ({ cls := "PagedValues$Store", name := "isOpen", desc := "(I)Z" } : Jvm.MethodName)) ∈ TB := tk_4 165 rfl rfl
theorem k886 : (Jvm.Cond.selects "PagedValues$Store" ({ cls := "PagedValues$Store", name := "isOpen", desc := "(I)Z" } : Jvm.MethodName) ({ cls := "PagedValues$Store", name := "isOpen", desc := "(I)Z" } : Jvm.MethodName)) ∈ TB := tk_4 166 rfl rfl
theorem d10_5_10 : decode prog_10_method_5_code 10 = .ok (.ifCond .eq 7, 3) := by decide +kernel
theorem d10_5_17 : decode prog_10_method_5_code 17 = .ok (.iconst 0, 1) := by decide +kernel
theorem d10_5_18 : decode prog_10_method_5_code 18 = .ok (.ireturn, 1) := by decide +kernel
def y10_5 : MethodName := { cls := "PagedValues$Store", name := "canRead", desc := "(I)Z" }
theorem k883 : (Jvm.Cond.code ({ cls := "PagedValues$Store", name := "canRead", desc := "(I)Z" } : Jvm.MethodName) prog_10_method_5_code (2 : Nat) (Option.some Jvm.ClassFile.FieldType.boolean)) ∈ TB := tk_4 163 rfl rfl
theorem k880 : (Jvm.Cond.methodLink "PagedValues" (112 : Nat) ({ cls := "PagedValues$Store", name := "canRead", desc := "(I)Z" } : Jvm.MethodName)) ∈ TB := tk_4 160 rfl rfl
theorem k881 : (Jvm.Cond.instanceMethod ({ cls := "PagedValues$Store", name := "canRead", desc := "(I)Z" } : Jvm.MethodName)) ∈ TB := tk_4 161 rfl rfl
theorem k882 : (Jvm.Cond.selects "PagedValues$Store" ({ cls := "PagedValues$Store", name := "canRead", desc := "(I)Z" } : Jvm.MethodName) ({ cls := "PagedValues$Store", name := "canRead", desc := "(I)Z" } : Jvm.MethodName)) ∈ TB := tk_4 162 rfl rfl
theorem d1_6_21 : decode prog_1_method_6_code 21 = .ok (.ifCond .ne 5, 3) := by decide +kernel
theorem d1_6_26 : decode prog_1_method_6_code 26 = .ok (.aload_n 0, 1) := by decide +kernel
theorem d1_6_27 : decode prog_1_method_6_code 27 = .ok (.getfield 47, 3) := by decide +kernel
theorem d1_6_30 : decode prog_1_method_6_code 30 = .ok (.iload_n 1, 1) := by decide +kernel
theorem d1_6_31 : decode prog_1_method_6_code 31 = .ok (.invokevirtual 115, 3) := by decide +kernel
theorem d10_6_0 : decode prog_10_method_6_code 0 = .ok (.aload_n 0, 1) := by decide +kernel
theorem d10_6_1 : decode prog_10_method_6_code 1 = .ok (.iload_n 1, 1) := by decide +kernel
theorem d10_6_2 : decode prog_10_method_6_code 2 = .ok (.invokevirtual 42, 3) := by decide +kernel
theorem d10_6_5 : decode prog_10_method_6_code 5 = .ok (.ifCond .eq 12, 3) := by decide +kernel
theorem d10_6_17 : decode prog_10_method_6_code 17 = .ok (.aload_n 0, 1) := by decide +kernel
theorem d10_6_18 : decode prog_10_method_6_code 18 = .ok (.invokevirtual 46, 3) := by decide +kernel
theorem d10_6_8 : decode prog_10_method_6_code 8 = .ok (.aload_n 0, 1) := by decide +kernel
theorem d10_6_9 : decode prog_10_method_6_code 9 = .ok (.getfield 28, 3) := by decide +kernel
theorem d10_6_12 : decode prog_10_method_6_code 12 = .ok (.iload_n 1, 1) := by decide +kernel
theorem d10_6_13 : decode prog_10_method_6_code 13 = .ok (.iaload, 1) := by decide +kernel
theorem d10_6_14 : decode prog_10_method_6_code 14 = .ok (.goto 7, 3) := by decide +kernel
theorem d10_6_21 : decode prog_10_method_6_code 21 = .ok (.ireturn, 1) := by decide +kernel
def y10_6 : MethodName := { cls := "PagedValues$Store", name := "rootFor", desc := "(I)I" }
theorem k891 : (Jvm.Cond.code ({ cls := "PagedValues$Store", name := "rootFor", desc := "(I)I" } : Jvm.MethodName) prog_10_method_6_code (2 : Nat) (Option.some Jvm.ClassFile.FieldType.int)) ∈ TB := tk_4 171 rfl rfl
theorem k888 : (Jvm.Cond.methodLink "PagedValues" (115 : Nat) ({ cls := "PagedValues$Store", name := "rootFor", desc := "(I)I" } : Jvm.MethodName)) ∈ TB := tk_4 168 rfl rfl
theorem k889 : (Jvm.Cond.instanceMethod ({ cls := "PagedValues$Store", name := "rootFor", desc := "(I)I" } : Jvm.MethodName)) ∈ TB := tk_4 169 rfl rfl
theorem k890 : (Jvm.Cond.selects "PagedValues$Store" ({ cls := "PagedValues$Store", name := "rootFor", desc := "(I)I" } : Jvm.MethodName) ({ cls := "PagedValues$Store", name := "rootFor", desc := "(I)I" } : Jvm.MethodName)) ∈ TB := tk_4 170 rfl rfl
theorem d1_6_34 : decode prog_1_method_6_code 34 = .ok (.istore_n 3, 1) := by decide +kernel
theorem d1_6_35 : decode prog_1_method_6_code 35 = .ok (.iload_n 2, 1) := by decide +kernel
theorem d1_6_36 : decode prog_1_method_6_code 36 = .ok (.iconst (-1), 1) := by decide +kernel
theorem d1_6_37 : decode prog_1_method_6_code 37 = .ok (.if_icmp .eq 17, 3) := by decide +kernel
theorem d1_6_54 : decode prog_1_method_6_code 54 = .ok (.aload_n 0, 1) := by decide +kernel
theorem d1_6_55 : decode prog_1_method_6_code 55 = .ok (.getfield 33, 3) := by decide +kernel
theorem d1_6_58 : decode prog_1_method_6_code 58 = .ok (.aload_n 0, 1) := by decide +kernel
theorem d1_6_59 : decode prog_1_method_6_code 59 = .ok (.getfield 10, 3) := by decide +kernel
theorem d1_6_62 : decode prog_1_method_6_code 62 = .ok (.invokevirtual 119, 3) := by decide +kernel
theorem k895 : (Jvm.Cond.code ({ cls := "PagedValues$Query", name := "parse", desc := "(LPagedValues$Text;)V" } : Jvm.MethodName) prog_8_method_2_code (3 : Nat) (Option.none : Option Jvm.ClassFile.FieldType)) ∈ TB := tk_4 175 rfl rfl
theorem k892 : (Jvm.Cond.methodLink "PagedValues" (119 : Nat) ({ cls := "PagedValues$Query", name := "parse", desc := "(LPagedValues$Text;)V" } : Jvm.MethodName)) ∈ TB := tk_4 172 rfl rfl
theorem k893 : (Jvm.Cond.instanceMethod ({ cls := "PagedValues$Query", name := "parse", desc := "(LPagedValues$Text;)V" } : Jvm.MethodName)) ∈ TB := tk_4 173 rfl rfl
theorem k894 : (Jvm.Cond.selects "PagedValues$Query" ({ cls := "PagedValues$Query", name := "parse", desc := "(LPagedValues$Text;)V" } : Jvm.MethodName) ({ cls := "PagedValues$Query", name := "parse", desc := "(LPagedValues$Text;)V" } : Jvm.MethodName)) ∈ TB := tk_4 174 rfl rfl
theorem d1_6_65 : decode prog_1_method_6_code 65 = .ok (.aload_n 0, 1) := by decide +kernel
theorem d1_6_66 : decode prog_1_method_6_code 66 = .ok (.getfield 10, 3) := by decide +kernel
theorem d1_6_69 : decode prog_1_method_6_code 69 = .ok (.invokevirtual 78, 3) := by decide +kernel
theorem d1_6_72 : decode prog_1_method_6_code 72 = .ok (.aload_n 0, 1) := by decide +kernel
theorem d1_6_73 : decode prog_1_method_6_code 73 = .ok (.getfield 40, 3) := by decide +kernel
theorem d1_6_76 : decode prog_1_method_6_code 76 = .ok (.invokevirtual 122, 3) := by decide +kernel
theorem d3_2_0 : decode prog_3_method_2_code 0 = .ok (.aload_n 0, 1) := by decide +kernel
theorem d3_2_1 : decode prog_3_method_2_code 1 = .ok (.iconst 0, 1) := by decide +kernel
theorem d3_2_2 : decode prog_3_method_2_code 2 = .ok (.putfield 27, 3) := by decide +kernel
theorem d3_2_5 : decode prog_3_method_2_code 5 = .ok (.aload_n 0, 1) := by decide +kernel
theorem d3_2_6 : decode prog_3_method_2_code 6 = .ok (.iconst 0, 1) := by decide +kernel
theorem d3_2_7 : decode prog_3_method_2_code 7 = .ok (.putfield 31, 3) := by decide +kernel
theorem d3_2_10 : decode prog_3_method_2_code 10 = .ok (.return_, 1) := by decide +kernel
def y3_2 : MethodName := { cls := "PagedValues$Finder", name := "forget", desc := "()V" }
theorem k942 : (Jvm.Cond.code ({ cls := "PagedValues$Finder", name := "forget", desc := "()V" } : Jvm.MethodName) prog_3_method_2_code (1 : Nat) (Option.none : Option Jvm.ClassFile.FieldType)) ∈ TB := tk_4 222 rfl rfl
theorem k939 : (Jvm.Cond.methodLink "PagedValues" (122 : Nat) ({ cls := "PagedValues$Finder", name := "forget", desc := "()V" } : Jvm.MethodName)) ∈ TB := tk_4 219 rfl rfl
theorem k940 : (Jvm.Cond.instanceMethod ({ cls := "PagedValues$Finder", name := "forget", desc := "()V" } : Jvm.MethodName)) ∈ TB := tk_4 220 rfl rfl
theorem k941 : (Jvm.Cond.selects "PagedValues$Finder" ({ cls := "PagedValues$Finder", name := "forget", desc := "()V" } : Jvm.MethodName) ({ cls := "PagedValues$Finder", name := "forget", desc := "()V" } : Jvm.MethodName)) ∈ TB := tk_4 221 rfl rfl
theorem d1_6_79 : decode prog_1_method_6_code 79 = .ok (.aload_n 0, 1) := by decide +kernel
theorem d1_6_80 : decode prog_1_method_6_code 80 = .ok (.getfield 10, 3) := by decide +kernel
theorem d1_6_83 : decode prog_1_method_6_code 83 = .ok (.invokevirtual 125, 3) := by decide +kernel
theorem k943 : (Jvm.Cond.methodLink "PagedValues" (125 : Nat) ({ cls := "PagedValues$Text", name := "isRight", desc := "()Z" } : Jvm.MethodName)) ∈ TB := tk_4 223 rfl rfl
theorem d1_6_86 : decode prog_1_method_6_code 86 = .ok (.ifCond .ne 14, 3) := by decide +kernel
theorem d1_6_100 : decode prog_1_method_6_code 100 = .ok (.iconst 0, 1) := by decide +kernel
theorem d1_6_101 : decode prog_1_method_6_code 101 = .ok (.istore 4, 2) := by decide +kernel
theorem d1_6_150 : decode prog_1_method_6_code 150 = .ok (.aload_n 0, 1) := by decide +kernel
theorem d1_6_151 : decode prog_1_method_6_code 151 = .ok (.getfield 40, 3) := by decide +kernel
theorem d1_6_154 : decode prog_1_method_6_code 154 = .ok (.invokevirtual 133, 3) := by decide +kernel
theorem d3_4_0 : decode prog_3_method_4_code 0 = .ok (.aload_n 0, 1) := by decide +kernel
theorem d3_4_1 : decode prog_3_method_4_code 1 = .ok (.getfield 31, 3) := by decide +kernel
theorem d3_4_4 : decode prog_3_method_4_code 4 = .ok (.ifCond .ne 8, 3) := by decide +kernel
theorem d3_4_12 : decode prog_3_method_4_code 12 = .ok (.aload_n 0, 1) := by decide +kernel
theorem d3_4_13 : decode prog_3_method_4_code 13 = .ok (.iconst 0, 1) := by decide +kernel
theorem d3_4_14 : decode prog_3_method_4_code 14 = .ok (.putfield 27, 3) := by decide +kernel
theorem d3_4_17 : decode prog_3_method_4_code 17 = .ok (.bipush (-6), 2) := by decide +kernel
theorem d3_4_19 : decode prog_3_method_4_code 19 = .ok (.ireturn, 1) := by decide +kernel
theorem d3_4_7 : decode prog_3_method_4_code 7 = .ok (.aload_n 0, 1) := by decide +kernel
theorem d3_4_8 : decode prog_3_method_4_code 8 = .ok (.getfield 27, 3) := by decide +kernel
theorem d3_4_11 : decode prog_3_method_4_code 11 = .ok (.ireturn, 1) := by decide +kernel
def y3_4 : MethodName := { cls := "PagedValues$Finder", name := "total", desc := "()I" }
theorem k982 : (Jvm.Cond.code ({ cls := "PagedValues$Finder", name := "total", desc := "()I" } : Jvm.MethodName) prog_3_method_4_code (1 : Nat) (Option.some Jvm.ClassFile.FieldType.int)) ∈ TB := tk_5 22 rfl rfl
theorem k979 : (Jvm.Cond.methodLink "PagedValues" (133 : Nat) ({ cls := "PagedValues$Finder", name := "total", desc := "()I" } : Jvm.MethodName)) ∈ TB := tk_5 19 rfl rfl
theorem k980 : (Jvm.Cond.instanceMethod ({ cls := "PagedValues$Finder", name := "total", desc := "()I" } : Jvm.MethodName)) ∈ TB := tk_5 20 rfl rfl
theorem k981 : (Jvm.Cond.selects "PagedValues$Finder" ({ cls := "PagedValues$Finder", name := "total", desc := "()I" } : Jvm.MethodName) ({ cls := "PagedValues$Finder", name := "total", desc := "()I" } : Jvm.MethodName)) ∈ TB := tk_5 21 rfl rfl
theorem d1_6_157 : decode prog_1_method_6_code 157 = .ok (.ireturn, 1) := by decide +kernel
theorem d1_6_103 : decode prog_1_method_6_code 103 = .ok (.iload 4, 2) := by decide +kernel
theorem d1_6_105 : decode prog_1_method_6_code 105 = .ok (.bipush 8, 2) := by decide +kernel
theorem d1_6_107 : decode prog_1_method_6_code 107 = .ok (.if_icmp .ge 43, 3) := by decide +kernel
theorem d1_6_110 : decode prog_1_method_6_code 110 = .ok (.iload_n 2, 1) := by decide +kernel
theorem d1_6_111 : decode prog_1_method_6_code 111 = .ok (.iconst (-1), 1) := by decide +kernel
theorem d1_6_112 : decode prog_1_method_6_code 112 = .ok (.if_icmp .eq 9, 3) := by decide +kernel
theorem d1_6_121 : decode prog_1_method_6_code 121 = .ok (.aload_n 0, 1) := by decide +kernel
theorem d1_6_122 : decode prog_1_method_6_code 122 = .ok (.getfield 40, 3) := by decide +kernel
theorem d1_6_125 : decode prog_1_method_6_code 125 = .ok (.aload_n 0, 1) := by decide +kernel
theorem d1_6_126 : decode prog_1_method_6_code 126 = .ok (.getfield 33, 3) := by decide +kernel
theorem d1_6_129 : decode prog_1_method_6_code 129 = .ok (.aload_n 0, 1) := by decide +kernel
theorem d1_6_130 : decode prog_1_method_6_code 130 = .ok (.getfield 47, 3) := by decide +kernel
theorem d1_6_133 : decode prog_1_method_6_code 133 = .ok (.iload_n 3, 1) := by decide +kernel
theorem d1_6_134 : decode prog_1_method_6_code 134 = .ok (.iload 4, 2) := by decide +kernel
theorem d1_6_136 : decode prog_1_method_6_code 136 = .ok (.invokevirtual 98, 3) := by decide +kernel
theorem d1_6_139 : decode prog_1_method_6_code 139 = .ok (.iload 4, 2) := by decide +kernel
theorem d1_6_141 : decode prog_1_method_6_code 141 = .ok (.invokevirtual 129, 3) := by decide +kernel
theorem k947 : (Jvm.Cond.code ({ cls := "PagedValues$Finder", name := "ask", desc := "(LPagedValues$Query;LPagedValues$Value;I)V" } : Jvm.MethodName) prog_3_method_5_code (5 : Nat) (Option.none : Option Jvm.ClassFile.FieldType)) ∈ TB := tk_4 227 rfl rfl
theorem k944 : (Jvm.Cond.methodLink "PagedValues" (129 : Nat) ({ cls := "PagedValues$Finder", name := "ask", desc := "(LPagedValues$Query;LPagedValues$Value;I)V" } : Jvm.MethodName)) ∈ TB := tk_4 224 rfl rfl
theorem k945 : (Jvm.Cond.instanceMethod ({ cls := "PagedValues$Finder", name := "ask", desc := "(LPagedValues$Query;LPagedValues$Value;I)V" } : Jvm.MethodName)) ∈ TB := tk_4 225 rfl rfl
theorem k946 : (Jvm.Cond.selects "PagedValues$Finder" ({ cls := "PagedValues$Finder", name := "ask", desc := "(LPagedValues$Query;LPagedValues$Value;I)V" } : Jvm.MethodName) ({ cls := "PagedValues$Finder", name := "ask", desc := "(LPagedValues$Query;LPagedValues$Value;I)V" } : Jvm.MethodName)) ∈ TB := tk_4 226 rfl rfl
theorem d1_6_115 : decode prog_1_method_6_code 115 = .ok (.iload_n 2, 1) := by decide +kernel
theorem d1_6_116 : decode prog_1_method_6_code 116 = .ok (.iload 4, 2) := by decide +kernel
theorem d1_6_118 : decode prog_1_method_6_code 118 = .ok (.if_icmp .ne 26, 3) := by decide +kernel
theorem d1_6_144 : decode prog_1_method_6_code 144 = .ok (.iinc 4 1, 3) := by decide +kernel
theorem d1_6_147 : decode prog_1_method_6_code 147 = .ok (.goto (-44), 3) := by decide +kernel
theorem d1_6_89 : decode prog_1_method_6_code 89 = .ok (.bipush (-100), 2) := by decide +kernel
theorem d1_6_91 : decode prog_1_method_6_code 91 = .ok (.aload_n 0, 1) := by decide +kernel
theorem d1_6_92 : decode prog_1_method_6_code 92 = .ok (.getfield 10, 3) := by decide +kernel
theorem d1_6_95 : decode prog_1_method_6_code 95 = .ok (.getfield 81, 3) := by decide +kernel
theorem d1_6_98 : decode prog_1_method_6_code 98 = .ok (.isub, 1) := by decide +kernel
theorem d1_6_99 : decode prog_1_method_6_code 99 = .ok (.ireturn, 1) := by decide +kernel
theorem d1_6_40 : decode prog_1_method_6_code 40 = .ok (.aload_n 0, 1) := by decide +kernel
theorem d1_6_41 : decode prog_1_method_6_code 41 = .ok (.getfield 47, 3) := by decide +kernel
theorem d1_6_44 : decode prog_1_method_6_code 44 = .ok (.iload_n 3, 1) := by decide +kernel
theorem d1_6_45 : decode prog_1_method_6_code 45 = .ok (.iload_n 2, 1) := by decide +kernel
theorem d1_6_46 : decode prog_1_method_6_code 46 = .ok (.invokevirtual 98, 3) := by decide +kernel
theorem d1_6_49 : decode prog_1_method_6_code 49 = .ok (.ifnonnull 5, 3) := by decide +kernel
theorem d1_6_52 : decode prog_1_method_6_code 52 = .ok (.iconst (-1), 1) := by decide +kernel
theorem d1_6_53 : decode prog_1_method_6_code 53 = .ok (.ireturn, 1) := by decide +kernel
theorem d1_6_24 : decode prog_1_method_6_code 24 = .ok (.iconst (-1), 1) := by decide +kernel
theorem d1_6_25 : decode prog_1_method_6_code 25 = .ok (.ireturn, 1) := by decide +kernel
theorem d1_6_10 : decode prog_1_method_6_code 10 = .ok (.bipush (-9), 2) := by decide +kernel
theorem d1_6_12 : decode prog_1_method_6_code 12 = .ok (.ireturn, 1) := by decide +kernel
def y1_6 : MethodName := { cls := "PagedValues", name := "query", desc := "(II)I" }
def c_Store_isOpen (Zd : Nat → Nat) (K : KE) (o : Nat) (a0 : Int32) (st : CS) : Option (Int32) := (if a0 < (0 : Int32) then (some (0 : Int32)) else (if (3 : Int32) ≤ a0 then (some (0 : Int32)) else ((gQ K st o 9 3).bind fun x15 => x15.bind fun a16z => (rA K st a16z 3 a0).bind fun x17 => if x17 = (0 : Int32) then (some (0 : Int32)) else (some (1 : Int32))))).bind fun e11 => (bz e11).bind fun _ => some e11
set_option maxHeartbeats 4000000 in
set_option maxRecDepth 100000 in
theorem cc_Store_isOpen (l : Launch) (G : Gk) (Zd : Nat → Nat) (K : KE) (o : Nat) (a0 : Int32) (st : CS) (r0 : Int32) (hm : c_Store_isOpen Zd K o a0 st = some r0) : CT l y10_4 prog_10_method_4_code 2 (some .boolean) G Zd K (0) [.ref o, .int a0] st (hI G Zd r0 st) := by
  refine goH (d := 0) (y := y10_4) (cc := prog_10_method_4_code) (maxL := 2) (ret := (some .boolean)) (av := [.ref o, .int a0]) (Qc := hI G Zd r0 st) "PagedValues$Store" rfl (by decide) (c1_c rfl (c1_c rfl c1_n)) (Nat.le_of_ble_eq_true rfl) ?_
  intro p e s m below meth c ls A args Q hQ hx hb hr hlk hml hown hts hin hl hE hw
  have hl : lw ls 2 [(0, .ref o), (1, .int a0)] := hl
  have hZ := hE.2.2.1
  have h := hm
  clear hm
  refine lv_iload_n hx hb d10_4_0 rfl (lv_at hl.1 1 rfl) ?_
  obtain ⟨e11, hX, h⟩ := ob h
  have hj : ∀ (H : Heap) (locs : List Loc) (cells slots : Nat) (ls : Array Slot), lw ls 2 [(0, .ref o), (1, .int a0)] → wsH G Zd A s st H locs → W p l e (rmH Zd (0) st.1) s m args below meth c H locs cells slots Q (F0 m 23 ls [.int e11]) := by
    intro H locs cells slots ls hl hw
    obtain ⟨u9, hr9, h⟩ := ob h
    have hi := bz_some hr9
    clear hr9 u9
    cases h
    exact finH_z hQ hx hb hr hlk (nar01 hi) hE hw d10_4_23
  clear h
  refine lv_if_lt (tgt := 22) hx hb d10_4_1 rfl (fun c13 => ?_) (fun c13 => ?_)
  ·
    replace h := (if_pos c13).symm.trans hX
    refine lv_iconst (v := 0) hx hb d10_4_22 (by decide) ?_
    have e9 := Option.some.inj h
    subst e11
    have hl := lw_sub hl (l' := [(0, .ref o), (1, .int a0)]) [0, 1] rfl
    exact hj _ _ _ _ _ hl hw
  ·
    replace h := (if_neg c13).symm.trans hX
    refine lv_iload_n hx hb d10_4_4 rfl (lv_at hl.1 1 rfl) ?_
    refine lv_iconst (v := 3) hx hb d10_4_5 (by decide) ?_
    refine lv_icmp_ge (tgt := 22) hx hb d10_4_6 rfl (fun c14 => ?_) (fun c14 => ?_)
    ·
      replace h := (if_pos c14).symm.trans h
      refine lv_iconst (v := 0) hx hb d10_4_22 (by decide) ?_
      have e9 := Option.some.inj h
      subst e11
      have hl := lw_sub hl (l' := [(0, .ref o), (1, .int a0)]) [0, 1] rfl
      exact hj _ _ _ _ _ hl hw
    ·
      replace h := (if_neg c14).symm.trans h
      refine lv_aload_n hx hb d10_4_9 rfl (lv_at hl.1 0 rfl) ?_
      obtain ⟨x15, hr, h⟩ := ob h
      refine xg_q (ci := 9) (C := r_9) (T := f_9) (N := 9) (ref := "PagedValues$Store") hx hb hts (fun w h => List.mem_cons_of_mem _ (ly_9 w h)) hown hE hw rfl 3 (by decide) (hts _ (List.mem_cons_of_mem _ k240)) (fun _ h9 => h9) hr d10_4_10 ?_
      clear hr
      refine lv_iload_n hx hb d10_4_13 rfl (lv_at hl.1 1 rfl) ?_
      obtain ⟨a16z, hn16, h⟩ := ob h
      have hn16 : x15 = some a16z := hn16
      refine W.eq (g2 := F0 m 14 ls [.int a0, .ref a16z]) (by rw [hn16]; rfl) ?_
      obtain ⟨x17, hr, h⟩ := ob h
      refine xa_z hx hb hE hw (i := a0) hr d10_4_14 ?_
      clear hr
      refine lv_if_eq (tgt := 22) hx hb d10_4_15 rfl (fun c18 => ?_) (fun c18 => ?_)
      ·
        replace h := (if_pos c18).symm.trans h
        refine lv_iconst (v := 0) hx hb d10_4_22 (by decide) ?_
        have e9 := Option.some.inj h
        subst e11
        have hl := lw_sub hl (l' := [(0, .ref o), (1, .int a0)]) [0, 1] rfl
        exact hj _ _ _ _ _ hl hw
      ·
        replace h := (if_neg c18).symm.trans h
        refine lv_iconst (v := 1) hx hb d10_4_18 (by decide) ?_
        refine lv_goto (tgt := 23) hx hb d10_4_19 rfl ?_
        have e9 := Option.some.inj h
        subst e11
        have hl := lw_sub hl (l' := [(0, .ref o), (1, .int a0)]) [0, 1] rfl
        exact hj _ _ _ _ _ hl hw
def c_Store_canRead (Zd : Nat → Nat) (K : KE) (o : Nat) (a0 : Int32) (st : CS) : Option (Int32) := (if a0 = ((-1) : Int32) then (some (1 : Int32)) else ((isO K st o 9).bind fun _ => (c_Store_isOpen Zd K o a0 st).bind fun x14 => if x14 = (0 : Int32) then (some (0 : Int32)) else (some (1 : Int32)))).bind fun e11 => (bz e11).bind fun _ => some e11
set_option maxHeartbeats 4000000 in
set_option maxRecDepth 100000 in
theorem cc_Store_canRead (l : Launch) (G : Gk) (Zd : Nat → Nat) (K : KE) (o : Nat) (a0 : Int32) (st : CS) (r0 : Int32) (hm : c_Store_canRead Zd K o a0 st = some r0) : CT l y10_5 prog_10_method_5_code 2 (some .boolean) G Zd K (1) [.ref o, .int a0] st (hI G Zd r0 st) := by
  refine goH (d := 1) (y := y10_5) (cc := prog_10_method_5_code) (maxL := 2) (ret := (some .boolean)) (av := [.ref o, .int a0]) (Qc := hI G Zd r0 st) "PagedValues$Store" rfl (by decide) (c1_c rfl (c1_c rfl c1_n)) (Nat.le_of_ble_eq_true rfl) ?_
  intro p e s m below meth c ls A args Q hQ hx hb hr hlk hml hown hts hin hl hE hw
  have hl : lw ls 2 [(0, .ref o), (1, .int a0)] := hl
  have hZ := hE.2.2.1
  have h := hm
  clear hm
  refine lv_iload_n hx hb d10_5_0 rfl (lv_at hl.1 1 rfl) ?_
  refine lv_iconst (v := (-1)) hx hb d10_5_1 (by decide) ?_
  obtain ⟨e11, hX, h⟩ := ob h
  have hj : ∀ (H : Heap) (locs : List Loc) (cells slots : Nat) (ls : Array Slot), lw ls 2 [(0, .ref o), (1, .int a0)] → wsH G Zd A s st H locs → W p l e (rmH Zd (1) st.1) s m args below meth c H locs cells slots Q (F0 m 18 ls [.int e11]) := by
    intro H locs cells slots ls hl hw
    obtain ⟨u9, hr9, h⟩ := ob h
    have hi := bz_some hr9
    clear hr9 u9
    cases h
    exact finH_z hQ hx hb hr hlk (nar01 hi) hE hw d10_5_18
  clear h
  refine lv_icmp_eq (tgt := 13) hx hb d10_5_2 rfl (fun c13 => ?_) (fun c13 => ?_)
  ·
    replace h := (if_pos c13).symm.trans hX
    refine lv_iconst (v := 1) hx hb d10_5_13 (by decide) ?_
    refine lv_goto (tgt := 18) hx hb d10_5_14 rfl ?_
    have e9 := Option.some.inj h
    subst e11
    have hl := lw_sub hl (l' := [(0, .ref o), (1, .int a0)]) [0, 1] rfl
    exact hj _ _ _ _ _ hl hw
  ·
    replace h := (if_neg c13).symm.trans hX
    refine lv_aload_n hx hb d10_5_5 rfl (lv_at hl.1 0 rfl) ?_
    refine lv_iload_n hx hb d10_5_6 rfl (lv_at hl.1 1 rfl) ?_
    obtain ⟨u9, ho, h⟩ := ob h
    obtain ⟨x14, hc, h⟩ := ob h
    refine hV_i (ci := 9) (As := [.int a0]) (rest := []) ⟨hx, hb, hml, hown, hts⟩ (cc_Store_isOpen l G Zd K o a0 st x14 hc) (kw_V (n := 1) hts k887 k884 k13 k885 k886 (by decide +kernel) ⟨Nat.le_of_ble_eq_true rfl, Nat.le_of_ble_eq_true rfl⟩) hE hw rfl rfl ho rfl hl.1.1 rfl (c1_8 c1_n (Nat.le_of_ble_eq_true rfl)) d10_5_7 (fun H locs cells slots hw => ?_)
    clear hc ho u9
    refine W.eq (g2 := F0 m 10 ls [.int x14]) rfl ?_
    refine lv_if_eq (tgt := 17) hx hb d10_5_10 rfl (fun c17 => ?_) (fun c17 => ?_)
    ·
      replace h := (if_pos c17).symm.trans h
      refine lv_iconst (v := 0) hx hb d10_5_17 (by decide) ?_
      have e9 := Option.some.inj h
      subst e11
      have hl := lw_sub hl (l' := [(0, .ref o), (1, .int a0)]) [0, 1] rfl
      exact hj _ _ _ _ _ hl hw
    ·
      replace h := (if_neg c17).symm.trans h
      refine lv_iconst (v := 1) hx hb d10_5_13 (by decide) ?_
      refine lv_goto (tgt := 18) hx hb d10_5_14 rfl ?_
      have e9 := Option.some.inj h
      subst e11
      have hl := lw_sub hl (l' := [(0, .ref o), (1, .int a0)]) [0, 1] rfl
      exact hj _ _ _ _ _ hl hw
def c_Store_rootFor (Zd : Nat → Nat) (K : KE) (o : Nat) (a0 : Int32) (st : CS) : Option (Int32) := (isO K st o 9).bind fun _ => (c_Store_isOpen Zd K o a0 st).bind fun x11 => (if x11 = (0 : Int32) then ((isO K st o 9).bind fun _ => (c_Store_currentRoot Zd K o st).bind fun x17 => some x17) else ((gQ K st o 9 4).bind fun x20 => x20.bind fun a21z => (rA K st a21z 1 a0).bind fun x22 => some x22)).bind fun e14 => some e14
set_option maxHeartbeats 4000000 in
set_option maxRecDepth 100000 in
theorem cc_Store_rootFor (l : Launch) (G : Gk) (Zd : Nat → Nat) (K : KE) (o : Nat) (a0 : Int32) (st : CS) (r0 : Int32) (hm : c_Store_rootFor Zd K o a0 st = some r0) : CT l y10_6 prog_10_method_6_code 2 (some .int) G Zd K (2) [.ref o, .int a0] st (hI G Zd r0 st) := by
  refine goH (d := 2) (y := y10_6) (cc := prog_10_method_6_code) (maxL := 2) (ret := (some .int)) (av := [.ref o, .int a0]) (Qc := hI G Zd r0 st) "PagedValues$Store" rfl (by decide) (c1_c rfl (c1_c rfl c1_n)) (Nat.le_of_ble_eq_true rfl) ?_
  intro p e s m below meth c ls A args Q hQ hx hb hr hlk hml hown hts hin hl hE hw
  have hl : lw ls 2 [(0, .ref o), (1, .int a0)] := hl
  have hZ := hE.2.2.1
  have h := hm
  clear hm
  refine lv_aload_n hx hb d10_6_0 rfl (lv_at hl.1 0 rfl) ?_
  refine lv_iload_n hx hb d10_6_1 rfl (lv_at hl.1 1 rfl) ?_
  obtain ⟨u9, ho, h⟩ := ob h
  obtain ⟨x11, hc, h⟩ := ob h
  refine hV_i (ci := 9) (As := [.int a0]) (rest := []) ⟨hx, hb, hml, hown, hts⟩ (cc_Store_isOpen l G Zd K o a0 st x11 hc) (kw_V (n := 1) hts k887 k884 k13 k885 k886 (by decide +kernel) ⟨Nat.le_of_ble_eq_true rfl, Nat.le_of_ble_eq_true rfl⟩) hE hw rfl rfl ho rfl hl.1.1 rfl (c1_8 c1_n (Nat.le_of_ble_eq_true rfl)) d10_6_2 (fun H locs cells slots hw => ?_)
  clear hc ho u9
  refine W.eq (g2 := F0 m 5 ls [.int x11]) rfl ?_
  obtain ⟨e14, hX, h⟩ := ob h
  have hj : ∀ (H : Heap) (locs : List Loc) (cells slots : Nat) (ls : Array Slot), lw ls 2 [(0, .ref o), (1, .int a0)] → wsH G Zd A s st H locs → W p l e (rmH Zd (2) st.1) s m args below meth c H locs cells slots Q (F0 m 21 ls [.int e14]) := by
    intro H locs cells slots ls hl hw
    cases h
    exact finH_i hQ hx hb hr hlk hE hw d10_6_21
  clear h
  refine lv_if_eq (tgt := 17) hx hb d10_6_5 rfl (fun c16 => ?_) (fun c16 => ?_)
  ·
    replace h := (if_pos c16).symm.trans hX
    refine lv_aload_n hx hb d10_6_17 rfl (lv_at hl.1 0 rfl) ?_
    obtain ⟨u9, ho, h⟩ := ob h
    obtain ⟨x17, hc, h⟩ := ob h
    refine hV_i (ci := 9) (As := []) (rest := []) ⟨hx, hb, hml, hown, hts⟩ (cc_Store_currentRoot l G Zd K o st x17 hc) (kw_V (n := 0) hts k686 k683 k13 k684 k685 (by decide +kernel) ⟨Nat.le_of_ble_eq_true rfl, Nat.le_of_ble_eq_true rfl⟩) hE hw rfl rfl ho rfl hl.1.1 rfl (c1_8 c1_n (Nat.le_of_ble_eq_true rfl)) d10_6_18 (fun H locs cells slots hw => ?_)
    clear hc ho u9
    refine W.eq (g2 := F0 m 21 ls [.int x17]) rfl ?_
    have e9 := Option.some.inj h
    subst e14
    have hl := lw_sub hl (l' := [(0, .ref o), (1, .int a0)]) [0, 1] rfl
    exact hj _ _ _ _ _ hl hw
  ·
    replace h := (if_neg c16).symm.trans hX
    refine lv_aload_n hx hb d10_6_8 rfl (lv_at hl.1 0 rfl) ?_
    obtain ⟨x20, hr, h⟩ := ob h
    refine xg_q (ci := 9) (C := r_9) (T := f_9) (N := 9) (ref := "PagedValues$Store") hx hb hts (fun w h => List.mem_cons_of_mem _ (ly_9 w h)) hown hE hw rfl 4 (by decide) (hts _ (List.mem_cons_of_mem _ k241)) (fun _ h9 => h9) hr d10_6_9 ?_
    clear hr
    refine lv_iload_n hx hb d10_6_12 rfl (lv_at hl.1 1 rfl) ?_
    obtain ⟨a21z, hn21, h⟩ := ob h
    have hn21 : x20 = some a21z := hn21
    refine W.eq (g2 := F0 m 13 ls [.int a0, .ref a21z]) (by rw [hn21]; rfl) ?_
    obtain ⟨x22, hr, h⟩ := ob h
    refine xa_i hx hb hE hw (i := a0) hr d10_6_13 ?_
    clear hr
    refine lv_goto (tgt := 21) hx hb d10_6_14 rfl ?_
    have e9 := Option.some.inj h
    subst e14
    have hl := lw_sub hl (l' := [(0, .ref o), (1, .int a0)]) [0, 1] rfl
    exact hj _ _ _ _ _ hl hw
def c_Finder_forget (Zd : Nat → Nat) (K : KE) (o : Nat) (st : CS) : Option (CS) := (sF st o 8 4 (.int 0)).bind fun st11 => (sF st11 o 8 7 (.int 0)).bind fun st12 => some st12
set_option maxHeartbeats 4000000 in
set_option maxRecDepth 100000 in
theorem cc_Finder_forget (l : Launch) (G : Gk) (Zd : Nat → Nat) (K : KE) (o : Nat) (st : CS) (st0 : CS) (hm : c_Finder_forget Zd K o st = some st0) : CT l y3_2 prog_3_method_2_code 1 none G Zd K (0) [.ref o] st (hV G Zd st0) := by
  refine goH (d := 0) (y := y3_2) (cc := prog_3_method_2_code) (maxL := 1) (ret := none) (av := [.ref o]) (Qc := hV G Zd st0) "PagedValues$Finder" rfl (by decide) (c1_c rfl c1_n) (Nat.le_of_ble_eq_true rfl) ?_
  intro p e s m below meth c ls A args Q hQ hx hb hr hlk hml hown hts hin hl hE hw
  have hl : lw ls 1 [(0, .ref o)] := hl
  have hZ := hE.2.2.1
  have h := hm
  clear hm
  refine lv_aload_n hx hb d3_2_0 rfl (lv_at hl.1 0 rfl) ?_
  refine lv_iconst (v := 0) hx hb d3_2_1 (by decide) ?_
  obtain ⟨st11, hr, h⟩ := ob h
  refine xp (ci := 8) (ty := .int) (C := r_8) (T := f_8) (N := 8) (ref := "PagedValues$Finder") hx hb hts (fun w h => List.mem_cons_of_mem _ (ly_8 w h)) ft_8 ft_8_ok nm_8 hown hE hw rfl 4 (by decide) (hts _ (List.mem_cons_of_mem _ k189)) (fun _ h9 => h9) rfl hr (by decide +kernel) rfl rfl d3_2_2 (fun H locs hw => ?_)
  clear hr
  refine lv_aload_n hx hb d3_2_5 rfl (lv_at hl.1 0 rfl) ?_
  refine lv_iconst (v := 0) hx hb d3_2_6 (by decide) ?_
  obtain ⟨st12, hr, h⟩ := ob h
  refine xp (ci := 8) (ty := .boolean) (C := r_8) (T := f_8) (N := 8) (ref := "PagedValues$Finder") hx hb hts (fun w h => List.mem_cons_of_mem _ (ly_8 w h)) ft_8 ft_8_ok nm_8 hown hE hw rfl 7 (by decide) (hts _ (List.mem_cons_of_mem _ k192)) (fun _ h9 => h9) rfl hr (by decide +kernel) (by decide) (by decide) d3_2_7 (fun H locs hw => ?_)
  clear hr
  cases h
  exact finH_v hQ hx hb hr hlk hE hw d3_2_10
def c_Finder_total (Zd : Nat → Nat) (K : KE) (o : Nat) (st : CS) : Option (Int32 × CS) := (gI K st o 8 7).bind fun x11 => if x11 = (0 : Int32) then ((gI K st o 8 4).bind fun x14 => some (x14, st)) else ((sF st o 8 4 (.int 0)).bind fun st13 => some (((-6) : Int32), st13))
set_option maxHeartbeats 4000000 in
set_option maxRecDepth 100000 in
theorem cc_Finder_total (l : Launch) (G : Gk) (Zd : Nat → Nat) (K : KE) (o : Nat) (st : CS) (r0 : Int32) (st0 : CS) (hm : c_Finder_total Zd K o st = some (r0, st0)) : CT l y3_4 prog_3_method_4_code 1 (some .int) G Zd K (0) [.ref o] st (hI G Zd r0 st0) := by
  refine goH (d := 0) (y := y3_4) (cc := prog_3_method_4_code) (maxL := 1) (ret := (some .int)) (av := [.ref o]) (Qc := hI G Zd r0 st0) "PagedValues$Finder" rfl (by decide) (c1_c rfl c1_n) (Nat.le_of_ble_eq_true rfl) ?_
  intro p e s m below meth c ls A args Q hQ hx hb hr hlk hml hown hts hin hl hE hw
  have hl : lw ls 1 [(0, .ref o)] := hl
  have hZ := hE.2.2.1
  have h := hm
  clear hm
  refine lv_aload_n hx hb d3_4_0 rfl (lv_at hl.1 0 rfl) ?_
  obtain ⟨x11, hr, h⟩ := ob h
  refine xg_i (ci := 8) (C := r_8) (T := f_8) (N := 8) (ref := "PagedValues$Finder") hx hb hts (fun w h => List.mem_cons_of_mem _ (ly_8 w h)) hown hE hw rfl 7 (by decide) (hts _ (List.mem_cons_of_mem _ k192)) (fun _ h9 => h9) hr d3_4_1 ?_
  clear hr
  refine lv_if_ne (tgt := 12) hx hb d3_4_4 rfl (fun c12 => ?_) (fun c12 => ?_)
  ·
    replace h := (if_neg c12).symm.trans h
    refine lv_aload_n hx hb d3_4_12 rfl (lv_at hl.1 0 rfl) ?_
    refine lv_iconst (v := 0) hx hb d3_4_13 (by decide) ?_
    obtain ⟨st13, hr, h⟩ := ob h
    refine xp (ci := 8) (ty := .int) (C := r_8) (T := f_8) (N := 8) (ref := "PagedValues$Finder") hx hb hts (fun w h => List.mem_cons_of_mem _ (ly_8 w h)) ft_8 ft_8_ok nm_8 hown hE hw rfl 4 (by decide) (hts _ (List.mem_cons_of_mem _ k189)) (fun _ h9 => h9) rfl hr (by decide +kernel) rfl rfl d3_4_14 (fun H locs hw => ?_)
    clear hr
    refine lv_bipush (v := (-6)) hx hb d3_4_17 (by decide) ?_
    cases h
    exact finH_i hQ hx hb hr hlk hE hw d3_4_19
  ·
    replace h := (if_pos c12).symm.trans h
    refine lv_aload_n hx hb d3_4_7 rfl (lv_at hl.1 0 rfl) ?_
    obtain ⟨x14, hr, h⟩ := ob h
    refine xg_i (ci := 8) (C := r_8) (T := f_8) (N := 8) (ref := "PagedValues$Finder") hx hb hts (fun w h => List.mem_cons_of_mem _ (ly_8 w h)) hown hE hw rfl 4 (by decide) (hts _ (List.mem_cons_of_mem _ k189)) (fun _ h9 => h9) hr d3_4_8 ?_
    clear hr
    cases h
    exact finH_i hQ hx hb hr hlk hE hw d3_4_11
def c_PagedValues_query_l1 (Zd : Nat → Nat) (K : KE) (o : Nat) (a1 : Int32) (x23 : Int32) : Nat → (Int32 × CS) → Option (Int32 × CS)
  | 0, _ => none
  | n9 + 1, e9 => if (8 : Int32) ≤ e9.1 then (some (e9.1, e9.2)) else ((if a1 = ((-1) : Int32) then ((gQ K e9.2 o 0 4).bind fun x64 => (gQ K e9.2 o 0 3).bind fun x65 => (gQ K e9.2 o 0 5).bind fun x66 => x66.bind fun a67z => (isO K e9.2 a67z 9).bind fun _ => (c_Store_document Zd K a67z x23 e9.1 e9.2).bind fun x68 => x64.bind fun a71z => (isO K e9.2 a71z 8).bind fun _ => (c_Finder_ask Zd K a71z x65 x68 e9.1 e9.2).bind fun st73 => some st73) else (if a1 = e9.1 then ((gQ K e9.2 o 0 4).bind fun x76 => (gQ K e9.2 o 0 3).bind fun x77 => (gQ K e9.2 o 0 5).bind fun x78 => x78.bind fun a79z => (isO K e9.2 a79z 9).bind fun _ => (c_Store_document Zd K a79z x23 e9.1 e9.2).bind fun x80 => x76.bind fun a83z => (isO K e9.2 a83z 8).bind fun _ => (c_Finder_ask Zd K a83z x77 x80 e9.1 e9.2).bind fun st85 => some st85) else (some e9.2))).bind fun e60 => (some (e9.1 + 1)).bind fun y62 => c_PagedValues_query_l1 Zd K o a1 x23 n9 (y62, e60))
theorem c_PagedValues_query_l1_s (Zd : Nat → Nat) (K : KE) (o : Nat) (a1 : Int32) (x23 : Int32) (n9 : Nat) (e9 : Int32 × CS) : c_PagedValues_query_l1 Zd K o a1 x23 (n9 + 1) e9 = (if (8 : Int32) ≤ e9.1 then (some (e9.1, e9.2)) else ((if a1 = ((-1) : Int32) then ((gQ K e9.2 o 0 4).bind fun x64 => (gQ K e9.2 o 0 3).bind fun x65 => (gQ K e9.2 o 0 5).bind fun x66 => x66.bind fun a67z => (isO K e9.2 a67z 9).bind fun _ => (c_Store_document Zd K a67z x23 e9.1 e9.2).bind fun x68 => x64.bind fun a71z => (isO K e9.2 a71z 8).bind fun _ => (c_Finder_ask Zd K a71z x65 x68 e9.1 e9.2).bind fun st73 => some st73) else (if a1 = e9.1 then ((gQ K e9.2 o 0 4).bind fun x76 => (gQ K e9.2 o 0 3).bind fun x77 => (gQ K e9.2 o 0 5).bind fun x78 => x78.bind fun a79z => (isO K e9.2 a79z 9).bind fun _ => (c_Store_document Zd K a79z x23 e9.1 e9.2).bind fun x80 => x76.bind fun a83z => (isO K e9.2 a83z 8).bind fun _ => (c_Finder_ask Zd K a83z x77 x80 e9.1 e9.2).bind fun st85 => some st85) else (some e9.2))).bind fun e60 => (some (e9.1 + 1)).bind fun y62 => c_PagedValues_query_l1 Zd K o a1 x23 n9 (y62, e60))) := rfl
def c_PagedValues_query_l2 (Zd : Nat → Nat) (K : KE) (o : Nat) (a1 : Int32) (x23 : Int32) : Nat → (Int32 × CS) → Option (Int32 × CS)
  | 0, _ => none
  | n9 + 1, e9 => if (8 : Int32) ≤ e9.1 then (some (e9.1, e9.2)) else ((if a1 = ((-1) : Int32) then ((gQ K e9.2 o 0 4).bind fun x134 => (gQ K e9.2 o 0 3).bind fun x135 => (gQ K e9.2 o 0 5).bind fun x136 => x136.bind fun a137z => (isO K e9.2 a137z 9).bind fun _ => (c_Store_document Zd K a137z x23 e9.1 e9.2).bind fun x138 => x134.bind fun a141z => (isO K e9.2 a141z 8).bind fun _ => (c_Finder_ask Zd K a141z x135 x138 e9.1 e9.2).bind fun st143 => some st143) else (if a1 = e9.1 then ((gQ K e9.2 o 0 4).bind fun x146 => (gQ K e9.2 o 0 3).bind fun x147 => (gQ K e9.2 o 0 5).bind fun x148 => x148.bind fun a149z => (isO K e9.2 a149z 9).bind fun _ => (c_Store_document Zd K a149z x23 e9.1 e9.2).bind fun x150 => x146.bind fun a153z => (isO K e9.2 a153z 8).bind fun _ => (c_Finder_ask Zd K a153z x147 x150 e9.1 e9.2).bind fun st155 => some st155) else (some e9.2))).bind fun e130 => (some (e9.1 + 1)).bind fun y132 => c_PagedValues_query_l2 Zd K o a1 x23 n9 (y132, e130))
theorem c_PagedValues_query_l2_s (Zd : Nat → Nat) (K : KE) (o : Nat) (a1 : Int32) (x23 : Int32) (n9 : Nat) (e9 : Int32 × CS) : c_PagedValues_query_l2 Zd K o a1 x23 (n9 + 1) e9 = (if (8 : Int32) ≤ e9.1 then (some (e9.1, e9.2)) else ((if a1 = ((-1) : Int32) then ((gQ K e9.2 o 0 4).bind fun x134 => (gQ K e9.2 o 0 3).bind fun x135 => (gQ K e9.2 o 0 5).bind fun x136 => x136.bind fun a137z => (isO K e9.2 a137z 9).bind fun _ => (c_Store_document Zd K a137z x23 e9.1 e9.2).bind fun x138 => x134.bind fun a141z => (isO K e9.2 a141z 8).bind fun _ => (c_Finder_ask Zd K a141z x135 x138 e9.1 e9.2).bind fun st143 => some st143) else (if a1 = e9.1 then ((gQ K e9.2 o 0 4).bind fun x146 => (gQ K e9.2 o 0 3).bind fun x147 => (gQ K e9.2 o 0 5).bind fun x148 => x148.bind fun a149z => (isO K e9.2 a149z 9).bind fun _ => (c_Store_document Zd K a149z x23 e9.1 e9.2).bind fun x150 => x146.bind fun a153z => (isO K e9.2 a153z 8).bind fun _ => (c_Finder_ask Zd K a153z x147 x150 e9.1 e9.2).bind fun st155 => some st155) else (some e9.2))).bind fun e130 => (some (e9.1 + 1)).bind fun y132 => c_PagedValues_query_l2 Zd K o a1 x23 n9 (y132, e130))) := rfl
def c_PagedValues_query (Zd : Nat → Nat) (K : KE) (o : Nat) (a0 : Int32) (a1 : Int32) (st : CS) : Option (Int32 × CS) := (gQ K st o 0 5).bind fun x11 => x11.bind fun a12z => (gI K st a12z 9 8).bind fun x13 => if x13 = (0 : Int32) then ((gQ K st o 0 5).bind fun x15 => x15.bind fun a16z => (isO K st a16z 9).bind fun _ => (c_Store_canRead Zd K a16z a0 st).bind fun x17 => if x17 = (0 : Int32) then (some (((-1) : Int32), st)) else ((gQ K st o 0 5).bind fun x21 => x21.bind fun a22z => (isO K st a22z 9).bind fun _ => (c_Store_rootFor Zd K a22z a0 st).bind fun x23 => if a1 = ((-1) : Int32) then ((gQ K st o 0 3).bind fun x27 => (gQ K st o 0 0).bind fun x28 => x27.bind fun a29z => (isO K st a29z 6).bind fun _ => (c_Query_parse Zd K a29z x28 st).bind fun st31 => (gQ K st31 o 0 0).bind fun x33 => x33.bind fun a34z => (isO K st31 a34z 1).bind fun _ => (c_Text_clear Zd K a34z st31).bind fun st36 => (gQ K st36 o 0 4).bind fun x38 => x38.bind fun a39z => (isO K st36 a39z 8).bind fun _ => (c_Finder_forget Zd K a39z st36).bind fun st41 => (gQ K st41 o 0 0).bind fun x43 => x43.bind fun a44z => (isO K st41 a44z 1).bind fun _ => (c_Text_isRight Zd K a44z st41).bind fun x45 => if x45 = (0 : Int32) then ((gQ K st41 o 0 0).bind fun x87 => x87.bind fun a88z => (gI K st41 a88z 1 4).bind fun x89 => (some (((-100) : Int32) - x89)).bind fun y90 => some (y90, st41)) else ((c_PagedValues_query_l1 Zd K o a1 x23 4096 ((0 : Int32), st41)).bind fun e49 => (gQ K e49.2 o 0 4).bind fun x54 => x54.bind fun a55z => (isO K e49.2 a55z 8).bind fun _ => (c_Finder_total Zd K a55z e49.2).bind fun r58 => some (r58.1, r58.2))) else ((gQ K st o 0 5).bind fun x91 => x91.bind fun a92z => (isO K st a92z 9).bind fun _ => (c_Store_document Zd K a92z x23 a1 st).bind fun x93 => nl x93 (some (((-1) : Int32), st)) (fun a96z => (gQ K st o 0 3).bind fun x97 => (gQ K st o 0 0).bind fun x98 => x97.bind fun a99z => (isO K st a99z 6).bind fun _ => (c_Query_parse Zd K a99z x98 st).bind fun st101 => (gQ K st101 o 0 0).bind fun x103 => x103.bind fun a104z => (isO K st101 a104z 1).bind fun _ => (c_Text_clear Zd K a104z st101).bind fun st106 => (gQ K st106 o 0 4).bind fun x108 => x108.bind fun a109z => (isO K st106 a109z 8).bind fun _ => (c_Finder_forget Zd K a109z st106).bind fun st111 => (gQ K st111 o 0 0).bind fun x113 => x113.bind fun a114z => (isO K st111 a114z 1).bind fun _ => (c_Text_isRight Zd K a114z st111).bind fun x115 => if x115 = (0 : Int32) then ((gQ K st111 o 0 0).bind fun x157 => x157.bind fun a158z => (gI K st111 a158z 1 4).bind fun x159 => (some (((-100) : Int32) - x159)).bind fun y160 => some (y160, st111)) else ((c_PagedValues_query_l2 Zd K o a1 x23 4096 ((0 : Int32), st111)).bind fun e119 => (gQ K e119.2 o 0 4).bind fun x124 => x124.bind fun a125z => (isO K e119.2 a125z 8).bind fun _ => (c_Finder_total Zd K a125z e119.2).bind fun r128 => some (r128.1, r128.2)))))) else (some (((-9) : Int32), st))
set_option maxHeartbeats 4000000 in
set_option maxRecDepth 100000 in
theorem cc_PagedValues_query (l : Launch) (G : Gk) (Zd : Nat → Nat) (K : KE) (o : Nat) (a0 : Int32) (a1 : Int32) (st : CS) (r0 : Int32) (st0 : CS) (hm : c_PagedValues_query Zd K o a0 a1 st = some (r0, st0)) : CT l y1_6 prog_1_method_6_code 5 (some .int) G Zd K (53) [.ref o, .int a0, .int a1] st (hI G Zd r0 st0) := by
  refine goH (d := 53) (y := y1_6) (cc := prog_1_method_6_code) (maxL := 5) (ret := (some .int)) (av := [.ref o, .int a0, .int a1]) (Qc := hI G Zd r0 st0) "PagedValues" rfl (by decide) (c1_c rfl (c1_c rfl (c1_c rfl c1_n))) (Nat.le_of_ble_eq_true rfl) ?_
  intro p e s m below meth c ls A args Q hQ hx hb hr hlk hml hown hts hin hl hE hw
  have hl : lw ls 5 [(0, .ref o), (1, .int a0), (2, .int a1)] := hl
  have hZ := hE.2.2.1
  have h := hm
  clear hm
  refine lv_aload_n hx hb d1_6_0 rfl (lv_at hl.1 0 rfl) ?_
  obtain ⟨x11, hr, h⟩ := ob h
  refine xg_q (ci := 0) (C := r_0) (T := f_0) (N := 7) (ref := "PagedValues") hx hb hts (fun w h => List.mem_cons_of_mem _ (ly_0 w h)) hown hE hw rfl 5 (by decide) (hts _ (List.mem_cons_of_mem _ k275)) (fun _ h9 => h9) hr d1_6_1 ?_
  clear hr
  obtain ⟨a12z, hn12, h⟩ := ob h
  have hn12 : x11 = some a12z := hn12
  refine W.eq (g2 := F0 m 4 ls [.ref a12z]) (by rw [hn12]; rfl) ?_
  obtain ⟨x13, hr, h⟩ := ob h
  refine xgN_i (ci := 9) (C := r_9) (T := f_9) (N := 9) (ref := "PagedValues$Store") hx hb hts (fun w h => List.mem_cons_of_mem _ (ly_9 w h)) hown hE hw rfl 8 (by decide) (va_Nw.use rfl (hZ.1.1 _ kn247)) (fun _ h9 => h9) hr d1_6_4 ?_
  clear hr
  refine lv_if_eq (tgt := 13) hx hb d1_6_7 rfl (fun c14 => ?_) (fun c14 => ?_)
  ·
    replace h := (if_pos c14).symm.trans h
    refine lv_aload_n hx hb d1_6_13 rfl (lv_at hl.1 0 rfl) ?_
    obtain ⟨x15, hr, h⟩ := ob h
    refine xg_q (ci := 0) (C := r_0) (T := f_0) (N := 7) (ref := "PagedValues") hx hb hts (fun w h => List.mem_cons_of_mem _ (ly_0 w h)) hown hE hw rfl 5 (by decide) (hts _ (List.mem_cons_of_mem _ k275)) (fun _ h9 => h9) hr d1_6_14 ?_
    clear hr
    refine lv_iload_n hx hb d1_6_17 rfl (lv_at hl.1 1 rfl) ?_
    obtain ⟨a16z, hn16, h⟩ := ob h
    have hn16 : x15 = some a16z := hn16
    refine W.eq (g2 := F0 m 18 ls [.int a0, .ref a16z]) (by rw [hn16]; rfl) ?_
    obtain ⟨u9, ho, h⟩ := ob h
    obtain ⟨x17, hc, h⟩ := ob h
    refine hV_i (ci := 9) (As := [.int a0]) (rest := []) ⟨hx, hb, hml, hown, hts⟩ (cc_Store_canRead l G Zd K a16z a0 st x17 hc) (kw_V (n := 1) hts k883 k880 k13 k881 k882 (by decide +kernel) ⟨Nat.le_of_ble_eq_true rfl, Nat.le_of_ble_eq_true rfl⟩) hE hw rfl rfl ho rfl hl.1.1 rfl (c1_8 c1_n (Nat.le_of_ble_eq_true rfl)) d1_6_18 (fun H locs cells slots hw => ?_)
    clear hc ho u9
    refine W.eq (g2 := F0 m 21 ls [.int x17]) rfl ?_
    refine lv_if_ne (tgt := 26) hx hb d1_6_21 rfl (fun c20 => ?_) (fun c20 => ?_)
    ·
      replace h := (if_neg c20).symm.trans h
      refine lv_aload_n hx hb d1_6_26 rfl (lv_at hl.1 0 rfl) ?_
      obtain ⟨x21, hr, h⟩ := ob h
      refine xg_q (ci := 0) (C := r_0) (T := f_0) (N := 7) (ref := "PagedValues") hx hb hts (fun w h => List.mem_cons_of_mem _ (ly_0 w h)) hown hE hw rfl 5 (by decide) (hts _ (List.mem_cons_of_mem _ k275)) (fun _ h9 => h9) hr d1_6_27 ?_
      clear hr
      refine lv_iload_n hx hb d1_6_30 rfl (lv_at hl.1 1 rfl) ?_
      obtain ⟨a22z, hn22, h⟩ := ob h
      have hn22 : x21 = some a22z := hn22
      refine W.eq (g2 := F0 m 31 ls [.int a0, .ref a22z]) (by rw [hn22]; rfl) ?_
      obtain ⟨u9, ho, h⟩ := ob h
      obtain ⟨x23, hc, h⟩ := ob h
      refine hV_i (ci := 9) (As := [.int a0]) (rest := []) ⟨hx, hb, hml, hown, hts⟩ (cc_Store_rootFor l G Zd K a22z a0 st x23 hc) (kw_V (n := 1) hts k891 k888 k13 k889 k890 (by decide +kernel) ⟨Nat.le_of_ble_eq_true rfl, Nat.le_of_ble_eq_true rfl⟩) hE hw rfl rfl ho rfl hl.1.1 rfl (c1_8 c1_n (Nat.le_of_ble_eq_true rfl)) d1_6_31 (fun H locs cells slots hw => ?_)
      clear hc ho u9
      refine W.eq (g2 := F0 m 34 ls [.int x23]) rfl ?_
      refine xt_istore_n (x := x23) (lv' := [(3, .int x23), (0, .ref o), (1, .int a0), (2, .int a1)]) hx hb d1_6_34 rfl hl (by decide) rfl (fun ls hl => ?_)
      refine lv_iload_n hx hb d1_6_35 rfl (lv_at hl.1 3 rfl) ?_
      refine lv_iconst (v := (-1)) hx hb d1_6_36 (by decide) ?_
      refine lv_icmp_eq (tgt := 54) hx hb d1_6_37 rfl (fun c26 => ?_) (fun c26 => ?_)
      ·
        replace h := (if_pos c26).symm.trans h
        refine lv_aload_n hx hb d1_6_54 rfl (lv_at hl.1 1 rfl) ?_
        obtain ⟨x27, hr, h⟩ := ob h
        refine xg_q (ci := 0) (C := r_0) (T := f_0) (N := 7) (ref := "PagedValues") hx hb hts (fun w h => List.mem_cons_of_mem _ (ly_0 w h)) hown hE hw rfl 3 (by decide) (hts _ (List.mem_cons_of_mem _ k273)) (fun _ h9 => h9) hr d1_6_55 ?_
        clear hr
        refine lv_aload_n hx hb d1_6_58 rfl (lv_at hl.1 1 rfl) ?_
        obtain ⟨x28, hr, h⟩ := ob h
        refine xg_q (ci := 0) (C := r_0) (T := f_0) (N := 7) (ref := "PagedValues") hx hb hts (fun w h => List.mem_cons_of_mem _ (ly_0 w h)) hown hE hw rfl 0 (by decide) (hts _ (List.mem_cons_of_mem _ k270)) (fun _ h9 => h9) hr d1_6_59 ?_
        clear hr
        obtain ⟨a29z, hn29, h⟩ := ob h
        have hn29 : x27 = some a29z := hn29
        refine W.eq (g2 := F0 m 62 ls [va_rf x28, .ref a29z]) (by rw [hn29]; rfl) ?_
        obtain ⟨u9, ho, h⟩ := ob h
        obtain ⟨st31, hc, h⟩ := ob h
        refine hV_v (ci := 6) (As := [va_rf x28]) (rest := []) ⟨hx, hb, hml, hown, hts⟩ (cc_Query_parse l G Zd K a29z x28 st st31 hc) (kw_V (n := 1) hts k895 k892 k10 k893 k894 (by decide +kernel) ⟨Nat.le_of_ble_eq_true rfl, Nat.le_of_ble_eq_true rfl⟩) hE hw rfl rfl ho rfl hl.1.1 rfl (c1_8 c1_n (Nat.le_of_ble_eq_true rfl)) d1_6_62 (fun H locs cells slots hw => ?_)
        clear hc ho u9
        refine W.eq (g2 := F0 m 65 ls []) rfl ?_
        refine lv_aload_n hx hb d1_6_65 rfl (lv_at hl.1 1 rfl) ?_
        obtain ⟨x33, hr, h⟩ := ob h
        refine xg_q (ci := 0) (C := r_0) (T := f_0) (N := 7) (ref := "PagedValues") hx hb hts (fun w h => List.mem_cons_of_mem _ (ly_0 w h)) hown hE hw rfl 0 (by decide) (hts _ (List.mem_cons_of_mem _ k270)) (fun _ h9 => h9) hr d1_6_66 ?_
        clear hr
        obtain ⟨a34z, hn34, h⟩ := ob h
        have hn34 : x33 = some a34z := hn34
        refine W.eq (g2 := F0 m 69 ls [.ref a34z]) (by rw [hn34]; rfl) ?_
        obtain ⟨u9, ho, h⟩ := ob h
        obtain ⟨st36, hc, h⟩ := ob h
        refine hV_v (ci := 1) (As := []) (rest := []) ⟨hx, hb, hml, hown, hts⟩ (cc_Text_clear l G Zd K a34z st31 st36 hc) (kw_V (n := 0) hts k674 k671 k2 k672 k673 (by decide +kernel) ⟨Nat.le_of_ble_eq_true rfl, Nat.le_of_ble_eq_true rfl⟩) hE hw rfl rfl ho rfl hl.1.1 rfl (c1_8 c1_n (Nat.le_of_ble_eq_true rfl)) d1_6_69 (fun H locs cells slots hw => ?_)
        clear hc ho u9
        refine W.eq (g2 := F0 m 72 ls []) rfl ?_
        refine lv_aload_n hx hb d1_6_72 rfl (lv_at hl.1 1 rfl) ?_
        obtain ⟨x38, hr, h⟩ := ob h
        refine xg_q (ci := 0) (C := r_0) (T := f_0) (N := 7) (ref := "PagedValues") hx hb hts (fun w h => List.mem_cons_of_mem _ (ly_0 w h)) hown hE hw rfl 4 (by decide) (hts _ (List.mem_cons_of_mem _ k274)) (fun _ h9 => h9) hr d1_6_73 ?_
        clear hr
        obtain ⟨a39z, hn39, h⟩ := ob h
        have hn39 : x38 = some a39z := hn39
        refine W.eq (g2 := F0 m 76 ls [.ref a39z]) (by rw [hn39]; rfl) ?_
        obtain ⟨u9, ho, h⟩ := ob h
        obtain ⟨st41, hc, h⟩ := ob h
        refine hV_v (ci := 8) (As := []) (rest := []) ⟨hx, hb, hml, hown, hts⟩ (cc_Finder_forget l G Zd K a39z st36 st41 hc) (kw_V (n := 0) hts k942 k939 k12 k940 k941 (by decide +kernel) ⟨Nat.le_of_ble_eq_true rfl, Nat.le_of_ble_eq_true rfl⟩) hE hw rfl rfl ho rfl hl.1.1 rfl (c1_8 c1_n (Nat.le_of_ble_eq_true rfl)) d1_6_76 (fun H locs cells slots hw => ?_)
        clear hc ho u9
        refine W.eq (g2 := F0 m 79 ls []) rfl ?_
        refine lv_aload_n hx hb d1_6_79 rfl (lv_at hl.1 1 rfl) ?_
        obtain ⟨x43, hr, h⟩ := ob h
        refine xg_q (ci := 0) (C := r_0) (T := f_0) (N := 7) (ref := "PagedValues") hx hb hts (fun w h => List.mem_cons_of_mem _ (ly_0 w h)) hown hE hw rfl 0 (by decide) (hts _ (List.mem_cons_of_mem _ k270)) (fun _ h9 => h9) hr d1_6_80 ?_
        clear hr
        obtain ⟨a44z, hn44, h⟩ := ob h
        have hn44 : x43 = some a44z := hn44
        refine W.eq (g2 := F0 m 83 ls [.ref a44z]) (by rw [hn44]; rfl) ?_
        obtain ⟨u9, ho, h⟩ := ob h
        obtain ⟨x45, hc, h⟩ := ob h
        refine hV_i (ci := 1) (As := []) (rest := []) ⟨hx, hb, hml, hown, hts⟩ (cc_Text_isRight l G Zd K a44z st41 x45 hc) (kw_V (n := 0) hts k580 k943 k2 k578 k579 (by decide +kernel) ⟨Nat.le_of_ble_eq_true rfl, Nat.le_of_ble_eq_true rfl⟩) hE hw rfl rfl ho rfl hl.1.1 rfl (c1_8 c1_n (Nat.le_of_ble_eq_true rfl)) d1_6_83 (fun H locs cells slots hw => ?_)
        clear hc ho u9
        refine W.eq (g2 := F0 m 86 ls [.int x45]) rfl ?_
        refine lv_if_ne (tgt := 100) hx hb d1_6_86 rfl (fun c48 => ?_) (fun c48 => ?_)
        ·
          replace h := (if_neg c48).symm.trans h
          refine lv_iconst (v := 0) hx hb d1_6_100 (by decide) ?_
          refine xt_istore (x := 0) (lv' := [(4, .int 0), (3, .int x23), (0, .ref o), (1, .int a0), (2, .int a1)]) hx hb d1_6_101 hl (by decide) rfl (fun ls hl => ?_)
          obtain ⟨e49, hX, hrest⟩ := ob h
          clear h
          have hj : ∀ (v52 : Int32) (v53 : CS), e49 = (v52, v53) → ∀ (H : Heap) (locs : List Loc) (cells slots : Nat) (ls : Array Slot), lw ls 5 [(0, .ref o), (1, .int a0), (2, .int a1), (3, .int x23), (4, .int v52)] → wsH G Zd A s v53 H locs → W p l e (rmH Zd (53) st.1) s m args below meth c H locs cells slots Q (F0 m 150 ls []) := by
            intro v52 v53 he H locs cells slots ls hl hw
            subst e49
            have h := hrest
            clear hrest
            refine lv_aload_n hx hb d1_6_150 rfl (lv_at hl.1 0 rfl) ?_
            obtain ⟨x54, hr, h⟩ := ob h
            refine xg_q (ci := 0) (C := r_0) (T := f_0) (N := 7) (ref := "PagedValues") hx hb hts (fun w h => List.mem_cons_of_mem _ (ly_0 w h)) hown hE hw rfl 4 (by decide) (hts _ (List.mem_cons_of_mem _ k274)) (fun _ h9 => h9) hr d1_6_151 ?_
            clear hr
            obtain ⟨a55z, hn55, h⟩ := ob h
            have hn55 : x54 = some a55z := hn55
            refine W.eq (g2 := F0 m 154 ls [.ref a55z]) (by rw [hn55]; rfl) ?_
            obtain ⟨u9, ho, h⟩ := ob h
            obtain ⟨⟨x56, st57⟩, hc, h⟩ := ob h
            refine hV_i (ci := 8) (As := []) (rest := []) ⟨hx, hb, hml, hown, hts⟩ (cc_Finder_total l G Zd K a55z v53 x56 st57 hc) (kw_V (n := 0) hts k982 k979 k12 k980 k981 (by decide +kernel) ⟨Nat.le_of_ble_eq_true rfl, Nat.le_of_ble_eq_true rfl⟩) hE hw rfl rfl ho rfl hl.1.1 rfl (c1_8 c1_n (Nat.le_of_ble_eq_true rfl)) d1_6_154 (fun H locs cells slots hw => ?_)
            clear hc ho u9
            refine W.eq (g2 := F0 m 157 ls [.int x56]) rfl ?_
            cases h
            exact finH_i hQ hx hb hr hlk hE hw d1_6_157
          have hloop : ∀ (n9 : Nat) (v50 : Int32) (v51 : CS), c_PagedValues_query_l1 Zd K o a1 x23 n9 (v50, v51) = some e49 → ∀ (H : Heap) (locs : List Loc) (cells slots : Nat) (ls : Array Slot), lw ls 5 [(0, .ref o), (1, .int a0), (2, .int a1), (3, .int x23), (4, .int v50)] → wsH G Zd A s v51 H locs → W p l e (rmH Zd (53) st.1) s m args below meth c H locs cells slots Q (F0 m 103 ls []) := by
            intro n9
            induction n9 with
            | zero =>
              intro v50 v51 h
              cases h
            | succ n9 ih =>
              intro v50 v51 h H locs cells slots ls hl hw
              replace h := (c_PagedValues_query_l1_s Zd K o a1 x23 n9 (v50, v51)).symm.trans h
              refine lv_iload hx hb d1_6_103 (lv_at hl.1 4 rfl) ?_
              refine lv_bipush (v := 8) hx hb d1_6_105 (by decide) ?_
              refine lv_icmp_ge (tgt := 150) hx hb d1_6_107 rfl (fun c59 => ?_) (fun c59 => ?_)
              ·
                replace h := (if_pos c59).symm.trans h
                have e9 := Option.some.inj h
                subst e49
                have hl := lw_sub hl (l' := [(0, .ref o), (1, .int a0), (2, .int a1), (3, .int x23), (4, .int v50)]) [0, 1, 2, 3, 4] rfl
                exact hj _ _ rfl _ _ _ _ _ hl hw
              ·
                replace h := (if_neg c59).symm.trans h
                refine lv_iload_n hx hb d1_6_110 rfl (lv_at hl.1 2 rfl) ?_
                refine lv_iconst (v := (-1)) hx hb d1_6_111 (by decide) ?_
                obtain ⟨e60, hX, h⟩ := ob h
                have hj : ∀ (H : Heap) (locs : List Loc) (cells slots : Nat) (ls : Array Slot), lw ls 5 [(0, .ref o), (1, .int a0), (2, .int a1), (3, .int x23), (4, .int v50)] → wsH G Zd A s e60 H locs → W p l e (rmH Zd (53) st.1) s m args below meth c H locs cells slots Q (F0 m 144 ls []) := by
                  intro H locs cells slots ls hl hw
                  obtain ⟨y62, hr, h⟩ := ob h
                  refine xt_iinc (k := 4) (v := y62) (lv' := [(4, .int y62), (0, .ref o), (1, .int a0), (2, .int a1), (3, .int x23)]) hx hb d1_6_144 hl rfl hr (by decide) rfl (fun ls hl => ?_)
                  clear hr
                  refine lv_goto (tgt := 103) hx hb d1_6_147 rfl ?_
                  have hl := lw_sub hl (l' := [(0, .ref o), (1, .int a0), (2, .int a1), (3, .int x23), (4, .int y62)]) [1, 2, 3, 4, 0] rfl
                  exact ih _ _ h _ _ _ _ _ hl hw
                clear h
                refine lv_icmp_eq (tgt := 121) hx hb d1_6_112 rfl (fun c63 => ?_) (fun c63 => ?_)
                ·
                  replace h := (if_pos c63).symm.trans hX
                  refine lv_aload_n hx hb d1_6_121 rfl (lv_at hl.1 0 rfl) ?_
                  obtain ⟨x64, hr, h⟩ := ob h
                  refine xg_q (ci := 0) (C := r_0) (T := f_0) (N := 7) (ref := "PagedValues") hx hb hts (fun w h => List.mem_cons_of_mem _ (ly_0 w h)) hown hE hw rfl 4 (by decide) (hts _ (List.mem_cons_of_mem _ k274)) (fun _ h9 => h9) hr d1_6_122 ?_
                  clear hr
                  refine lv_aload_n hx hb d1_6_125 rfl (lv_at hl.1 0 rfl) ?_
                  obtain ⟨x65, hr, h⟩ := ob h
                  refine xg_q (ci := 0) (C := r_0) (T := f_0) (N := 7) (ref := "PagedValues") hx hb hts (fun w h => List.mem_cons_of_mem _ (ly_0 w h)) hown hE hw rfl 3 (by decide) (hts _ (List.mem_cons_of_mem _ k273)) (fun _ h9 => h9) hr d1_6_126 ?_
                  clear hr
                  refine lv_aload_n hx hb d1_6_129 rfl (lv_at hl.1 0 rfl) ?_
                  obtain ⟨x66, hr, h⟩ := ob h
                  refine xg_q (ci := 0) (C := r_0) (T := f_0) (N := 7) (ref := "PagedValues") hx hb hts (fun w h => List.mem_cons_of_mem _ (ly_0 w h)) hown hE hw rfl 5 (by decide) (hts _ (List.mem_cons_of_mem _ k275)) (fun _ h9 => h9) hr d1_6_130 ?_
                  clear hr
                  refine lv_iload_n hx hb d1_6_133 rfl (lv_at hl.1 3 rfl) ?_
                  refine lv_iload hx hb d1_6_134 (lv_at hl.1 4 rfl) ?_
                  obtain ⟨a67z, hn67, h⟩ := ob h
                  have hn67 : x66 = some a67z := hn67
                  refine W.eq (g2 := F0 m 136 ls [.int v50, .int x23, .ref a67z, va_rf x65, va_rf x64]) (by rw [hn67]; rfl) ?_
                  obtain ⟨u9, ho, h⟩ := ob h
                  obtain ⟨x68, hc, h⟩ := ob h
                  refine hV_q (ci := 9) (As := [.int x23, .int v50]) (rest := [va_rf x65, va_rf x64]) ⟨hx, hb, hml, hown, hts⟩ (cc_Store_document l G Zd K a67z x23 v50 v51 x68 hc) (kw_V (n := 2) hts k702 k746 k13 k700 k701 (by decide +kernel) ⟨Nat.le_of_ble_eq_true rfl, Nat.le_of_ble_eq_true rfl⟩) hE hw rfl rfl ho rfl hl.1.1 rfl (c1_8 (c1_c (rf_cat _) (c1_c (rf_cat _) c1_n)) (Nat.le_of_ble_eq_true rfl)) d1_6_136 (fun H locs cells slots hw => ?_)
                  clear hc ho u9
                  refine W.eq (g2 := F0 m 139 ls [va_rf x68, va_rf x65, va_rf x64]) rfl ?_
                  refine lv_iload hx hb d1_6_139 (lv_at hl.1 4 rfl) ?_
                  obtain ⟨a71z, hn71, h⟩ := ob h
                  have hn71 : x64 = some a71z := hn71
                  refine W.eq (g2 := F0 m 141 ls [.int v50, va_rf x68, va_rf x65, .ref a71z]) (by rw [hn71]; rfl) ?_
                  obtain ⟨u9, ho, h⟩ := ob h
                  obtain ⟨st73, hc, h⟩ := ob h
                  refine hV_v (ci := 8) (As := [va_rf x65, va_rf x68, .int v50]) (rest := []) ⟨hx, hb, hml, hown, hts⟩ (cc_Finder_ask l G Zd K a71z x65 x68 v50 v51 st73 hc) (kw_V (n := 3) hts k947 k944 k12 k945 k946 (by decide +kernel) ⟨Nat.le_of_ble_eq_true rfl, Nat.le_of_ble_eq_true rfl⟩) hE hw rfl rfl ho rfl hl.1.1 rfl (c1_8 c1_n (Nat.le_of_ble_eq_true rfl)) d1_6_141 (fun H locs cells slots hw => ?_)
                  clear hc ho u9
                  refine W.eq (g2 := F0 m 144 ls []) rfl ?_
                  have e9 := Option.some.inj h
                  subst e60
                  have hl := lw_sub hl (l' := [(0, .ref o), (1, .int a0), (2, .int a1), (3, .int x23), (4, .int v50)]) [0, 1, 2, 3, 4] rfl
                  exact hj _ _ _ _ _ hl hw
                ·
                  replace h := (if_neg c63).symm.trans hX
                  refine lv_iload_n hx hb d1_6_115 rfl (lv_at hl.1 2 rfl) ?_
                  refine lv_iload hx hb d1_6_116 (lv_at hl.1 4 rfl) ?_
                  refine lv_icmp_ne (tgt := 144) hx hb d1_6_118 rfl (fun c75 => ?_) (fun c75 => ?_)
                  ·
                    replace h := (if_neg c75).symm.trans h
                    have e9 := Option.some.inj h
                    subst e60
                    have hl := lw_sub hl (l' := [(0, .ref o), (1, .int a0), (2, .int a1), (3, .int x23), (4, .int v50)]) [0, 1, 2, 3, 4] rfl
                    exact hj _ _ _ _ _ hl hw
                  ·
                    replace h := (if_pos c75).symm.trans h
                    refine lv_aload_n hx hb d1_6_121 rfl (lv_at hl.1 0 rfl) ?_
                    obtain ⟨x76, hr, h⟩ := ob h
                    refine xg_q (ci := 0) (C := r_0) (T := f_0) (N := 7) (ref := "PagedValues") hx hb hts (fun w h => List.mem_cons_of_mem _ (ly_0 w h)) hown hE hw rfl 4 (by decide) (hts _ (List.mem_cons_of_mem _ k274)) (fun _ h9 => h9) hr d1_6_122 ?_
                    clear hr
                    refine lv_aload_n hx hb d1_6_125 rfl (lv_at hl.1 0 rfl) ?_
                    obtain ⟨x77, hr, h⟩ := ob h
                    refine xg_q (ci := 0) (C := r_0) (T := f_0) (N := 7) (ref := "PagedValues") hx hb hts (fun w h => List.mem_cons_of_mem _ (ly_0 w h)) hown hE hw rfl 3 (by decide) (hts _ (List.mem_cons_of_mem _ k273)) (fun _ h9 => h9) hr d1_6_126 ?_
                    clear hr
                    refine lv_aload_n hx hb d1_6_129 rfl (lv_at hl.1 0 rfl) ?_
                    obtain ⟨x78, hr, h⟩ := ob h
                    refine xg_q (ci := 0) (C := r_0) (T := f_0) (N := 7) (ref := "PagedValues") hx hb hts (fun w h => List.mem_cons_of_mem _ (ly_0 w h)) hown hE hw rfl 5 (by decide) (hts _ (List.mem_cons_of_mem _ k275)) (fun _ h9 => h9) hr d1_6_130 ?_
                    clear hr
                    refine lv_iload_n hx hb d1_6_133 rfl (lv_at hl.1 3 rfl) ?_
                    refine lv_iload hx hb d1_6_134 (lv_at hl.1 4 rfl) ?_
                    obtain ⟨a79z, hn79, h⟩ := ob h
                    have hn79 : x78 = some a79z := hn79
                    refine W.eq (g2 := F0 m 136 ls [.int v50, .int x23, .ref a79z, va_rf x77, va_rf x76]) (by rw [hn79]; rfl) ?_
                    obtain ⟨u9, ho, h⟩ := ob h
                    obtain ⟨x80, hc, h⟩ := ob h
                    refine hV_q (ci := 9) (As := [.int x23, .int v50]) (rest := [va_rf x77, va_rf x76]) ⟨hx, hb, hml, hown, hts⟩ (cc_Store_document l G Zd K a79z x23 v50 v51 x80 hc) (kw_V (n := 2) hts k702 k746 k13 k700 k701 (by decide +kernel) ⟨Nat.le_of_ble_eq_true rfl, Nat.le_of_ble_eq_true rfl⟩) hE hw rfl rfl ho rfl hl.1.1 rfl (c1_8 (c1_c (rf_cat _) (c1_c (rf_cat _) c1_n)) (Nat.le_of_ble_eq_true rfl)) d1_6_136 (fun H locs cells slots hw => ?_)
                    clear hc ho u9
                    refine W.eq (g2 := F0 m 139 ls [va_rf x80, va_rf x77, va_rf x76]) rfl ?_
                    refine lv_iload hx hb d1_6_139 (lv_at hl.1 4 rfl) ?_
                    obtain ⟨a83z, hn83, h⟩ := ob h
                    have hn83 : x76 = some a83z := hn83
                    refine W.eq (g2 := F0 m 141 ls [.int v50, va_rf x80, va_rf x77, .ref a83z]) (by rw [hn83]; rfl) ?_
                    obtain ⟨u9, ho, h⟩ := ob h
                    obtain ⟨st85, hc, h⟩ := ob h
                    refine hV_v (ci := 8) (As := [va_rf x77, va_rf x80, .int v50]) (rest := []) ⟨hx, hb, hml, hown, hts⟩ (cc_Finder_ask l G Zd K a83z x77 x80 v50 v51 st85 hc) (kw_V (n := 3) hts k947 k944 k12 k945 k946 (by decide +kernel) ⟨Nat.le_of_ble_eq_true rfl, Nat.le_of_ble_eq_true rfl⟩) hE hw rfl rfl ho rfl hl.1.1 rfl (c1_8 c1_n (Nat.le_of_ble_eq_true rfl)) d1_6_141 (fun H locs cells slots hw => ?_)
                    clear hc ho u9
                    refine W.eq (g2 := F0 m 144 ls []) rfl ?_
                    have e9 := Option.some.inj h
                    subst e60
                    have hl := lw_sub hl (l' := [(0, .ref o), (1, .int a0), (2, .int a1), (3, .int x23), (4, .int v50)]) [0, 1, 2, 3, 4] rfl
                    exact hj _ _ _ _ _ hl hw
          have hl := lw_sub hl (l' := [(0, .ref o), (1, .int a0), (2, .int a1), (3, .int x23), (4, .int 0)]) [2, 3, 4, 1, 0] rfl
          exact hloop _ _ _ hX _ _ _ _ _ hl hw
        ·
          replace h := (if_pos c48).symm.trans h
          refine lv_bipush (v := (-100)) hx hb d1_6_89 (by decide) ?_
          refine lv_aload_n hx hb d1_6_91 rfl (lv_at hl.1 1 rfl) ?_
          obtain ⟨x87, hr, h⟩ := ob h
          refine xg_q (ci := 0) (C := r_0) (T := f_0) (N := 7) (ref := "PagedValues") hx hb hts (fun w h => List.mem_cons_of_mem _ (ly_0 w h)) hown hE hw rfl 0 (by decide) (hts _ (List.mem_cons_of_mem _ k270)) (fun _ h9 => h9) hr d1_6_92 ?_
          clear hr
          obtain ⟨a88z, hn88, h⟩ := ob h
          have hn88 : x87 = some a88z := hn88
          refine W.eq (g2 := F0 m 95 ls [.ref a88z, .int (-100)]) (by rw [hn88]; rfl) ?_
          obtain ⟨x89, hr, h⟩ := ob h
          refine xgN_i (ci := 1) (C := r_1) (T := f_1) (N := 5) (ref := "PagedValues$Text") hx hb hts (fun w h => List.mem_cons_of_mem _ (ly_1 w h)) hown hE hw rfl 4 (by decide) (va_Nw.use rfl (hZ.1.1 _ kn82)) (fun _ h9 => h9) hr d1_6_95 ?_
          clear hr
          refine lv_isub hx hb d1_6_98 ?_
          obtain ⟨y90, hr, h⟩ := ob h
          refine lv_topi (fun y9 ey => ?_)
          have e9 := ey.trans (Option.some.inj hr)
          clear ey
          subst y9
          clear hr
          cases h
          exact finH_i hQ hx hb hr hlk hE hw d1_6_99
      ·
        replace h := (if_neg c26).symm.trans h
        refine lv_aload_n hx hb d1_6_40 rfl (lv_at hl.1 1 rfl) ?_
        obtain ⟨x91, hr, h⟩ := ob h
        refine xg_q (ci := 0) (C := r_0) (T := f_0) (N := 7) (ref := "PagedValues") hx hb hts (fun w h => List.mem_cons_of_mem _ (ly_0 w h)) hown hE hw rfl 5 (by decide) (hts _ (List.mem_cons_of_mem _ k275)) (fun _ h9 => h9) hr d1_6_41 ?_
        clear hr
        refine lv_iload_n hx hb d1_6_44 rfl (lv_at hl.1 0 rfl) ?_
        refine lv_iload_n hx hb d1_6_45 rfl (lv_at hl.1 3 rfl) ?_
        obtain ⟨a92z, hn92, h⟩ := ob h
        have hn92 : x91 = some a92z := hn92
        refine W.eq (g2 := F0 m 46 ls [.int a1, .int x23, .ref a92z]) (by rw [hn92]; rfl) ?_
        obtain ⟨u9, ho, h⟩ := ob h
        obtain ⟨x93, hc, h⟩ := ob h
        refine hV_q (ci := 9) (As := [.int x23, .int a1]) (rest := []) ⟨hx, hb, hml, hown, hts⟩ (cc_Store_document l G Zd K a92z x23 a1 st x93 hc) (kw_V (n := 2) hts k702 k746 k13 k700 k701 (by decide +kernel) ⟨Nat.le_of_ble_eq_true rfl, Nat.le_of_ble_eq_true rfl⟩) hE hw rfl rfl ho rfl hl.1.1 rfl (c1_8 c1_n (Nat.le_of_ble_eq_true rfl)) d1_6_46 (fun H locs cells slots hw => ?_)
        clear hc ho u9
        refine W.eq (g2 := F0 m 49 ls [va_rf x93]) rfl ?_
        rcases nl_case h with ⟨hn96, h⟩ | ⟨a96z, hn96, h⟩
        ·
          have hn96 : x93 = none := hn96
          refine W.eq (g2 := F0 m 49 ls [.null]) (by rw [hn96]; rfl) ?_
          refine lv_ifnonnullN hx hb d1_6_49 ?_
          refine lv_iconst (v := (-1)) hx hb d1_6_52 (by decide) ?_
          cases h
          exact finH_i hQ hx hb hr hlk hE hw d1_6_53
        ·
          have hn96 : x93 = some a96z := hn96
          refine W.eq (g2 := F0 m 49 ls [.ref a96z]) (by rw [hn96]; rfl) ?_
          refine lv_ifnonnull (tgt := 54) hx hb d1_6_49 rfl ?_
          refine lv_aload_n hx hb d1_6_54 rfl (lv_at hl.1 1 rfl) ?_
          obtain ⟨x97, hr, h⟩ := ob h
          refine xg_q (ci := 0) (C := r_0) (T := f_0) (N := 7) (ref := "PagedValues") hx hb hts (fun w h => List.mem_cons_of_mem _ (ly_0 w h)) hown hE hw rfl 3 (by decide) (hts _ (List.mem_cons_of_mem _ k273)) (fun _ h9 => h9) hr d1_6_55 ?_
          clear hr
          refine lv_aload_n hx hb d1_6_58 rfl (lv_at hl.1 1 rfl) ?_
          obtain ⟨x98, hr, h⟩ := ob h
          refine xg_q (ci := 0) (C := r_0) (T := f_0) (N := 7) (ref := "PagedValues") hx hb hts (fun w h => List.mem_cons_of_mem _ (ly_0 w h)) hown hE hw rfl 0 (by decide) (hts _ (List.mem_cons_of_mem _ k270)) (fun _ h9 => h9) hr d1_6_59 ?_
          clear hr
          obtain ⟨a99z, hn99, h⟩ := ob h
          have hn99 : x97 = some a99z := hn99
          refine W.eq (g2 := F0 m 62 ls [va_rf x98, .ref a99z]) (by rw [hn99]; rfl) ?_
          obtain ⟨u9, ho, h⟩ := ob h
          obtain ⟨st101, hc, h⟩ := ob h
          refine hV_v (ci := 6) (As := [va_rf x98]) (rest := []) ⟨hx, hb, hml, hown, hts⟩ (cc_Query_parse l G Zd K a99z x98 st st101 hc) (kw_V (n := 1) hts k895 k892 k10 k893 k894 (by decide +kernel) ⟨Nat.le_of_ble_eq_true rfl, Nat.le_of_ble_eq_true rfl⟩) hE hw rfl rfl ho rfl hl.1.1 rfl (c1_8 c1_n (Nat.le_of_ble_eq_true rfl)) d1_6_62 (fun H locs cells slots hw => ?_)
          clear hc ho u9
          refine W.eq (g2 := F0 m 65 ls []) rfl ?_
          refine lv_aload_n hx hb d1_6_65 rfl (lv_at hl.1 1 rfl) ?_
          obtain ⟨x103, hr, h⟩ := ob h
          refine xg_q (ci := 0) (C := r_0) (T := f_0) (N := 7) (ref := "PagedValues") hx hb hts (fun w h => List.mem_cons_of_mem _ (ly_0 w h)) hown hE hw rfl 0 (by decide) (hts _ (List.mem_cons_of_mem _ k270)) (fun _ h9 => h9) hr d1_6_66 ?_
          clear hr
          obtain ⟨a104z, hn104, h⟩ := ob h
          have hn104 : x103 = some a104z := hn104
          refine W.eq (g2 := F0 m 69 ls [.ref a104z]) (by rw [hn104]; rfl) ?_
          obtain ⟨u9, ho, h⟩ := ob h
          obtain ⟨st106, hc, h⟩ := ob h
          refine hV_v (ci := 1) (As := []) (rest := []) ⟨hx, hb, hml, hown, hts⟩ (cc_Text_clear l G Zd K a104z st101 st106 hc) (kw_V (n := 0) hts k674 k671 k2 k672 k673 (by decide +kernel) ⟨Nat.le_of_ble_eq_true rfl, Nat.le_of_ble_eq_true rfl⟩) hE hw rfl rfl ho rfl hl.1.1 rfl (c1_8 c1_n (Nat.le_of_ble_eq_true rfl)) d1_6_69 (fun H locs cells slots hw => ?_)
          clear hc ho u9
          refine W.eq (g2 := F0 m 72 ls []) rfl ?_
          refine lv_aload_n hx hb d1_6_72 rfl (lv_at hl.1 1 rfl) ?_
          obtain ⟨x108, hr, h⟩ := ob h
          refine xg_q (ci := 0) (C := r_0) (T := f_0) (N := 7) (ref := "PagedValues") hx hb hts (fun w h => List.mem_cons_of_mem _ (ly_0 w h)) hown hE hw rfl 4 (by decide) (hts _ (List.mem_cons_of_mem _ k274)) (fun _ h9 => h9) hr d1_6_73 ?_
          clear hr
          obtain ⟨a109z, hn109, h⟩ := ob h
          have hn109 : x108 = some a109z := hn109
          refine W.eq (g2 := F0 m 76 ls [.ref a109z]) (by rw [hn109]; rfl) ?_
          obtain ⟨u9, ho, h⟩ := ob h
          obtain ⟨st111, hc, h⟩ := ob h
          refine hV_v (ci := 8) (As := []) (rest := []) ⟨hx, hb, hml, hown, hts⟩ (cc_Finder_forget l G Zd K a109z st106 st111 hc) (kw_V (n := 0) hts k942 k939 k12 k940 k941 (by decide +kernel) ⟨Nat.le_of_ble_eq_true rfl, Nat.le_of_ble_eq_true rfl⟩) hE hw rfl rfl ho rfl hl.1.1 rfl (c1_8 c1_n (Nat.le_of_ble_eq_true rfl)) d1_6_76 (fun H locs cells slots hw => ?_)
          clear hc ho u9
          refine W.eq (g2 := F0 m 79 ls []) rfl ?_
          refine lv_aload_n hx hb d1_6_79 rfl (lv_at hl.1 1 rfl) ?_
          obtain ⟨x113, hr, h⟩ := ob h
          refine xg_q (ci := 0) (C := r_0) (T := f_0) (N := 7) (ref := "PagedValues") hx hb hts (fun w h => List.mem_cons_of_mem _ (ly_0 w h)) hown hE hw rfl 0 (by decide) (hts _ (List.mem_cons_of_mem _ k270)) (fun _ h9 => h9) hr d1_6_80 ?_
          clear hr
          obtain ⟨a114z, hn114, h⟩ := ob h
          have hn114 : x113 = some a114z := hn114
          refine W.eq (g2 := F0 m 83 ls [.ref a114z]) (by rw [hn114]; rfl) ?_
          obtain ⟨u9, ho, h⟩ := ob h
          obtain ⟨x115, hc, h⟩ := ob h
          refine hV_i (ci := 1) (As := []) (rest := []) ⟨hx, hb, hml, hown, hts⟩ (cc_Text_isRight l G Zd K a114z st111 x115 hc) (kw_V (n := 0) hts k580 k943 k2 k578 k579 (by decide +kernel) ⟨Nat.le_of_ble_eq_true rfl, Nat.le_of_ble_eq_true rfl⟩) hE hw rfl rfl ho rfl hl.1.1 rfl (c1_8 c1_n (Nat.le_of_ble_eq_true rfl)) d1_6_83 (fun H locs cells slots hw => ?_)
          clear hc ho u9
          refine W.eq (g2 := F0 m 86 ls [.int x115]) rfl ?_
          refine lv_if_ne (tgt := 100) hx hb d1_6_86 rfl (fun c118 => ?_) (fun c118 => ?_)
          ·
            replace h := (if_neg c118).symm.trans h
            refine lv_iconst (v := 0) hx hb d1_6_100 (by decide) ?_
            refine xt_istore (x := 0) (lv' := [(4, .int 0), (3, .int x23), (0, .ref o), (1, .int a0), (2, .int a1)]) hx hb d1_6_101 hl (by decide) rfl (fun ls hl => ?_)
            obtain ⟨e119, hX, hrest⟩ := ob h
            clear h
            have hj : ∀ (v122 : Int32) (v123 : CS), e119 = (v122, v123) → ∀ (H : Heap) (locs : List Loc) (cells slots : Nat) (ls : Array Slot), lw ls 5 [(0, .ref o), (1, .int a0), (2, .int a1), (3, .int x23), (4, .int v122)] → wsH G Zd A s v123 H locs → W p l e (rmH Zd (53) st.1) s m args below meth c H locs cells slots Q (F0 m 150 ls []) := by
              intro v122 v123 he H locs cells slots ls hl hw
              subst e119
              have h := hrest
              clear hrest
              refine lv_aload_n hx hb d1_6_150 rfl (lv_at hl.1 0 rfl) ?_
              obtain ⟨x124, hr, h⟩ := ob h
              refine xg_q (ci := 0) (C := r_0) (T := f_0) (N := 7) (ref := "PagedValues") hx hb hts (fun w h => List.mem_cons_of_mem _ (ly_0 w h)) hown hE hw rfl 4 (by decide) (hts _ (List.mem_cons_of_mem _ k274)) (fun _ h9 => h9) hr d1_6_151 ?_
              clear hr
              obtain ⟨a125z, hn125, h⟩ := ob h
              have hn125 : x124 = some a125z := hn125
              refine W.eq (g2 := F0 m 154 ls [.ref a125z]) (by rw [hn125]; rfl) ?_
              obtain ⟨u9, ho, h⟩ := ob h
              obtain ⟨⟨x126, st127⟩, hc, h⟩ := ob h
              refine hV_i (ci := 8) (As := []) (rest := []) ⟨hx, hb, hml, hown, hts⟩ (cc_Finder_total l G Zd K a125z v123 x126 st127 hc) (kw_V (n := 0) hts k982 k979 k12 k980 k981 (by decide +kernel) ⟨Nat.le_of_ble_eq_true rfl, Nat.le_of_ble_eq_true rfl⟩) hE hw rfl rfl ho rfl hl.1.1 rfl (c1_8 c1_n (Nat.le_of_ble_eq_true rfl)) d1_6_154 (fun H locs cells slots hw => ?_)
              clear hc ho u9
              refine W.eq (g2 := F0 m 157 ls [.int x126]) rfl ?_
              cases h
              exact finH_i hQ hx hb hr hlk hE hw d1_6_157
            have hloop : ∀ (n9 : Nat) (v120 : Int32) (v121 : CS), c_PagedValues_query_l2 Zd K o a1 x23 n9 (v120, v121) = some e119 → ∀ (H : Heap) (locs : List Loc) (cells slots : Nat) (ls : Array Slot), lw ls 5 [(0, .ref o), (1, .int a0), (2, .int a1), (3, .int x23), (4, .int v120)] → wsH G Zd A s v121 H locs → W p l e (rmH Zd (53) st.1) s m args below meth c H locs cells slots Q (F0 m 103 ls []) := by
              intro n9
              induction n9 with
              | zero =>
                intro v120 v121 h
                cases h
              | succ n9 ih =>
                intro v120 v121 h H locs cells slots ls hl hw
                replace h := (c_PagedValues_query_l2_s Zd K o a1 x23 n9 (v120, v121)).symm.trans h
                refine lv_iload hx hb d1_6_103 (lv_at hl.1 4 rfl) ?_
                refine lv_bipush (v := 8) hx hb d1_6_105 (by decide) ?_
                refine lv_icmp_ge (tgt := 150) hx hb d1_6_107 rfl (fun c129 => ?_) (fun c129 => ?_)
                ·
                  replace h := (if_pos c129).symm.trans h
                  have e9 := Option.some.inj h
                  subst e119
                  have hl := lw_sub hl (l' := [(0, .ref o), (1, .int a0), (2, .int a1), (3, .int x23), (4, .int v120)]) [0, 1, 2, 3, 4] rfl
                  exact hj _ _ rfl _ _ _ _ _ hl hw
                ·
                  replace h := (if_neg c129).symm.trans h
                  refine lv_iload_n hx hb d1_6_110 rfl (lv_at hl.1 2 rfl) ?_
                  refine lv_iconst (v := (-1)) hx hb d1_6_111 (by decide) ?_
                  obtain ⟨e130, hX, h⟩ := ob h
                  have hj : ∀ (H : Heap) (locs : List Loc) (cells slots : Nat) (ls : Array Slot), lw ls 5 [(0, .ref o), (1, .int a0), (2, .int a1), (3, .int x23), (4, .int v120)] → wsH G Zd A s e130 H locs → W p l e (rmH Zd (53) st.1) s m args below meth c H locs cells slots Q (F0 m 144 ls []) := by
                    intro H locs cells slots ls hl hw
                    obtain ⟨y132, hr, h⟩ := ob h
                    refine xt_iinc (k := 4) (v := y132) (lv' := [(4, .int y132), (0, .ref o), (1, .int a0), (2, .int a1), (3, .int x23)]) hx hb d1_6_144 hl rfl hr (by decide) rfl (fun ls hl => ?_)
                    clear hr
                    refine lv_goto (tgt := 103) hx hb d1_6_147 rfl ?_
                    have hl := lw_sub hl (l' := [(0, .ref o), (1, .int a0), (2, .int a1), (3, .int x23), (4, .int y132)]) [1, 2, 3, 4, 0] rfl
                    exact ih _ _ h _ _ _ _ _ hl hw
                  clear h
                  refine lv_icmp_eq (tgt := 121) hx hb d1_6_112 rfl (fun c133 => ?_) (fun c133 => ?_)
                  ·
                    replace h := (if_pos c133).symm.trans hX
                    refine lv_aload_n hx hb d1_6_121 rfl (lv_at hl.1 0 rfl) ?_
                    obtain ⟨x134, hr, h⟩ := ob h
                    refine xg_q (ci := 0) (C := r_0) (T := f_0) (N := 7) (ref := "PagedValues") hx hb hts (fun w h => List.mem_cons_of_mem _ (ly_0 w h)) hown hE hw rfl 4 (by decide) (hts _ (List.mem_cons_of_mem _ k274)) (fun _ h9 => h9) hr d1_6_122 ?_
                    clear hr
                    refine lv_aload_n hx hb d1_6_125 rfl (lv_at hl.1 0 rfl) ?_
                    obtain ⟨x135, hr, h⟩ := ob h
                    refine xg_q (ci := 0) (C := r_0) (T := f_0) (N := 7) (ref := "PagedValues") hx hb hts (fun w h => List.mem_cons_of_mem _ (ly_0 w h)) hown hE hw rfl 3 (by decide) (hts _ (List.mem_cons_of_mem _ k273)) (fun _ h9 => h9) hr d1_6_126 ?_
                    clear hr
                    refine lv_aload_n hx hb d1_6_129 rfl (lv_at hl.1 0 rfl) ?_
                    obtain ⟨x136, hr, h⟩ := ob h
                    refine xg_q (ci := 0) (C := r_0) (T := f_0) (N := 7) (ref := "PagedValues") hx hb hts (fun w h => List.mem_cons_of_mem _ (ly_0 w h)) hown hE hw rfl 5 (by decide) (hts _ (List.mem_cons_of_mem _ k275)) (fun _ h9 => h9) hr d1_6_130 ?_
                    clear hr
                    refine lv_iload_n hx hb d1_6_133 rfl (lv_at hl.1 3 rfl) ?_
                    refine lv_iload hx hb d1_6_134 (lv_at hl.1 4 rfl) ?_
                    obtain ⟨a137z, hn137, h⟩ := ob h
                    have hn137 : x136 = some a137z := hn137
                    refine W.eq (g2 := F0 m 136 ls [.int v120, .int x23, .ref a137z, va_rf x135, va_rf x134]) (by rw [hn137]; rfl) ?_
                    obtain ⟨u9, ho, h⟩ := ob h
                    obtain ⟨x138, hc, h⟩ := ob h
                    refine hV_q (ci := 9) (As := [.int x23, .int v120]) (rest := [va_rf x135, va_rf x134]) ⟨hx, hb, hml, hown, hts⟩ (cc_Store_document l G Zd K a137z x23 v120 v121 x138 hc) (kw_V (n := 2) hts k702 k746 k13 k700 k701 (by decide +kernel) ⟨Nat.le_of_ble_eq_true rfl, Nat.le_of_ble_eq_true rfl⟩) hE hw rfl rfl ho rfl hl.1.1 rfl (c1_8 (c1_c (rf_cat _) (c1_c (rf_cat _) c1_n)) (Nat.le_of_ble_eq_true rfl)) d1_6_136 (fun H locs cells slots hw => ?_)
                    clear hc ho u9
                    refine W.eq (g2 := F0 m 139 ls [va_rf x138, va_rf x135, va_rf x134]) rfl ?_
                    refine lv_iload hx hb d1_6_139 (lv_at hl.1 4 rfl) ?_
                    obtain ⟨a141z, hn141, h⟩ := ob h
                    have hn141 : x134 = some a141z := hn141
                    refine W.eq (g2 := F0 m 141 ls [.int v120, va_rf x138, va_rf x135, .ref a141z]) (by rw [hn141]; rfl) ?_
                    obtain ⟨u9, ho, h⟩ := ob h
                    obtain ⟨st143, hc, h⟩ := ob h
                    refine hV_v (ci := 8) (As := [va_rf x135, va_rf x138, .int v120]) (rest := []) ⟨hx, hb, hml, hown, hts⟩ (cc_Finder_ask l G Zd K a141z x135 x138 v120 v121 st143 hc) (kw_V (n := 3) hts k947 k944 k12 k945 k946 (by decide +kernel) ⟨Nat.le_of_ble_eq_true rfl, Nat.le_of_ble_eq_true rfl⟩) hE hw rfl rfl ho rfl hl.1.1 rfl (c1_8 c1_n (Nat.le_of_ble_eq_true rfl)) d1_6_141 (fun H locs cells slots hw => ?_)
                    clear hc ho u9
                    refine W.eq (g2 := F0 m 144 ls []) rfl ?_
                    have e9 := Option.some.inj h
                    subst e130
                    have hl := lw_sub hl (l' := [(0, .ref o), (1, .int a0), (2, .int a1), (3, .int x23), (4, .int v120)]) [0, 1, 2, 3, 4] rfl
                    exact hj _ _ _ _ _ hl hw
                  ·
                    replace h := (if_neg c133).symm.trans hX
                    refine lv_iload_n hx hb d1_6_115 rfl (lv_at hl.1 2 rfl) ?_
                    refine lv_iload hx hb d1_6_116 (lv_at hl.1 4 rfl) ?_
                    refine lv_icmp_ne (tgt := 144) hx hb d1_6_118 rfl (fun c145 => ?_) (fun c145 => ?_)
                    ·
                      replace h := (if_neg c145).symm.trans h
                      have e9 := Option.some.inj h
                      subst e130
                      have hl := lw_sub hl (l' := [(0, .ref o), (1, .int a0), (2, .int a1), (3, .int x23), (4, .int v120)]) [0, 1, 2, 3, 4] rfl
                      exact hj _ _ _ _ _ hl hw
                    ·
                      replace h := (if_pos c145).symm.trans h
                      refine lv_aload_n hx hb d1_6_121 rfl (lv_at hl.1 0 rfl) ?_
                      obtain ⟨x146, hr, h⟩ := ob h
                      refine xg_q (ci := 0) (C := r_0) (T := f_0) (N := 7) (ref := "PagedValues") hx hb hts (fun w h => List.mem_cons_of_mem _ (ly_0 w h)) hown hE hw rfl 4 (by decide) (hts _ (List.mem_cons_of_mem _ k274)) (fun _ h9 => h9) hr d1_6_122 ?_
                      clear hr
                      refine lv_aload_n hx hb d1_6_125 rfl (lv_at hl.1 0 rfl) ?_
                      obtain ⟨x147, hr, h⟩ := ob h
                      refine xg_q (ci := 0) (C := r_0) (T := f_0) (N := 7) (ref := "PagedValues") hx hb hts (fun w h => List.mem_cons_of_mem _ (ly_0 w h)) hown hE hw rfl 3 (by decide) (hts _ (List.mem_cons_of_mem _ k273)) (fun _ h9 => h9) hr d1_6_126 ?_
                      clear hr
                      refine lv_aload_n hx hb d1_6_129 rfl (lv_at hl.1 0 rfl) ?_
                      obtain ⟨x148, hr, h⟩ := ob h
                      refine xg_q (ci := 0) (C := r_0) (T := f_0) (N := 7) (ref := "PagedValues") hx hb hts (fun w h => List.mem_cons_of_mem _ (ly_0 w h)) hown hE hw rfl 5 (by decide) (hts _ (List.mem_cons_of_mem _ k275)) (fun _ h9 => h9) hr d1_6_130 ?_
                      clear hr
                      refine lv_iload_n hx hb d1_6_133 rfl (lv_at hl.1 3 rfl) ?_
                      refine lv_iload hx hb d1_6_134 (lv_at hl.1 4 rfl) ?_
                      obtain ⟨a149z, hn149, h⟩ := ob h
                      have hn149 : x148 = some a149z := hn149
                      refine W.eq (g2 := F0 m 136 ls [.int v120, .int x23, .ref a149z, va_rf x147, va_rf x146]) (by rw [hn149]; rfl) ?_
                      obtain ⟨u9, ho, h⟩ := ob h
                      obtain ⟨x150, hc, h⟩ := ob h
                      refine hV_q (ci := 9) (As := [.int x23, .int v120]) (rest := [va_rf x147, va_rf x146]) ⟨hx, hb, hml, hown, hts⟩ (cc_Store_document l G Zd K a149z x23 v120 v121 x150 hc) (kw_V (n := 2) hts k702 k746 k13 k700 k701 (by decide +kernel) ⟨Nat.le_of_ble_eq_true rfl, Nat.le_of_ble_eq_true rfl⟩) hE hw rfl rfl ho rfl hl.1.1 rfl (c1_8 (c1_c (rf_cat _) (c1_c (rf_cat _) c1_n)) (Nat.le_of_ble_eq_true rfl)) d1_6_136 (fun H locs cells slots hw => ?_)
                      clear hc ho u9
                      refine W.eq (g2 := F0 m 139 ls [va_rf x150, va_rf x147, va_rf x146]) rfl ?_
                      refine lv_iload hx hb d1_6_139 (lv_at hl.1 4 rfl) ?_
                      obtain ⟨a153z, hn153, h⟩ := ob h
                      have hn153 : x146 = some a153z := hn153
                      refine W.eq (g2 := F0 m 141 ls [.int v120, va_rf x150, va_rf x147, .ref a153z]) (by rw [hn153]; rfl) ?_
                      obtain ⟨u9, ho, h⟩ := ob h
                      obtain ⟨st155, hc, h⟩ := ob h
                      refine hV_v (ci := 8) (As := [va_rf x147, va_rf x150, .int v120]) (rest := []) ⟨hx, hb, hml, hown, hts⟩ (cc_Finder_ask l G Zd K a153z x147 x150 v120 v121 st155 hc) (kw_V (n := 3) hts k947 k944 k12 k945 k946 (by decide +kernel) ⟨Nat.le_of_ble_eq_true rfl, Nat.le_of_ble_eq_true rfl⟩) hE hw rfl rfl ho rfl hl.1.1 rfl (c1_8 c1_n (Nat.le_of_ble_eq_true rfl)) d1_6_141 (fun H locs cells slots hw => ?_)
                      clear hc ho u9
                      refine W.eq (g2 := F0 m 144 ls []) rfl ?_
                      have e9 := Option.some.inj h
                      subst e130
                      have hl := lw_sub hl (l' := [(0, .ref o), (1, .int a0), (2, .int a1), (3, .int x23), (4, .int v120)]) [0, 1, 2, 3, 4] rfl
                      exact hj _ _ _ _ _ hl hw
            have hl := lw_sub hl (l' := [(0, .ref o), (1, .int a0), (2, .int a1), (3, .int x23), (4, .int 0)]) [2, 3, 4, 1, 0] rfl
            exact hloop _ _ _ hX _ _ _ _ _ hl hw
          ·
            replace h := (if_pos c118).symm.trans h
            refine lv_bipush (v := (-100)) hx hb d1_6_89 (by decide) ?_
            refine lv_aload_n hx hb d1_6_91 rfl (lv_at hl.1 1 rfl) ?_
            obtain ⟨x157, hr, h⟩ := ob h
            refine xg_q (ci := 0) (C := r_0) (T := f_0) (N := 7) (ref := "PagedValues") hx hb hts (fun w h => List.mem_cons_of_mem _ (ly_0 w h)) hown hE hw rfl 0 (by decide) (hts _ (List.mem_cons_of_mem _ k270)) (fun _ h9 => h9) hr d1_6_92 ?_
            clear hr
            obtain ⟨a158z, hn158, h⟩ := ob h
            have hn158 : x157 = some a158z := hn158
            refine W.eq (g2 := F0 m 95 ls [.ref a158z, .int (-100)]) (by rw [hn158]; rfl) ?_
            obtain ⟨x159, hr, h⟩ := ob h
            refine xgN_i (ci := 1) (C := r_1) (T := f_1) (N := 5) (ref := "PagedValues$Text") hx hb hts (fun w h => List.mem_cons_of_mem _ (ly_1 w h)) hown hE hw rfl 4 (by decide) (va_Nw.use rfl (hZ.1.1 _ kn82)) (fun _ h9 => h9) hr d1_6_95 ?_
            clear hr
            refine lv_isub hx hb d1_6_98 ?_
            obtain ⟨y160, hr, h⟩ := ob h
            refine lv_topi (fun y9 ey => ?_)
            have e9 := ey.trans (Option.some.inj hr)
            clear ey
            subst y9
            clear hr
            cases h
            exact finH_i hQ hx hb hr hlk hE hw d1_6_99
    ·
      replace h := (if_pos c20).symm.trans h
      refine lv_iconst (v := (-1)) hx hb d1_6_24 (by decide) ?_
      cases h
      exact finH_i hQ hx hb hr hlk hE hw d1_6_25
  ·
    replace h := (if_neg c14).symm.trans h
    refine lv_bipush (v := (-9)) hx hb d1_6_10 (by decide) ?_
    cases h
    exact finH_i hQ hx hb hr hlk hE hw d1_6_12
