theorem d21_54_0 : decode prog_21_method_54_code 0 = .ok (.aload_n 0, 1) := by decide +kernel
theorem d21_54_1 : decode prog_21_method_54_code 1 = .ok (.getfield 9, 3) := by decide +kernel
theorem k527 : (Jvm.Cond.fieldLink "java/lang/String" (9 : Nat) "java/lang/String" "value" "[B") ∈ TB := tk_3 47 rfl rfl
theorem d21_54_4 : decode prog_21_method_54_code 4 = .ok (.arraylength, 1) := by decide +kernel
theorem d21_54_5 : decode prog_21_method_54_code 5 = .ok (.aload_n 0, 1) := by decide +kernel
theorem d21_54_6 : decode prog_21_method_54_code 6 = .ok (.invokevirtual 335, 3) := by decide +kernel
theorem d21_152_0 : decode prog_21_method_152_code 0 = .ok (.getstatic 38, 3) := by decide +kernel
theorem k493 : (Jvm.Cond.fieldLink "java/lang/String" (38 : Nat) "java/lang/String" "COMPACT_STRINGS" "Z") ∈ TB := tk_3 13 rfl rfl
theorem d21_152_3 : decode prog_21_method_152_code 3 = .ok (.ifCond .eq 10, 3) := by decide +kernel
theorem d21_152_6 : decode prog_21_method_152_code 6 = .ok (.aload_n 0, 1) := by decide +kernel
theorem d21_152_7 : decode prog_21_method_152_code 7 = .ok (.getfield 15, 3) := by decide +kernel
theorem k528 : (Jvm.Cond.fieldLink "java/lang/String" (15 : Nat) "java/lang/String" "coder" "B") ∈ TB := tk_3 48 rfl rfl
theorem d21_152_10 : decode prog_21_method_152_code 10 = .ok (.goto 4, 3) := by decide +kernel
theorem d21_152_14 : decode prog_21_method_152_code 14 = .ok (.ireturn, 1) := by decide +kernel
def y21_152 : MethodName := { cls := "java/lang/String", name := "coder", desc := "()B" }
theorem k632 : (Jvm.Cond.code ({ cls := "java/lang/String", name := "coder", desc := "()B" } : Jvm.MethodName) prog_21_method_152_code (1 : Nat) (Option.some Jvm.ClassFile.FieldType.byte)) ∈ TB := tk_3 152 rfl rfl
theorem k5 : (Jvm.Cond.initialized "java/lang/String") ∈ TB := tk_1 5 rfl rfl
theorem k629 : (Jvm.Cond.methodLink "java/lang/String" (335 : Nat) ({ cls := "java/lang/String", name := "coder", desc := "()B" } : Jvm.MethodName)) ∈ TB := tk_3 149 rfl rfl
theorem k630 : (Jvm.Cond.instanceMethod ({ cls := "java/lang/String", name := "coder", desc := "()B" } : Jvm.MethodName)) ∈ TB := tk_3 150 rfl rfl
theorem k631 : (Jvm.Cond.selects "java/lang/String" ({ cls := "java/lang/String", name := "coder", desc := "()B" } : Jvm.MethodName) ({ cls := "java/lang/String", name := "coder", desc := "()B" } : Jvm.MethodName)) ∈ TB := tk_3 151 rfl rfl
theorem d21_54_9 : decode prog_21_method_54_code 9 = .ok (.ishr, 1) := by decide +kernel
theorem d21_54_10 : decode prog_21_method_54_code 10 = .ok (.ireturn, 1) := by decide +kernel
def y21_54 : MethodName := { cls := "java/lang/String", name := "length", desc := "()I" }
def c_String_coder (Zd : Nat → Nat) (K : KE) (o : Nat) (st : CS) : Option (Int32) := (gI K st o 12 1).bind fun x11 => (nrB x11).bind fun _ => some x11
set_option maxHeartbeats 4000000 in
set_option maxRecDepth 100000 in
theorem cc_String_coder (l : Launch) (G : Gk) (Zd : Nat → Nat) (K : KE) (o : Nat) (st : CS) (r0 : Int32) (hm : c_String_coder Zd K o st = some r0) : CT l y21_152 prog_21_method_152_code 1 (some .byte) G Zd K (0) [.ref o] st (hI G Zd r0 st) := by
  refine goH (d := 0) (y := y21_152) (cc := prog_21_method_152_code) (maxL := 1) (ret := (some .byte)) (av := [.ref o]) (Qc := hI G Zd r0 st) "java/lang/String" rfl (by decide) (c1_c rfl c1_n) (Nat.le_of_ble_eq_true rfl) ?_
  intro p e s m below meth c ls A args Q hQ hx hb hr hlk hml hown hts hin hl hE hw
  have hl : lw ls 1 [(0, .ref o)] := hl
  have hZ := hE.2.2.1
  have h := hm
  clear hm
  refine va_gets (ref := "java/lang/String") hx hb hZ.1.2.1 hw.2.2.2 hown (hts _ (List.mem_cons_of_mem _ k493)) (fun _ h9 => h9) d21_152_0 ?_
  refine W.eq (g2 := F0 m 3 ls [.int 1]) rfl ?_
  refine lv_if_eq (tgt := 13) hx hb d21_152_3 rfl (fun hc => absurd hc (by decide)) (fun _ => ?_)
  refine lv_aload_n hx hb d21_152_6 rfl (lv_at hl.1 0 rfl) ?_
  obtain ⟨x11, hr, h⟩ := ob h
  refine xg_i (ci := 12) (C := r_12) (T := f_12) (N := 4) (ref := "java/lang/String") hx hb hts (fun w h => List.mem_cons_of_mem _ (ly_12 w h)) hown hE hw rfl 1 (by decide) (hts _ (List.mem_cons_of_mem _ k528)) (fun _ h9 => h9) hr d21_152_7 ?_
  clear hr
  refine lv_goto (tgt := 14) hx hb d21_152_10 rfl ?_
  obtain ⟨u9, hr9, h⟩ := ob h
  have hi := nrB_some hr9
  clear hr9 u9
  cases h
  exact finH_z hQ hx hb hr hlk hi.1 hE hw d21_152_14
def c_String_length (Zd : Nat → Nat) (K : KE) (o : Nat) (st : CS) : Option (Int32) := (gQ K st o 12 0).bind fun x11 => x11.bind fun a12z => (lA K st a12z 2).bind fun n13 => (some (Int32.ofNat n13)).bind fun x14 => (isO K st o 12).bind fun _ => (c_String_coder Zd K o st).bind fun x15 => (some (x14 >>> (x15 &&& 31))).bind fun y18 => some y18
set_option maxHeartbeats 4000000 in
set_option maxRecDepth 100000 in
theorem cc_String_length (l : Launch) (G : Gk) (Zd : Nat → Nat) (K : KE) (o : Nat) (st : CS) (r0 : Int32) (hm : c_String_length Zd K o st = some r0) : CT l y21_54 prog_21_method_54_code 1 (some .int) G Zd K (1) [.ref o] st (hI G Zd r0 st) := by
  refine goH (d := 1) (y := y21_54) (cc := prog_21_method_54_code) (maxL := 1) (ret := (some .int)) (av := [.ref o]) (Qc := hI G Zd r0 st) "java/lang/String" rfl (by decide) (c1_c rfl c1_n) (Nat.le_of_ble_eq_true rfl) ?_
  intro p e s m below meth c ls A args Q hQ hx hb hr hlk hml hown hts hin hl hE hw
  have hl : lw ls 1 [(0, .ref o)] := hl
  have hZ := hE.2.2.1
  have h := hm
  clear hm
  refine lv_aload_n hx hb d21_54_0 rfl (lv_at hl.1 0 rfl) ?_
  obtain ⟨x11, hr, h⟩ := ob h
  refine xg_q (ci := 12) (C := r_12) (T := f_12) (N := 4) (ref := "java/lang/String") hx hb hts (fun w h => List.mem_cons_of_mem _ (ly_12 w h)) hown hE hw rfl 0 (by decide) (hts _ (List.mem_cons_of_mem _ k527)) (fun _ h9 => h9) hr d21_54_1 ?_
  clear hr
  obtain ⟨a12z, hn12, h⟩ := ob h
  have hn12 : x11 = some a12z := hn12
  refine W.eq (g2 := F0 m 4 ls [.ref a12z]) (by rw [hn12]; rfl) ?_
  obtain ⟨n13, hr, h⟩ := ob h
  obtain ⟨x14, hr2, h⟩ := ob h
  refine xl hx hb hE hw (t := 2) rfl hr hr2 d21_54_4 ?_
  clear hr hr2
  refine lv_aload_n hx hb d21_54_5 rfl (lv_at hl.1 0 rfl) ?_
  obtain ⟨u9, ho, h⟩ := ob h
  obtain ⟨x15, hc, h⟩ := ob h
  refine hV_i (ci := 12) (As := []) (rest := [.int x14]) ⟨hx, hb, hml, hown, hts⟩ (cc_String_coder l G Zd K o st x15 hc) (kw_V (n := 0) hts k632 k629 k5 k630 k631 (by decide +kernel) ⟨Nat.le_of_ble_eq_true rfl, Nat.le_of_ble_eq_true rfl⟩) hE hw rfl rfl ho rfl hl.1.1 rfl (c1_8 (c1_c rfl c1_n) (Nat.le_of_ble_eq_true rfl)) d21_54_6 (fun H locs cells slots hw => ?_)
  clear hc ho u9
  refine W.eq (g2 := F0 m 9 ls [.int x15, .int x14]) rfl ?_
  refine lv_ishr hx hb d21_54_9 ?_
  obtain ⟨y18, hr, h⟩ := ob h
  refine lv_topi (fun y9 ey => ?_)
  have e9 := ey.trans (Option.some.inj hr)
  clear ey
  subst y9
  clear hr
  cases h
  exact finH_i hQ hx hb hr hlk hE hw d21_54_10
theorem d21_55_0 : decode prog_21_method_55_code 0 = .ok (.aload_n 0, 1) := by decide +kernel
theorem d21_55_1 : decode prog_21_method_55_code 1 = .ok (.getfield 9, 3) := by decide +kernel
theorem d21_55_4 : decode prog_21_method_55_code 4 = .ok (.arraylength, 1) := by decide +kernel
theorem d21_55_5 : decode prog_21_method_55_code 5 = .ok (.ifCond .ne 7, 3) := by decide +kernel
theorem d21_55_12 : decode prog_21_method_55_code 12 = .ok (.iconst 0, 1) := by decide +kernel
theorem d21_55_8 : decode prog_21_method_55_code 8 = .ok (.iconst 1, 1) := by decide +kernel
theorem d21_55_9 : decode prog_21_method_55_code 9 = .ok (.goto 4, 3) := by decide +kernel
theorem d21_55_13 : decode prog_21_method_55_code 13 = .ok (.ireturn, 1) := by decide +kernel
def y21_55 : MethodName := { cls := "java/lang/String", name := "isEmpty", desc := "()Z" }
def c_String_isEmpty (Zd : Nat → Nat) (K : KE) (o : Nat) (st : CS) : Option (Int32) := (gQ K st o 12 0).bind fun x11 => x11.bind fun a12z => (lA K st a12z 2).bind fun n13 => (some (Int32.ofNat n13)).bind fun x14 => (if x14 = (0 : Int32) then (some (1 : Int32)) else (some (0 : Int32))).bind fun e15 => (bz e15).bind fun _ => some e15
set_option maxHeartbeats 4000000 in
set_option maxRecDepth 100000 in
theorem cc_String_isEmpty (l : Launch) (G : Gk) (Zd : Nat → Nat) (K : KE) (o : Nat) (st : CS) (r0 : Int32) (hm : c_String_isEmpty Zd K o st = some r0) : CT l y21_55 prog_21_method_55_code 1 (some .boolean) G Zd K (0) [.ref o] st (hI G Zd r0 st) := by
  refine goH (d := 0) (y := y21_55) (cc := prog_21_method_55_code) (maxL := 1) (ret := (some .boolean)) (av := [.ref o]) (Qc := hI G Zd r0 st) "java/lang/String" rfl (by decide) (c1_c rfl c1_n) (Nat.le_of_ble_eq_true rfl) ?_
  intro p e s m below meth c ls A args Q hQ hx hb hr hlk hml hown hts hin hl hE hw
  have hl : lw ls 1 [(0, .ref o)] := hl
  have hZ := hE.2.2.1
  have h := hm
  clear hm
  refine lv_aload_n hx hb d21_55_0 rfl (lv_at hl.1 0 rfl) ?_
  obtain ⟨x11, hr, h⟩ := ob h
  refine xg_q (ci := 12) (C := r_12) (T := f_12) (N := 4) (ref := "java/lang/String") hx hb hts (fun w h => List.mem_cons_of_mem _ (ly_12 w h)) hown hE hw rfl 0 (by decide) (hts _ (List.mem_cons_of_mem _ k527)) (fun _ h9 => h9) hr d21_55_1 ?_
  clear hr
  obtain ⟨a12z, hn12, h⟩ := ob h
  have hn12 : x11 = some a12z := hn12
  refine W.eq (g2 := F0 m 4 ls [.ref a12z]) (by rw [hn12]; rfl) ?_
  obtain ⟨n13, hr, h⟩ := ob h
  obtain ⟨x14, hr2, h⟩ := ob h
  refine xl hx hb hE hw (t := 2) rfl hr hr2 d21_55_4 ?_
  clear hr hr2
  obtain ⟨e15, hX, h⟩ := ob h
  have hj : ∀ (H : Heap) (locs : List Loc) (cells slots : Nat) (ls : Array Slot), lw ls 1 [(0, .ref o)] → wsH G Zd A s st H locs → W p l e (rmH Zd (0) st.1) s m args below meth c H locs cells slots Q (F0 m 13 ls [.int e15]) := by
    intro H locs cells slots ls hl hw
    obtain ⟨u9, hr9, h⟩ := ob h
    have hi := bz_some hr9
    clear hr9 u9
    cases h
    exact finH_z hQ hx hb hr hlk (nar01 hi) hE hw d21_55_13
  clear h
  refine lv_if_ne (tgt := 12) hx hb d21_55_5 rfl (fun c17 => ?_) (fun c17 => ?_)
  ·
    replace h := (if_neg c17).symm.trans hX
    refine lv_iconst (v := 0) hx hb d21_55_12 (by decide) ?_
    have e9 := Option.some.inj h
    subst e15
    have hl := lw_sub hl (l' := [(0, .ref o)]) [0] rfl
    exact hj _ _ _ _ _ hl hw
  ·
    replace h := (if_pos c17).symm.trans hX
    refine lv_iconst (v := 1) hx hb d21_55_8 (by decide) ?_
    refine lv_goto (tgt := 13) hx hb d21_55_9 rfl ?_
    have e9 := Option.some.inj h
    subst e15
    have hl := lw_sub hl (l' := [(0, .ref o)]) [0] rfl
    exact hj _ _ _ _ _ hl hw
theorem d21_56_0 : decode prog_21_method_56_code 0 = .ok (.aload_n 0, 1) := by decide +kernel
theorem d21_56_1 : decode prog_21_method_56_code 1 = .ok (.invokevirtual 492, 3) := by decide +kernel
theorem d21_154_0 : decode prog_21_method_154_code 0 = .ok (.getstatic 38, 3) := by decide +kernel
theorem d21_154_3 : decode prog_21_method_154_code 3 = .ok (.ifCond .eq 14, 3) := by decide +kernel
theorem d21_154_6 : decode prog_21_method_154_code 6 = .ok (.aload_n 0, 1) := by decide +kernel
theorem d21_154_7 : decode prog_21_method_154_code 7 = .ok (.getfield 15, 3) := by decide +kernel
theorem d21_154_10 : decode prog_21_method_154_code 10 = .ok (.ifCond .ne 7, 3) := by decide +kernel
theorem d21_154_17 : decode prog_21_method_154_code 17 = .ok (.iconst 0, 1) := by decide +kernel
theorem d21_154_13 : decode prog_21_method_154_code 13 = .ok (.iconst 1, 1) := by decide +kernel
theorem d21_154_14 : decode prog_21_method_154_code 14 = .ok (.goto 4, 3) := by decide +kernel
theorem d21_154_18 : decode prog_21_method_154_code 18 = .ok (.ireturn, 1) := by decide +kernel
def y21_154 : MethodName := { cls := "java/lang/String", name := "isLatin1", desc := "()Z" }
theorem k640 : (Jvm.Cond.code ({ cls := "java/lang/String", name := "isLatin1", desc := "()Z" } : Jvm.MethodName) prog_21_method_154_code (1 : Nat) (Option.some Jvm.ClassFile.FieldType.boolean)) ∈ TB := tk_3 160 rfl rfl
theorem k637 : (Jvm.Cond.methodLink "java/lang/String" (492 : Nat) ({ cls := "java/lang/String", name := "isLatin1", desc := "()Z" } : Jvm.MethodName)) ∈ TB := tk_3 157 rfl rfl
theorem k638 : (Jvm.Cond.instanceMethod ({ cls := "java/lang/String", name := "isLatin1", desc := "()Z" } : Jvm.MethodName)) ∈ TB := tk_3 158 rfl rfl
theorem k639 : (Jvm.Cond.selects "java/lang/String" ({ cls := "java/lang/String", name := "isLatin1", desc := "()Z" } : Jvm.MethodName) ({ cls := "java/lang/String", name := "isLatin1", desc := "()Z" } : Jvm.MethodName)) ∈ TB := tk_3 159 rfl rfl
theorem d21_56_4 : decode prog_21_method_56_code 4 = .ok (.ifCond .eq 12, 3) := by decide +kernel
theorem d21_56_16 : decode prog_21_method_56_code 16 = .ok (.aload_n 0, 1) := by decide +kernel
theorem d21_56_17 : decode prog_21_method_56_code 17 = .ok (.getfield 9, 3) := by decide +kernel
theorem d21_56_20 : decode prog_21_method_56_code 20 = .ok (.iload_n 1, 1) := by decide +kernel
theorem d21_56_7 : decode prog_21_method_56_code 7 = .ok (.aload_n 0, 1) := by decide +kernel
theorem d21_56_8 : decode prog_21_method_56_code 8 = .ok (.getfield 9, 3) := by decide +kernel
theorem d21_56_11 : decode prog_21_method_56_code 11 = .ok (.iload_n 1, 1) := by decide +kernel
theorem d21_56_12 : decode prog_21_method_56_code 12 = .ok (.invokestatic 495, 3) := by decide +kernel
theorem d23_2_0 : decode prog_23_method_2_code 0 = .ok (.iload_n 1, 1) := by decide +kernel
theorem d23_2_1 : decode prog_23_method_2_code 1 = .ok (.aload_n 0, 1) := by decide +kernel
theorem d23_2_2 : decode prog_23_method_2_code 2 = .ok (.arraylength, 1) := by decide +kernel
theorem d23_2_3 : decode prog_23_method_2_code 3 = .ok (.invokestatic 9, 3) := by decide +kernel
theorem d21_155_0 : decode prog_21_method_155_code 0 = .ok (.iload_n 0, 1) := by decide +kernel
theorem d21_155_1 : decode prog_21_method_155_code 1 = .ok (.iload_n 1, 1) := by decide +kernel
theorem d21_155_2 : decode prog_21_method_155_code 2 = .ok (.getstatic 1053, 3) := by decide +kernel
theorem k509 : (Jvm.Cond.fieldLink "java/lang/String" (1053 : Nat) "jdk/internal/util/Preconditions" "SIOOBE_FORMATTER" "Ljava/util/function/BiFunction;") ∈ TB := tk_3 29 rfl rfl
theorem d21_155_5 : decode prog_21_method_155_code 5 = .ok (.invokestatic 1059, 3) := by decide +kernel
theorem d28_11_0 : decode prog_28_method_11_code 0 = .ok (.iload_n 0, 1) := by decide +kernel
theorem d28_11_1 : decode prog_28_method_11_code 1 = .ok (.ifCond .lt 8, 3) := by decide +kernel
theorem d28_11_9 : decode prog_28_method_11_code 9 = .ok (.aload_n 2, 1) := by decide +kernel
theorem d28_11_10 : decode prog_28_method_11_code 10 = .ok (.iload_n 0, 1) := by decide +kernel
theorem d28_11_11 : decode prog_28_method_11_code 11 = .ok (.iload_n 1, 1) := by decide +kernel
theorem d28_11_4 : decode prog_28_method_11_code 4 = .ok (.iload_n 0, 1) := by decide +kernel
theorem d28_11_5 : decode prog_28_method_11_code 5 = .ok (.iload_n 1, 1) := by decide +kernel
theorem d28_11_6 : decode prog_28_method_11_code 6 = .ok (.if_icmp .lt 10, 3) := by decide +kernel
theorem d28_11_16 : decode prog_28_method_11_code 16 = .ok (.iload_n 0, 1) := by decide +kernel
theorem d28_11_17 : decode prog_28_method_11_code 17 = .ok (.ireturn, 1) := by decide +kernel
def y28_11 : MethodName := { cls := "jdk/internal/util/Preconditions", name := "checkIndex", desc := "(IILjava/util/function/BiFunction;)I" }
theorem k576 : (Jvm.Cond.code ({ cls := "jdk/internal/util/Preconditions", name := "checkIndex", desc := "(IILjava/util/function/BiFunction;)I" } : Jvm.MethodName) prog_28_method_11_code (3 : Nat) (Option.some Jvm.ClassFile.FieldType.int)) ∈ TB := tk_3 96 rfl rfl
theorem k24 : (Jvm.Cond.initialized "jdk/internal/util/Preconditions") ∈ TB := tk_1 24 rfl rfl
theorem k574 : (Jvm.Cond.methodLink "java/lang/String" (1059 : Nat) ({ cls := "jdk/internal/util/Preconditions", name := "checkIndex", desc := "(IILjava/util/function/BiFunction;)I" } : Jvm.MethodName)) ∈ TB := tk_3 94 rfl rfl
theorem k575 : (Jvm.Cond.static ({ cls := "jdk/internal/util/Preconditions", name := "checkIndex", desc := "(IILjava/util/function/BiFunction;)I" } : Jvm.MethodName)) ∈ TB := tk_3 95 rfl rfl
theorem d21_155_8 : decode prog_21_method_155_code 8 = .ok (.pop, 1) := by decide +kernel
theorem d21_155_9 : decode prog_21_method_155_code 9 = .ok (.return_, 1) := by decide +kernel
def y21_155 : MethodName := { cls := "java/lang/String", name := "checkIndex", desc := "(II)V" }
theorem k573 : (Jvm.Cond.code ({ cls := "java/lang/String", name := "checkIndex", desc := "(II)V" } : Jvm.MethodName) prog_21_method_155_code (2 : Nat) (Option.none : Option Jvm.ClassFile.FieldType)) ∈ TB := tk_3 93 rfl rfl
theorem k644 : (Jvm.Cond.methodLink "java/lang/StringLatin1" (9 : Nat) ({ cls := "java/lang/String", name := "checkIndex", desc := "(II)V" } : Jvm.MethodName)) ∈ TB := tk_3 164 rfl rfl
theorem k572 : (Jvm.Cond.static ({ cls := "java/lang/String", name := "checkIndex", desc := "(II)V" } : Jvm.MethodName)) ∈ TB := tk_3 92 rfl rfl
theorem d23_2_6 : decode prog_23_method_2_code 6 = .ok (.aload_n 0, 1) := by decide +kernel
theorem d23_2_7 : decode prog_23_method_2_code 7 = .ok (.iload_n 1, 1) := by decide +kernel
theorem d23_2_8 : decode prog_23_method_2_code 8 = .ok (.baload, 1) := by decide +kernel
theorem d23_2_9 : decode prog_23_method_2_code 9 = .ok (.sipush 255, 3) := by decide +kernel
theorem d23_2_12 : decode prog_23_method_2_code 12 = .ok (.iand, 1) := by decide +kernel
theorem d23_2_13 : decode prog_23_method_2_code 13 = .ok (.i2c, 1) := by decide +kernel
theorem d23_2_14 : decode prog_23_method_2_code 14 = .ok (.ireturn, 1) := by decide +kernel
def y23_2 : MethodName := { cls := "java/lang/StringLatin1", name := "charAt", desc := "([BI)C" }
theorem k643 : (Jvm.Cond.code ({ cls := "java/lang/StringLatin1", name := "charAt", desc := "([BI)C" } : Jvm.MethodName) prog_23_method_2_code (2 : Nat) (Option.some Jvm.ClassFile.FieldType.char)) ∈ TB := tk_3 163 rfl rfl
theorem k23 : (Jvm.Cond.initialized "java/lang/StringLatin1") ∈ TB := tk_1 23 rfl rfl
theorem k641 : (Jvm.Cond.methodLink "java/lang/String" (495 : Nat) ({ cls := "java/lang/StringLatin1", name := "charAt", desc := "([BI)C" } : Jvm.MethodName)) ∈ TB := tk_3 161 rfl rfl
theorem k642 : (Jvm.Cond.static ({ cls := "java/lang/StringLatin1", name := "charAt", desc := "([BI)C" } : Jvm.MethodName)) ∈ TB := tk_3 162 rfl rfl
theorem d21_56_15 : decode prog_21_method_56_code 15 = .ok (.ireturn, 1) := by decide +kernel
def y21_56 : MethodName := { cls := "java/lang/String", name := "charAt", desc := "(I)C" }
def c_String_isLatin1 (Zd : Nat → Nat) (K : KE) (o : Nat) (st : CS) : Option (Int32) := (gI K st o 12 1).bind fun x11 => (if x11 = (0 : Int32) then (some (1 : Int32)) else (some (0 : Int32))).bind fun e12 => (bz e12).bind fun _ => some e12
set_option maxHeartbeats 4000000 in
set_option maxRecDepth 100000 in
theorem cc_String_isLatin1 (l : Launch) (G : Gk) (Zd : Nat → Nat) (K : KE) (o : Nat) (st : CS) (r0 : Int32) (hm : c_String_isLatin1 Zd K o st = some r0) : CT l y21_154 prog_21_method_154_code 1 (some .boolean) G Zd K (0) [.ref o] st (hI G Zd r0 st) := by
  refine goH (d := 0) (y := y21_154) (cc := prog_21_method_154_code) (maxL := 1) (ret := (some .boolean)) (av := [.ref o]) (Qc := hI G Zd r0 st) "java/lang/String" rfl (by decide) (c1_c rfl c1_n) (Nat.le_of_ble_eq_true rfl) ?_
  intro p e s m below meth c ls A args Q hQ hx hb hr hlk hml hown hts hin hl hE hw
  have hl : lw ls 1 [(0, .ref o)] := hl
  have hZ := hE.2.2.1
  have h := hm
  clear hm
  refine va_gets (ref := "java/lang/String") hx hb hZ.1.2.1 hw.2.2.2 hown (hts _ (List.mem_cons_of_mem _ k493)) (fun _ h9 => h9) d21_154_0 ?_
  refine W.eq (g2 := F0 m 3 ls [.int 1]) rfl ?_
  refine lv_if_eq (tgt := 17) hx hb d21_154_3 rfl (fun hc => absurd hc (by decide)) (fun _ => ?_)
  refine lv_aload_n hx hb d21_154_6 rfl (lv_at hl.1 0 rfl) ?_
  obtain ⟨x11, hr, h⟩ := ob h
  refine xg_i (ci := 12) (C := r_12) (T := f_12) (N := 4) (ref := "java/lang/String") hx hb hts (fun w h => List.mem_cons_of_mem _ (ly_12 w h)) hown hE hw rfl 1 (by decide) (hts _ (List.mem_cons_of_mem _ k528)) (fun _ h9 => h9) hr d21_154_7 ?_
  clear hr
  obtain ⟨e12, hX, h⟩ := ob h
  have hj : ∀ (H : Heap) (locs : List Loc) (cells slots : Nat) (ls : Array Slot), lw ls 1 [(0, .ref o)] → wsH G Zd A s st H locs → W p l e (rmH Zd (0) st.1) s m args below meth c H locs cells slots Q (F0 m 18 ls [.int e12]) := by
    intro H locs cells slots ls hl hw
    obtain ⟨u9, hr9, h⟩ := ob h
    have hi := bz_some hr9
    clear hr9 u9
    cases h
    exact finH_z hQ hx hb hr hlk (nar01 hi) hE hw d21_154_18
  clear h
  refine lv_if_ne (tgt := 17) hx hb d21_154_10 rfl (fun c14 => ?_) (fun c14 => ?_)
  ·
    replace h := (if_neg c14).symm.trans hX
    refine lv_iconst (v := 0) hx hb d21_154_17 (by decide) ?_
    have e9 := Option.some.inj h
    subst e12
    have hl := lw_sub hl (l' := [(0, .ref o)]) [0] rfl
    exact hj _ _ _ _ _ hl hw
  ·
    replace h := (if_pos c14).symm.trans hX
    refine lv_iconst (v := 1) hx hb d21_154_13 (by decide) ?_
    refine lv_goto (tgt := 18) hx hb d21_154_14 rfl ?_
    have e9 := Option.some.inj h
    subst e12
    have hl := lw_sub hl (l' := [(0, .ref o)]) [0] rfl
    exact hj _ _ _ _ _ hl hw
def c_Preconditions_checkIndex (Zd : Nat → Nat) (K : KE) (a0 : Int32) (a1 : Int32) (a2 : Option Nat) (st : CS) : Option (Int32) := if a0 < (0 : Int32) then none else (if a0 < a1 then (some a0) else none)
set_option maxHeartbeats 4000000 in
set_option maxRecDepth 100000 in
theorem cc_Preconditions_checkIndex (l : Launch) (G : Gk) (Zd : Nat → Nat) (K : KE) (a0 : Int32) (a1 : Int32) (a2 : Option Nat) (st : CS) (r0 : Int32) (hm : c_Preconditions_checkIndex Zd K a0 a1 a2 st = some r0) : CT l y28_11 prog_28_method_11_code 3 (some .int) G Zd K (0) [.int a0, .int a1, va_rf a2] st (hI G Zd r0 st) := by
  refine goH (d := 0) (y := y28_11) (cc := prog_28_method_11_code) (maxL := 3) (ret := (some .int)) (av := [.int a0, .int a1, va_rf a2]) (Qc := hI G Zd r0 st) "jdk/internal/util/Preconditions" rfl (by decide) (c1_c rfl (c1_c rfl (c1_c (rf_cat _) c1_n))) (Nat.le_of_ble_eq_true rfl) ?_
  intro p e s m below meth c ls A args Q hQ hx hb hr hlk hml hown hts hin hl hE hw
  have hl : lw ls 3 [(0, .int a0), (1, .int a1), (2, va_rf a2)] := hl
  have hZ := hE.2.2.1
  have h := hm
  clear hm
  refine lv_iload_n hx hb d28_11_0 rfl (lv_at hl.1 0 rfl) ?_
  refine lv_if_lt (tgt := 9) hx hb d28_11_1 rfl (fun c11 => ?_) (fun c11 => ?_)
  ·
    replace h := (if_pos c11).symm.trans h
    refine xq_aload_n (r := a2) hx hb d28_11_9 rfl (lv_at hl.1 2 rfl) ?_
    refine lv_iload_n hx hb d28_11_10 rfl (lv_at hl.1 0 rfl) ?_
    refine lv_iload_n hx hb d28_11_11 rfl (lv_at hl.1 1 rfl) ?_
    cases h
  ·
    replace h := (if_neg c11).symm.trans h
    refine lv_iload_n hx hb d28_11_4 rfl (lv_at hl.1 0 rfl) ?_
    refine lv_iload_n hx hb d28_11_5 rfl (lv_at hl.1 1 rfl) ?_
    refine lv_icmp_lt (tgt := 16) hx hb d28_11_6 rfl (fun c12 => ?_) (fun c12 => ?_)
    ·
      replace h := (if_pos c12).symm.trans h
      refine lv_iload_n hx hb d28_11_16 rfl (lv_at hl.1 0 rfl) ?_
      cases h
      exact finH_i hQ hx hb hr hlk hE hw d28_11_17
    ·
      replace h := (if_neg c12).symm.trans h
      refine xq_aload_n (r := a2) hx hb d28_11_9 rfl (lv_at hl.1 2 rfl) ?_
      refine lv_iload_n hx hb d28_11_10 rfl (lv_at hl.1 0 rfl) ?_
      refine lv_iload_n hx hb d28_11_11 rfl (lv_at hl.1 1 rfl) ?_
      cases h
def c_String_checkIndex (Zd : Nat → Nat) (K : KE) (a0 : Int32) (a1 : Int32) (st : CS) : Option (Unit) := (c_Preconditions_checkIndex Zd K a0 a1 (fz Zd) st).bind fun x11 => some ()
set_option maxHeartbeats 4000000 in
set_option maxRecDepth 100000 in
theorem cc_String_checkIndex (l : Launch) (G : Gk) (Zd : Nat → Nat) (K : KE) (a0 : Int32) (a1 : Int32) (st : CS) (hm : c_String_checkIndex Zd K a0 a1 st = some ()) : CT l y21_155 prog_21_method_155_code 2 none G Zd K (1) [.int a0, .int a1] st (hV G Zd st) := by
  refine goH (d := 1) (y := y21_155) (cc := prog_21_method_155_code) (maxL := 2) (ret := none) (av := [.int a0, .int a1]) (Qc := hV G Zd st) "java/lang/String" rfl (by decide) (c1_c rfl (c1_c rfl c1_n)) (Nat.le_of_ble_eq_true rfl) ?_
  intro p e s m below meth c ls A args Q hQ hx hb hr hlk hml hown hts hin hl hE hw
  have hl : lw ls 2 [(0, .int a0), (1, .int a1)] := hl
  have hZ := hE.2.2.1
  have h := hm
  clear hm
  refine lv_iload_n hx hb d21_155_0 rfl (lv_at hl.1 0 rfl) ?_
  refine lv_iload_n hx hb d21_155_1 rfl (lv_at hl.1 1 rfl) ?_
  refine va_gets (ref := "jdk/internal/util/Preconditions") hx hb hZ.2.1.2.2.2.2 hw.2.2.2 hown (hts _ (List.mem_cons_of_mem _ k509)) (fun _ h9 => h9) d21_155_2 ?_
  refine W.eq (g2 := F0 m 5 ls [va_rf (fz Zd), .int a1, .int a0]) rfl ?_
  obtain ⟨x11, hc, h⟩ := ob h
  refine hS_i (As := [.int a0, .int a1, va_rf (fz Zd)]) (rest := []) ⟨hx, hb, hml, hown, hts⟩ (cc_Preconditions_checkIndex l G Zd K a0 a1 (fz Zd) st x11 hc) (kw_S (n := 3) hts k576 k574 k24 k575 (by decide +kernel) ⟨Nat.le_of_ble_eq_true rfl, Nat.le_of_ble_eq_true rfl⟩) hE hw rfl hl.1.1 rfl (c1_8 c1_n (Nat.le_of_ble_eq_true rfl)) d21_155_5 (fun H locs cells slots hw => ?_)
  clear hc
  refine W.eq (g2 := F0 m 8 ls [.int x11]) rfl ?_
  refine lv_pop hx hb d21_155_8 rfl ?_
  cases h
  exact finH_v hQ hx hb hr hlk hE hw d21_155_9
def c_StringLatin1_charAt (Zd : Nat → Nat) (K : KE) (a0 : Option Nat) (a1 : Int32) (st : CS) : Option (Int32) := a0.bind fun a11z => (lA K st a11z 2).bind fun n12 => (some (Int32.ofNat n12)).bind fun x13 => (c_String_checkIndex Zd K a1 x13 st).bind fun _ => (rA K st a11z 2 a1).bind fun x17 => (some (x17 &&& (255 : Int32))).bind fun y18 => (some ((y18.toUInt32 % 65536).toInt32)).bind fun y19 => (nrC y19).bind fun _ => some y19
set_option maxHeartbeats 4000000 in
set_option maxRecDepth 100000 in
theorem cc_StringLatin1_charAt (l : Launch) (G : Gk) (Zd : Nat → Nat) (K : KE) (a0 : Option Nat) (a1 : Int32) (st : CS) (r0 : Int32) (hm : c_StringLatin1_charAt Zd K a0 a1 st = some r0) : CT l y23_2 prog_23_method_2_code 2 (some .char) G Zd K (2) [va_rf a0, .int a1] st (hI G Zd r0 st) := by
  refine goH (d := 2) (y := y23_2) (cc := prog_23_method_2_code) (maxL := 2) (ret := (some .char)) (av := [va_rf a0, .int a1]) (Qc := hI G Zd r0 st) "java/lang/StringLatin1" rfl (by decide) (c1_c (rf_cat _) (c1_c rfl c1_n)) (Nat.le_of_ble_eq_true rfl) ?_
  intro p e s m below meth c ls A args Q hQ hx hb hr hlk hml hown hts hin hl hE hw
  have hl : lw ls 2 [(0, va_rf a0), (1, .int a1)] := hl
  have hZ := hE.2.2.1
  have h := hm
  clear hm
  refine lv_iload_n hx hb d23_2_0 rfl (lv_at hl.1 1 rfl) ?_
  refine xq_aload_n (r := a0) hx hb d23_2_1 rfl (lv_at hl.1 0 rfl) ?_
  obtain ⟨a11z, hn11, h⟩ := ob h
  have hn11 : a0 = some a11z := hn11
  refine W.eq (g2 := F0 m 2 ls [.ref a11z, .int a1]) (by rw [hn11]; rfl) ?_
  obtain ⟨n12, hr, h⟩ := ob h
  obtain ⟨x13, hr2, h⟩ := ob h
  refine xl hx hb hE hw (t := 2) rfl hr hr2 d23_2_2 ?_
  clear hr hr2
  obtain ⟨⟨⟩, hc, h⟩ := ob h
  refine hS_v (As := [.int a1, .int x13]) (rest := []) ⟨hx, hb, hml, hown, hts⟩ (cc_String_checkIndex l G Zd K a1 x13 st  hc) (kw_S (n := 2) hts k573 k644 k5 k572 (by decide +kernel) ⟨Nat.le_of_ble_eq_true rfl, Nat.le_of_ble_eq_true rfl⟩) hE hw rfl hl.1.1 rfl (c1_8 c1_n (Nat.le_of_ble_eq_true rfl)) d23_2_3 (fun H locs cells slots hw => ?_)
  clear hc
  refine W.eq (g2 := F0 m 6 ls []) rfl ?_
  refine xq_aload_n (r := a0) hx hb d23_2_6 rfl (lv_at hl.1 0 rfl) ?_
  refine lv_iload_n hx hb d23_2_7 rfl (lv_at hl.1 1 rfl) ?_
  refine W.eq (g2 := F0 m 8 ls [.int a1, .ref a11z]) (by rw [hn11]; rfl) ?_
  obtain ⟨x17, hr, h⟩ := ob h
  refine xa_b hx hb hE hw (i := a1) hr d23_2_8 ?_
  clear hr
  refine lv_sipush (v := 255) hx hb d23_2_9 (by decide) ?_
  refine lv_iand hx hb d23_2_12 ?_
  obtain ⟨y18, hr, h⟩ := ob h
  refine lv_topi (fun y9 ey => ?_)
  have e9 := ey.trans (Option.some.inj hr)
  clear ey
  subst y9
  clear hr
  refine lv_i2c hx hb d23_2_13 rfl ?_
  obtain ⟨y19, hr, h⟩ := ob h
  refine lv_topi (fun y9 ey => ?_)
  have e9 := ey.trans (Option.some.inj hr)
  clear ey
  subst y9
  clear hr
  obtain ⟨u9, hr9, h⟩ := ob h
  have hi := nrC_some hr9
  clear hr9 u9
  cases h
  exact finH_z hQ hx hb hr hlk hi.1 hE hw d23_2_14
def c_String_charAt (Zd : Nat → Nat) (K : KE) (o : Nat) (a0 : Int32) (st : CS) : Option (Int32) := (isO K st o 12).bind fun _ => (c_String_isLatin1 Zd K o st).bind fun x11 => if x11 = (0 : Int32) then ((gQ K st o 12 0).bind fun x15 => none) else ((gQ K st o 12 0).bind fun x16 => (c_StringLatin1_charAt Zd K x16 a0 st).bind fun x17 => (nrC x17).bind fun _ => some x17)
set_option maxHeartbeats 4000000 in
set_option maxRecDepth 100000 in
theorem cc_String_charAt (l : Launch) (G : Gk) (Zd : Nat → Nat) (K : KE) (o : Nat) (a0 : Int32) (st : CS) (r0 : Int32) (hm : c_String_charAt Zd K o a0 st = some r0) : CT l y21_56 prog_21_method_56_code 2 (some .char) G Zd K (3) [.ref o, .int a0] st (hI G Zd r0 st) := by
  refine goH (d := 3) (y := y21_56) (cc := prog_21_method_56_code) (maxL := 2) (ret := (some .char)) (av := [.ref o, .int a0]) (Qc := hI G Zd r0 st) "java/lang/String" rfl (by decide) (c1_c rfl (c1_c rfl c1_n)) (Nat.le_of_ble_eq_true rfl) ?_
  intro p e s m below meth c ls A args Q hQ hx hb hr hlk hml hown hts hin hl hE hw
  have hl : lw ls 2 [(0, .ref o), (1, .int a0)] := hl
  have hZ := hE.2.2.1
  have h := hm
  clear hm
  refine lv_aload_n hx hb d21_56_0 rfl (lv_at hl.1 0 rfl) ?_
  obtain ⟨u9, ho, h⟩ := ob h
  obtain ⟨x11, hc, h⟩ := ob h
  refine hV_i (ci := 12) (As := []) (rest := []) ⟨hx, hb, hml, hown, hts⟩ (cc_String_isLatin1 l G Zd K o st x11 hc) (kw_V (n := 0) hts k640 k637 k5 k638 k639 (by decide +kernel) ⟨Nat.le_of_ble_eq_true rfl, Nat.le_of_ble_eq_true rfl⟩) hE hw rfl rfl ho rfl hl.1.1 rfl (c1_8 c1_n (Nat.le_of_ble_eq_true rfl)) d21_56_1 (fun H locs cells slots hw => ?_)
  clear hc ho u9
  refine W.eq (g2 := F0 m 4 ls [.int x11]) rfl ?_
  refine lv_if_eq (tgt := 16) hx hb d21_56_4 rfl (fun c14 => ?_) (fun c14 => ?_)
  ·
    replace h := (if_pos c14).symm.trans h
    refine lv_aload_n hx hb d21_56_16 rfl (lv_at hl.1 0 rfl) ?_
    obtain ⟨x15, hr, h⟩ := ob h
    refine xg_q (ci := 12) (C := r_12) (T := f_12) (N := 4) (ref := "java/lang/String") hx hb hts (fun w h => List.mem_cons_of_mem _ (ly_12 w h)) hown hE hw rfl 0 (by decide) (hts _ (List.mem_cons_of_mem _ k527)) (fun _ h9 => h9) hr d21_56_17 ?_
    clear hr
    refine lv_iload_n hx hb d21_56_20 rfl (lv_at hl.1 1 rfl) ?_
    cases h
  ·
    replace h := (if_neg c14).symm.trans h
    refine lv_aload_n hx hb d21_56_7 rfl (lv_at hl.1 0 rfl) ?_
    obtain ⟨x16, hr, h⟩ := ob h
    refine xg_q (ci := 12) (C := r_12) (T := f_12) (N := 4) (ref := "java/lang/String") hx hb hts (fun w h => List.mem_cons_of_mem _ (ly_12 w h)) hown hE hw rfl 0 (by decide) (hts _ (List.mem_cons_of_mem _ k527)) (fun _ h9 => h9) hr d21_56_8 ?_
    clear hr
    refine lv_iload_n hx hb d21_56_11 rfl (lv_at hl.1 1 rfl) ?_
    obtain ⟨x17, hc, h⟩ := ob h
    refine hS_i (As := [va_rf x16, .int a0]) (rest := []) ⟨hx, hb, hml, hown, hts⟩ (cc_StringLatin1_charAt l G Zd K x16 a0 st x17 hc) (kw_S (n := 2) hts k643 k641 k23 k642 (by decide +kernel) ⟨Nat.le_of_ble_eq_true rfl, Nat.le_of_ble_eq_true rfl⟩) hE hw rfl hl.1.1 rfl (c1_8 c1_n (Nat.le_of_ble_eq_true rfl)) d21_56_12 (fun H locs cells slots hw => ?_)
    clear hc
    refine W.eq (g2 := F0 m 15 ls [.int x17]) rfl ?_
    obtain ⟨u9, hr9, h⟩ := ob h
    have hi := nrC_some hr9
    clear hr9 u9
    cases h
    exact finH_z hQ hx hb hr hlk hi.1 hE hw d21_56_15
theorem d21_66_0 : decode prog_21_method_66_code 0 = .ok (.aload_n 0, 1) := by decide +kernel
theorem d21_66_1 : decode prog_21_method_66_code 1 = .ok (.aload_n 1, 1) := by decide +kernel
theorem d21_66_2 : decode prog_21_method_66_code 2 = .ok (.if_acmp .ne 5, 3) := by decide +kernel
theorem d21_66_7 : decode prog_21_method_66_code 7 = .ok (.aload_n 1, 1) := by decide +kernel
theorem d21_66_8 : decode prog_21_method_66_code 8 = .ok (.instanceof 10, 3) := by decide +kernel
theorem k591 : (Jvm.Cond.classLink "java/lang/String" (10 : Nat) "java/lang/String") ∈ TB := tk_3 111 rfl rfl
theorem d21_66_11 : decode prog_21_method_66_code 11 = .ok (.ifCond .eq 43, 3) := by decide +kernel
theorem d21_66_14 : decode prog_21_method_66_code 14 = .ok (.aload_n 1, 1) := by decide +kernel
theorem d21_66_15 : decode prog_21_method_66_code 15 = .ok (.checkcast 10, 3) := by decide +kernel
theorem d21_66_18 : decode prog_21_method_66_code 18 = .ok (.astore_n 2, 1) := by decide +kernel
theorem d21_66_19 : decode prog_21_method_66_code 19 = .ok (.getstatic 38, 3) := by decide +kernel
theorem d21_66_22 : decode prog_21_method_66_code 22 = .ok (.ifCond .eq 14, 3) := by decide +kernel
theorem d21_66_25 : decode prog_21_method_66_code 25 = .ok (.aload_n 0, 1) := by decide +kernel
theorem d21_66_26 : decode prog_21_method_66_code 26 = .ok (.getfield 15, 3) := by decide +kernel
theorem d21_66_29 : decode prog_21_method_66_code 29 = .ok (.aload_n 2, 1) := by decide +kernel
theorem d21_66_30 : decode prog_21_method_66_code 30 = .ok (.getfield 15, 3) := by decide +kernel
theorem d21_66_33 : decode prog_21_method_66_code 33 = .ok (.if_icmp .ne 21, 3) := by decide +kernel
theorem d21_66_54 : decode prog_21_method_66_code 54 = .ok (.iconst 0, 1) := by decide +kernel
theorem d21_66_36 : decode prog_21_method_66_code 36 = .ok (.aload_n 0, 1) := by decide +kernel
theorem d21_66_37 : decode prog_21_method_66_code 37 = .ok (.getfield 9, 3) := by decide +kernel
theorem d21_66_40 : decode prog_21_method_66_code 40 = .ok (.aload_n 2, 1) := by decide +kernel
theorem d21_66_41 : decode prog_21_method_66_code 41 = .ok (.getfield 9, 3) := by decide +kernel
theorem d21_66_44 : decode prog_21_method_66_code 44 = .ok (.invokestatic 541, 3) := by decide +kernel
theorem d23_13_0 : decode prog_23_method_13_code 0 = .ok (.aload_n 0, 1) := by decide +kernel
theorem d23_13_1 : decode prog_23_method_13_code 1 = .ok (.arraylength, 1) := by decide +kernel
theorem d23_13_2 : decode prog_23_method_13_code 2 = .ok (.aload_n 1, 1) := by decide +kernel
theorem d23_13_3 : decode prog_23_method_13_code 3 = .ok (.arraylength, 1) := by decide +kernel
theorem d23_13_4 : decode prog_23_method_13_code 4 = .ok (.if_icmp .ne 30, 3) := by decide +kernel
theorem d23_13_34 : decode prog_23_method_13_code 34 = .ok (.iconst 0, 1) := by decide +kernel
theorem d23_13_35 : decode prog_23_method_13_code 35 = .ok (.ireturn, 1) := by decide +kernel
theorem d23_13_7 : decode prog_23_method_13_code 7 = .ok (.iconst 0, 1) := by decide +kernel
theorem d23_13_8 : decode prog_23_method_13_code 8 = .ok (.istore_n 2, 1) := by decide +kernel
theorem d23_13_32 : decode prog_23_method_13_code 32 = .ok (.iconst 1, 1) := by decide +kernel
theorem d23_13_33 : decode prog_23_method_13_code 33 = .ok (.ireturn, 1) := by decide +kernel
theorem d23_13_9 : decode prog_23_method_13_code 9 = .ok (.iload_n 2, 1) := by decide +kernel
theorem d23_13_10 : decode prog_23_method_13_code 10 = .ok (.aload_n 0, 1) := by decide +kernel
theorem d23_13_11 : decode prog_23_method_13_code 11 = .ok (.arraylength, 1) := by decide +kernel
theorem d23_13_12 : decode prog_23_method_13_code 12 = .ok (.if_icmp .ge 20, 3) := by decide +kernel
theorem d23_13_15 : decode prog_23_method_13_code 15 = .ok (.aload_n 0, 1) := by decide +kernel
theorem d23_13_16 : decode prog_23_method_13_code 16 = .ok (.iload_n 2, 1) := by decide +kernel
theorem d23_13_17 : decode prog_23_method_13_code 17 = .ok (.baload, 1) := by decide +kernel
theorem d23_13_18 : decode prog_23_method_13_code 18 = .ok (.aload_n 1, 1) := by decide +kernel
theorem d23_13_19 : decode prog_23_method_13_code 19 = .ok (.iload_n 2, 1) := by decide +kernel
theorem d23_13_20 : decode prog_23_method_13_code 20 = .ok (.baload, 1) := by decide +kernel
theorem d23_13_21 : decode prog_23_method_13_code 21 = .ok (.if_icmp .eq 5, 3) := by decide +kernel
theorem d23_13_26 : decode prog_23_method_13_code 26 = .ok (.iinc 2 1, 3) := by decide +kernel
theorem d23_13_29 : decode prog_23_method_13_code 29 = .ok (.goto (-20), 3) := by decide +kernel
theorem d23_13_24 : decode prog_23_method_13_code 24 = .ok (.iconst 0, 1) := by decide +kernel
theorem d23_13_25 : decode prog_23_method_13_code 25 = .ok (.ireturn, 1) := by decide +kernel
def y23_13 : MethodName := { cls := "java/lang/StringLatin1", name := "equals", desc := "([B[B)Z" }
theorem k594 : (Jvm.Cond.code ({ cls := "java/lang/StringLatin1", name := "equals", desc := "([B[B)Z" } : Jvm.MethodName) prog_23_method_13_code (3 : Nat) (Option.some Jvm.ClassFile.FieldType.boolean)) ∈ TB := tk_3 114 rfl rfl
theorem k592 : (Jvm.Cond.methodLink "java/lang/String" (541 : Nat) ({ cls := "java/lang/StringLatin1", name := "equals", desc := "([B[B)Z" } : Jvm.MethodName)) ∈ TB := tk_3 112 rfl rfl
theorem k593 : (Jvm.Cond.static ({ cls := "java/lang/StringLatin1", name := "equals", desc := "([B[B)Z" } : Jvm.MethodName)) ∈ TB := tk_3 113 rfl rfl
theorem d21_66_47 : decode prog_21_method_66_code 47 = .ok (.ifCond .eq 7, 3) := by decide +kernel
theorem d21_66_50 : decode prog_21_method_66_code 50 = .ok (.iconst 1, 1) := by decide +kernel
theorem d21_66_51 : decode prog_21_method_66_code 51 = .ok (.goto 4, 3) := by decide +kernel
theorem d21_66_55 : decode prog_21_method_66_code 55 = .ok (.ireturn, 1) := by decide +kernel
theorem d21_66_5 : decode prog_21_method_66_code 5 = .ok (.iconst 1, 1) := by decide +kernel
theorem d21_66_6 : decode prog_21_method_66_code 6 = .ok (.ireturn, 1) := by decide +kernel
def y21_66 : MethodName := { cls := "java/lang/String", name := "equals", desc := "(Ljava/lang/Object;)Z" }
def c_StringLatin1_equals_l1 (K : KE) (st : CS) (a11z : Nat) (a14z : Nat) : Nat → (Int32) → Option ((Int32) ⊕ (Int32))
  | 0, _ => none
  | n9 + 1, e9 => (lA K st a11z 2).bind fun n21 => (some (Int32.ofNat n21)).bind fun x22 => if x22 ≤ e9 then (some (.inr e9)) else ((rA K st a11z 2 e9).bind fun x24 => (rA K st a14z 2 e9).bind fun x25 => if x24 = x25 then ((some (e9 + 1)).bind fun y27 => c_StringLatin1_equals_l1 K st a11z a14z n9 y27) else (some (.inl (0 : Int32))))
theorem c_StringLatin1_equals_l1_s (K : KE) (st : CS) (a11z : Nat) (a14z : Nat) (n9 : Nat) (e9 : Int32) : c_StringLatin1_equals_l1 K st a11z a14z (n9 + 1) e9 = ((lA K st a11z 2).bind fun n21 => (some (Int32.ofNat n21)).bind fun x22 => if x22 ≤ e9 then (some (.inr e9)) else ((rA K st a11z 2 e9).bind fun x24 => (rA K st a14z 2 e9).bind fun x25 => if x24 = x25 then ((some (e9 + 1)).bind fun y27 => c_StringLatin1_equals_l1 K st a11z a14z n9 y27) else (some (.inl (0 : Int32))))) := rfl
def c_StringLatin1_equals (Zd : Nat → Nat) (K : KE) (a0 : Option Nat) (a1 : Option Nat) (st : CS) : Option (Int32) := a0.bind fun a11z => (lA K st a11z 2).bind fun n12 => (some (Int32.ofNat n12)).bind fun x13 => a1.bind fun a14z => (lA K st a14z 2).bind fun n15 => (some (Int32.ofNat n15)).bind fun x16 => if x13 = x16 then ((c_StringLatin1_equals_l1 K st a11z a14z 4096 (0 : Int32)).bind fun e18 => match e18 with | .inl o9 => some o9 | .inr e8 => some (1 : Int32)) else (some (0 : Int32))
set_option maxHeartbeats 4000000 in
set_option maxRecDepth 100000 in
theorem cc_StringLatin1_equals (l : Launch) (G : Gk) (Zd : Nat → Nat) (K : KE) (a0 : Option Nat) (a1 : Option Nat) (st : CS) (r0 : Int32) (hm : c_StringLatin1_equals Zd K a0 a1 st = some r0) : CT l y23_13 prog_23_method_13_code 3 (some .boolean) G Zd K (0) [va_rf a0, va_rf a1] st (hI G Zd r0 st) := by
  refine goH (d := 0) (y := y23_13) (cc := prog_23_method_13_code) (maxL := 3) (ret := (some .boolean)) (av := [va_rf a0, va_rf a1]) (Qc := hI G Zd r0 st) "java/lang/StringLatin1" rfl (by decide) (c1_c (rf_cat _) (c1_c (rf_cat _) c1_n)) (Nat.le_of_ble_eq_true rfl) ?_
  intro p e s m below meth c ls A args Q hQ hx hb hr hlk hml hown hts hin hl hE hw
  have hl : lw ls 3 [(0, va_rf a0), (1, va_rf a1)] := hl
  have hZ := hE.2.2.1
  have h := hm
  clear hm
  refine xq_aload_n (r := a0) hx hb d23_13_0 rfl (lv_at hl.1 0 rfl) ?_
  obtain ⟨a11z, hn11, h⟩ := ob h
  have hn11 : a0 = some a11z := hn11
  refine W.eq (g2 := F0 m 1 ls [.ref a11z]) (by rw [hn11]; rfl) ?_
  obtain ⟨n12, hr, h⟩ := ob h
  obtain ⟨x13, hr2, h⟩ := ob h
  refine xl hx hb hE hw (t := 2) rfl hr hr2 d23_13_1 ?_
  clear hr hr2
  refine xq_aload_n (r := a1) hx hb d23_13_2 rfl (lv_at hl.1 1 rfl) ?_
  obtain ⟨a14z, hn14, h⟩ := ob h
  have hn14 : a1 = some a14z := hn14
  refine W.eq (g2 := F0 m 3 ls [.ref a14z, .int x13]) (by rw [hn14]; rfl) ?_
  obtain ⟨n15, hr, h⟩ := ob h
  obtain ⟨x16, hr2, h⟩ := ob h
  refine xl hx hb hE hw (t := 2) rfl hr hr2 d23_13_3 ?_
  clear hr hr2
  refine lv_icmp_ne (tgt := 34) hx hb d23_13_4 rfl (fun c17 => ?_) (fun c17 => ?_)
  ·
    replace h := (if_neg c17).symm.trans h
    refine lv_iconst (v := 0) hx hb d23_13_34 (by decide) ?_
    cases h
    exact finH_z hQ hx hb hr hlk (by decide) hE hw d23_13_35
  ·
    replace h := (if_pos c17).symm.trans h
    refine lv_iconst (v := 0) hx hb d23_13_7 (by decide) ?_
    refine xt_istore_n (x := 0) (lv' := [(2, .int 0), (0, va_rf a0), (1, va_rf a1)]) hx hb d23_13_8 rfl hl (by decide) rfl (fun ls hl => ?_)
    obtain ⟨e18, hX, hrest⟩ := ob h
    clear h
    have hj : ∀ (v20 : Int32), e18 = .inr (v20) → ∀ (H : Heap) (locs : List Loc) (cells slots : Nat) (ls : Array Slot), lw ls 3 [(0, va_rf a0), (1, va_rf a1), (2, .int v20)] → wsH G Zd A s st H locs → W p l e (rmH Zd (0) st.1) s m args below meth c H locs cells slots Q (F0 m 32 ls []) := by
      intro v20 he H locs cells slots ls hl hw
      subst e18
      have h := hrest
      clear hrest
      refine lv_iconst (v := 1) hx hb d23_13_32 (by decide) ?_
      cases h
      exact finH_z hQ hx hb hr hlk (by decide) hE hw d23_13_33
    have hloop : ∀ (n9 : Nat) (v19 : Int32), c_StringLatin1_equals_l1 K st a11z a14z n9 (v19) = some e18 → ∀ (H : Heap) (locs : List Loc) (cells slots : Nat) (ls : Array Slot), lw ls 3 [(0, va_rf a0), (1, va_rf a1), (2, .int v19)] → wsH G Zd A s st H locs → W p l e (rmH Zd (0) st.1) s m args below meth c H locs cells slots Q (F0 m 9 ls []) := by
      intro n9
      induction n9 with
      | zero =>
        intro v19 h
        cases h
      | succ n9 ih =>
        intro v19 h H locs cells slots ls hl hw
        replace h := (c_StringLatin1_equals_l1_s K st a11z a14z n9 (v19)).symm.trans h
        refine lv_iload_n hx hb d23_13_9 rfl (lv_at hl.1 2 rfl) ?_
        refine xq_aload_n (r := a0) hx hb d23_13_10 rfl (lv_at hl.1 0 rfl) ?_
        refine W.eq (g2 := F0 m 11 ls [.ref a11z, .int v19]) (by rw [hn11]; rfl) ?_
        obtain ⟨n21, hr, h⟩ := ob h
        obtain ⟨x22, hr2, h⟩ := ob h
        refine xl hx hb hE hw (t := 2) rfl hr hr2 d23_13_11 ?_
        clear hr hr2
        refine lv_icmp_ge (tgt := 32) hx hb d23_13_12 rfl (fun c23 => ?_) (fun c23 => ?_)
        ·
          replace h := (if_pos c23).symm.trans h
          have e9 := Option.some.inj h
          subst e18
          have hl := lw_sub hl (l' := [(0, va_rf a0), (1, va_rf a1), (2, .int v19)]) [0, 1, 2] rfl
          exact hj _ rfl _ _ _ _ _ hl hw
        ·
          replace h := (if_neg c23).symm.trans h
          refine xq_aload_n (r := a0) hx hb d23_13_15 rfl (lv_at hl.1 0 rfl) ?_
          refine lv_iload_n hx hb d23_13_16 rfl (lv_at hl.1 2 rfl) ?_
          refine W.eq (g2 := F0 m 17 ls [.int v19, .ref a11z]) (by rw [hn11]; rfl) ?_
          obtain ⟨x24, hr, h⟩ := ob h
          refine xa_b hx hb hE hw (i := v19) hr d23_13_17 ?_
          clear hr
          refine xq_aload_n (r := a1) hx hb d23_13_18 rfl (lv_at hl.1 1 rfl) ?_
          refine lv_iload_n hx hb d23_13_19 rfl (lv_at hl.1 2 rfl) ?_
          refine W.eq (g2 := F0 m 20 ls [.int v19, .ref a14z, .int x24]) (by rw [hn14]; rfl) ?_
          obtain ⟨x25, hr, h⟩ := ob h
          refine xa_b hx hb hE hw (i := v19) hr d23_13_20 ?_
          clear hr
          refine lv_icmp_eq (tgt := 26) hx hb d23_13_21 rfl (fun c26 => ?_) (fun c26 => ?_)
          ·
            replace h := (if_pos c26).symm.trans h
            obtain ⟨y27, hr, h⟩ := ob h
            refine xt_iinc (k := 2) (v := y27) (lv' := [(2, .int y27), (0, va_rf a0), (1, va_rf a1)]) hx hb d23_13_26 hl rfl hr (by decide) rfl (fun ls hl => ?_)
            clear hr
            refine lv_goto (tgt := 9) hx hb d23_13_29 rfl ?_
            have hl := lw_sub hl (l' := [(0, va_rf a0), (1, va_rf a1), (2, .int y27)]) [1, 2, 0] rfl
            exact ih _ h _ _ _ _ _ hl hw
          ·
            replace h := (if_neg c26).symm.trans h
            refine lv_iconst (v := 0) hx hb d23_13_24 (by decide) ?_
            cases h
            cases hrest
            exact finH_z hQ hx hb hr hlk (by decide) hE hw d23_13_25
    have hl := lw_sub hl (l' := [(0, va_rf a0), (1, va_rf a1), (2, .int 0)]) [1, 2, 0] rfl
    exact hloop _ _ hX _ _ _ _ _ hl hw
def c_String_equals (Zd : Nat → Nat) (K : KE) (o : Nat) (a0 : Option Nat) (st : CS) : Option (Int32) := if some o = a0 then (some (1 : Int32)) else (a0.bind fun a12z => (isO K st a12z 12).bind fun _ => (isO K st a12z 12).bind fun _ => (gI K st o 12 1).bind fun x13 => (gI K st a12z 12 1).bind fun x14 => (if x13 = x14 then ((gQ K st o 12 0).bind fun x18 => (gQ K st a12z 12 0).bind fun x19 => (c_StringLatin1_equals Zd K x18 x19 st).bind fun x20 => if x20 = (0 : Int32) then (some (0 : Int32)) else (some (1 : Int32))) else (some (0 : Int32))).bind fun e15 => (bz e15).bind fun _ => some e15)
set_option maxHeartbeats 4000000 in
set_option maxRecDepth 100000 in
theorem cc_String_equals (l : Launch) (G : Gk) (Zd : Nat → Nat) (K : KE) (o : Nat) (a0 : Option Nat) (st : CS) (r0 : Int32) (hm : c_String_equals Zd K o a0 st = some r0) : CT l y21_66 prog_21_method_66_code 3 (some .boolean) G Zd K (1) [.ref o, va_rf a0] st (hI G Zd r0 st) := by
  refine goH (d := 1) (y := y21_66) (cc := prog_21_method_66_code) (maxL := 3) (ret := (some .boolean)) (av := [.ref o, va_rf a0]) (Qc := hI G Zd r0 st) "java/lang/String" rfl (by decide) (c1_c rfl (c1_c (rf_cat _) c1_n)) (Nat.le_of_ble_eq_true rfl) ?_
  intro p e s m below meth c ls A args Q hQ hx hb hr hlk hml hown hts hin hl hE hw
  have hl : lw ls 3 [(0, .ref o), (1, va_rf a0)] := hl
  have hZ := hE.2.2.1
  have h := hm
  clear hm
  refine lv_aload_n hx hb d21_66_0 rfl (lv_at hl.1 0 rfl) ?_
  refine xq_aload_n (r := a0) hx hb d21_66_1 rfl (lv_at hl.1 1 rfl) ?_
  refine lv_acmp_ne (rx := some o) (ry := a0) (tgt := 7) hx hb d21_66_2 rfl (fun c11 => ?_) (fun c11 => ?_)
  ·
    replace h := (if_neg c11).symm.trans h
    refine xq_aload_n (r := a0) hx hb d21_66_7 rfl (lv_at hl.1 1 rfl) ?_
    obtain ⟨a12z, hn12, h⟩ := ob h
    have hn12 : a0 = some a12z := hn12
    refine W.eq (g2 := F0 m 8 ls [.ref a12z]) (by rw [hn12]; rfl) ?_
    obtain ⟨u9, hr, h⟩ := ob h
    refine xi (ci := 12) hx hb hown (hts _ (List.mem_cons_of_mem _ k591)) hE hw rfl hr d21_66_8 ?_
    clear hr u9
    refine lv_if_eq (tgt := 54) hx hb d21_66_11 rfl (fun hc => absurd hc (by decide)) (fun _ => ?_)
    refine xq_aload_n (r := a0) hx hb d21_66_14 rfl (lv_at hl.1 1 rfl) ?_
    refine W.eq (g2 := F0 m 15 ls [.ref a12z]) (by rw [hn12]; rfl) ?_
    obtain ⟨u9, hr, h⟩ := ob h
    refine xk (ci := 12) hx hb hown (hts _ (List.mem_cons_of_mem _ k591)) hE hw rfl hr d21_66_15 ?_
    clear hr u9
    refine xt_astore_n (r := some a12z) (lv' := [(2, .ref a12z), (0, .ref o), (1, va_rf a0)]) hx hb d21_66_18 rfl hl (by decide) rfl (fun ls hl => ?_)
    refine va_gets (ref := "java/lang/String") hx hb hZ.1.2.1 hw.2.2.2 hown (hts _ (List.mem_cons_of_mem _ k493)) (fun _ h9 => h9) d21_66_19 ?_
    refine W.eq (g2 := F0 m 22 ls [.int 1]) rfl ?_
    refine lv_if_eq (tgt := 36) hx hb d21_66_22 rfl (fun hc => absurd hc (by decide)) (fun _ => ?_)
    refine lv_aload_n hx hb d21_66_25 rfl (lv_at hl.1 1 rfl) ?_
    obtain ⟨x13, hr, h⟩ := ob h
    refine xg_i (ci := 12) (C := r_12) (T := f_12) (N := 4) (ref := "java/lang/String") hx hb hts (fun w h => List.mem_cons_of_mem _ (ly_12 w h)) hown hE hw rfl 1 (by decide) (hts _ (List.mem_cons_of_mem _ k528)) (fun _ h9 => h9) hr d21_66_26 ?_
    clear hr
    refine lv_aload_n hx hb d21_66_29 rfl (lv_at hl.1 0 rfl) ?_
    obtain ⟨x14, hr, h⟩ := ob h
    refine xg_i (ci := 12) (C := r_12) (T := f_12) (N := 4) (ref := "java/lang/String") hx hb hts (fun w h => List.mem_cons_of_mem _ (ly_12 w h)) hown hE hw rfl 1 (by decide) (hts _ (List.mem_cons_of_mem _ k528)) (fun _ h9 => h9) hr d21_66_30 ?_
    clear hr
    obtain ⟨e15, hX, h⟩ := ob h
    have hj : ∀ (H : Heap) (locs : List Loc) (cells slots : Nat) (ls : Array Slot), lw ls 3 [(0, .ref o), (1, va_rf a0), (2, .ref a12z)] → wsH G Zd A s st H locs → W p l e (rmH Zd (1) st.1) s m args below meth c H locs cells slots Q (F0 m 55 ls [.int e15]) := by
      intro H locs cells slots ls hl hw
      obtain ⟨u9, hr9, h⟩ := ob h
      have hi := bz_some hr9
      clear hr9 u9
      cases h
      exact finH_z hQ hx hb hr hlk (nar01 hi) hE hw d21_66_55
    clear h
    refine lv_icmp_ne (tgt := 54) hx hb d21_66_33 rfl (fun c17 => ?_) (fun c17 => ?_)
    ·
      replace h := (if_neg c17).symm.trans hX
      refine lv_iconst (v := 0) hx hb d21_66_54 (by decide) ?_
      have e9 := Option.some.inj h
      subst e15
      have hl := lw_sub hl (l' := [(0, .ref o), (1, va_rf a0), (2, .ref a12z)]) [1, 2, 0] rfl
      exact hj _ _ _ _ _ hl hw
    ·
      replace h := (if_pos c17).symm.trans hX
      refine lv_aload_n hx hb d21_66_36 rfl (lv_at hl.1 1 rfl) ?_
      obtain ⟨x18, hr, h⟩ := ob h
      refine xg_q (ci := 12) (C := r_12) (T := f_12) (N := 4) (ref := "java/lang/String") hx hb hts (fun w h => List.mem_cons_of_mem _ (ly_12 w h)) hown hE hw rfl 0 (by decide) (hts _ (List.mem_cons_of_mem _ k527)) (fun _ h9 => h9) hr d21_66_37 ?_
      clear hr
      refine lv_aload_n hx hb d21_66_40 rfl (lv_at hl.1 0 rfl) ?_
      obtain ⟨x19, hr, h⟩ := ob h
      refine xg_q (ci := 12) (C := r_12) (T := f_12) (N := 4) (ref := "java/lang/String") hx hb hts (fun w h => List.mem_cons_of_mem _ (ly_12 w h)) hown hE hw rfl 0 (by decide) (hts _ (List.mem_cons_of_mem _ k527)) (fun _ h9 => h9) hr d21_66_41 ?_
      clear hr
      obtain ⟨x20, hc, h⟩ := ob h
      refine hS_i (As := [va_rf x18, va_rf x19]) (rest := []) ⟨hx, hb, hml, hown, hts⟩ (cc_StringLatin1_equals l G Zd K x18 x19 st x20 hc) (kw_S (n := 2) hts k594 k592 k23 k593 (by decide +kernel) ⟨Nat.le_of_ble_eq_true rfl, Nat.le_of_ble_eq_true rfl⟩) hE hw rfl hl.1.1 rfl (c1_8 c1_n (Nat.le_of_ble_eq_true rfl)) d21_66_44 (fun H locs cells slots hw => ?_)
      clear hc
      refine W.eq (g2 := F0 m 47 ls [.int x20]) rfl ?_
      refine lv_if_eq (tgt := 54) hx hb d21_66_47 rfl (fun c23 => ?_) (fun c23 => ?_)
      ·
        replace h := (if_pos c23).symm.trans h
        refine lv_iconst (v := 0) hx hb d21_66_54 (by decide) ?_
        have e9 := Option.some.inj h
        subst e15
        have hl := lw_sub hl (l' := [(0, .ref o), (1, va_rf a0), (2, .ref a12z)]) [1, 2, 0] rfl
        exact hj _ _ _ _ _ hl hw
      ·
        replace h := (if_neg c23).symm.trans h
        refine lv_iconst (v := 1) hx hb d21_66_50 (by decide) ?_
        refine lv_goto (tgt := 55) hx hb d21_66_51 rfl ?_
        have e9 := Option.some.inj h
        subst e15
        have hl := lw_sub hl (l' := [(0, .ref o), (1, va_rf a0), (2, .ref a12z)]) [1, 2, 0] rfl
        exact hj _ _ _ _ _ hl hw
  ·
    replace h := (if_pos c11).symm.trans h
    refine lv_iconst (v := 1) hx hb d21_66_5 (by decide) ?_
    cases h
    exact finH_z hQ hx hb hr hlk (by decide) hE hw d21_66_6
theorem d22_93_0 : decode prog_22_method_93_code 0 = .ok (.aload_n 0, 1) := by decide +kernel
theorem d22_93_1 : decode prog_22_method_93_code 1 = .ok (.invokespecial 343, 3) := by decide +kernel
theorem d16_6_0 : decode prog_16_method_6_code 0 = .ok (.aload_n 0, 1) := by decide +kernel
theorem d16_6_1 : decode prog_16_method_6_code 1 = .ok (.getfield 79, 3) := by decide +kernel
theorem k63 : (Jvm.Cond.fieldLink "java/lang/AbstractStringBuilder" (79 : Nat) "java/lang/AbstractStringBuilder" "count" "I") ∈ TB := tk_1 63 rfl rfl
theorem d16_6_4 : decode prog_16_method_6_code 4 = .ok (.ireturn, 1) := by decide +kernel
def y16_6 : MethodName := { cls := "java/lang/AbstractStringBuilder", name := "length", desc := "()I" }
theorem k482 : (Jvm.Cond.code ({ cls := "java/lang/AbstractStringBuilder", name := "length", desc := "()I" } : Jvm.MethodName) prog_16_method_6_code (1 : Nat) (Option.some Jvm.ClassFile.FieldType.int)) ∈ TB := tk_3 2 rfl rfl
theorem k481 : (Jvm.Cond.methodLink "java/lang/StringBuilder" (343 : Nat) ({ cls := "java/lang/AbstractStringBuilder", name := "length", desc := "()I" } : Jvm.MethodName)) ∈ TB := tk_3 1 rfl rfl
theorem k476 : (Jvm.Cond.instanceMethod ({ cls := "java/lang/AbstractStringBuilder", name := "length", desc := "()I" } : Jvm.MethodName)) ∈ TB := tk_2 236 rfl rfl
theorem k477 : (Jvm.Cond.sameMethod "java/lang/AbstractStringBuilder" "java/lang/AbstractStringBuilder" "length" "()I") ∈ TB := tk_2 237 rfl rfl
theorem k72 : (Jvm.Cond.superclass "java/lang/StringBuilder" "java/lang/AbstractStringBuilder") ∈ TB := tk_1 72 rfl rfl
theorem d22_93_4 : decode prog_22_method_93_code 4 = .ok (.ireturn, 1) := by decide +kernel
def y22_93 : MethodName := { cls := "java/lang/StringBuilder", name := "length", desc := "()I" }
def c_AbstractStringBuilder_length (Zd : Nat → Nat) (K : KE) (o : Nat) (st : CS) : Option (Int32) := (gI K st o 2 3).bind fun x11 => some x11
set_option maxHeartbeats 4000000 in
set_option maxRecDepth 100000 in
theorem cc_AbstractStringBuilder_length (l : Launch) (G : Gk) (Zd : Nat → Nat) (K : KE) (o : Nat) (st : CS) (r0 : Int32) (hm : c_AbstractStringBuilder_length Zd K o st = some r0) : CT l y16_6 prog_16_method_6_code 1 (some .int) G Zd K (0) [.ref o] st (hI G Zd r0 st) := by
  refine goH (d := 0) (y := y16_6) (cc := prog_16_method_6_code) (maxL := 1) (ret := (some .int)) (av := [.ref o]) (Qc := hI G Zd r0 st) "java/lang/AbstractStringBuilder" rfl (by decide) (c1_c rfl c1_n) (Nat.le_of_ble_eq_true rfl) ?_
  intro p e s m below meth c ls A args Q hQ hx hb hr hlk hml hown hts hin hl hE hw
  have hl : lw ls 1 [(0, .ref o)] := hl
  have hZ := hE.2.2.1
  have h := hm
  clear hm
  refine lv_aload_n hx hb d16_6_0 rfl (lv_at hl.1 0 rfl) ?_
  obtain ⟨x11, hr, h⟩ := ob h
  refine xg_i (ci := 2) (C := r_2) (T := f_2) (N := 4) (ref := "java/lang/AbstractStringBuilder") hx hb hts (fun w h => List.mem_cons_of_mem _ (ly_2 w h)) hown hE hw rfl 3 (by decide) (hts _ (List.mem_cons_of_mem _ k63)) (fun _ h9 => h9) hr d16_6_1 ?_
  clear hr
  cases h
  exact finH_i hQ hx hb hr hlk hE hw d16_6_4
def c_StringBuilder_length (Zd : Nat → Nat) (K : KE) (o : Nat) (st : CS) : Option (Int32) := (isO K st o 2).bind fun _ => (c_AbstractStringBuilder_length Zd K o st).bind fun x11 => some x11
set_option maxHeartbeats 4000000 in
set_option maxRecDepth 100000 in
theorem cc_StringBuilder_length (l : Launch) (G : Gk) (Zd : Nat → Nat) (K : KE) (o : Nat) (st : CS) (r0 : Int32) (hm : c_StringBuilder_length Zd K o st = some r0) : CT l y22_93 prog_22_method_93_code 1 (some .int) G Zd K (1) [.ref o] st (hI G Zd r0 st) := by
  refine goH (d := 1) (y := y22_93) (cc := prog_22_method_93_code) (maxL := 1) (ret := (some .int)) (av := [.ref o]) (Qc := hI G Zd r0 st) "java/lang/StringBuilder" rfl (by decide) (c1_c rfl c1_n) (Nat.le_of_ble_eq_true rfl) ?_
  intro p e s m below meth c ls A args Q hQ hx hb hr hlk hml hown hts hin hl hE hw
  have hl : lw ls 1 [(0, .ref o)] := hl
  have hZ := hE.2.2.1
  have h := hm
  clear hm
  refine lv_aload_n hx hb d22_93_0 rfl (lv_at hl.1 0 rfl) ?_
  obtain ⟨u9, ho, h⟩ := ob h
  obtain ⟨x11, hc, h⟩ := ob h
  refine hSU_i (ci := 2) (As := []) (rest := []) ⟨hx, hb, hml, hown, hts⟩ (cc_AbstractStringBuilder_length l G Zd K o st x11 hc) (kw_SU (n := 0) hts k482 k481 k3 k476 k477 k72 (by decide +kernel) ⟨Nat.le_of_ble_eq_true rfl, Nat.le_of_ble_eq_true rfl⟩) hE hw rfl rfl ho rfl hl.1.1 rfl (c1_8 c1_n (Nat.le_of_ble_eq_true rfl)) d22_93_1 (fun H locs cells slots hw => ?_)
  clear hc ho u9
  refine W.eq (g2 := F0 m 4 ls [.int x11]) rfl ?_
  cases h
  exact finH_i hQ hx hb hr hlk hE hw d22_93_4
theorem d22_88_0 : decode prog_22_method_88_code 0 = .ok (.aload_n 0, 1) := by decide +kernel
theorem d22_88_1 : decode prog_22_method_88_code 1 = .ok (.iload_n 1, 1) := by decide +kernel
theorem d22_88_2 : decode prog_22_method_88_code 2 = .ok (.invokespecial 329, 3) := by decide +kernel
theorem d16_14_0 : decode prog_16_method_14_code 0 = .ok (.aload_n 0, 1) := by decide +kernel
theorem d16_14_1 : decode prog_16_method_14_code 1 = .ok (.getfield 22, 3) := by decide +kernel
theorem d16_14_4 : decode prog_16_method_14_code 4 = .ok (.istore_n 2, 1) := by decide +kernel
theorem d16_14_5 : decode prog_16_method_14_code 5 = .ok (.aload_n 0, 1) := by decide +kernel
theorem d16_14_6 : decode prog_16_method_14_code 6 = .ok (.getfield 15, 3) := by decide +kernel
theorem d16_14_9 : decode prog_16_method_14_code 9 = .ok (.astore_n 3, 1) := by decide +kernel
theorem d16_14_10 : decode prog_16_method_14_code 10 = .ok (.aload_n 0, 1) := by decide +kernel
theorem d16_14_11 : decode prog_16_method_14_code 11 = .ok (.getfield 79, 3) := by decide +kernel
theorem d16_14_14 : decode prog_16_method_14_code 14 = .ok (.aload_n 3, 1) := by decide +kernel
theorem d16_14_15 : decode prog_16_method_14_code 15 = .ok (.arraylength, 1) := by decide +kernel
theorem d16_14_16 : decode prog_16_method_14_code 16 = .ok (.iload_n 2, 1) := by decide +kernel
theorem d16_14_17 : decode prog_16_method_14_code 17 = .ok (.ishr, 1) := by decide +kernel
theorem d16_14_18 : decode prog_16_method_14_code 18 = .ok (.invokestatic 138, 3) := by decide +kernel
theorem kmin : Cond.code Lib.Math.min.name Lib.Math.min.code 2 (some .int) ∈ TB := tk_2 193 (by decide +kernel) (by decide +kernel)
theorem k1104 : (Jvm.Cond.methodLink "java/lang/AbstractStringBuilder" (138 : Nat) ({ cls := "java/lang/Math", name := "min", desc := "(II)I" } : Jvm.MethodName)) ∈ TB := tk_5 144 rfl rfl
theorem k432 : (Jvm.Cond.static ({ cls := "java/lang/Math", name := "min", desc := "(II)I" } : Jvm.MethodName)) ∈ TB := tk_2 192 rfl rfl
theorem k20 : (Jvm.Cond.initialized "java/lang/Math") ∈ TB := tk_1 20 rfl rfl
theorem d16_14_21 : decode prog_16_method_14_code 21 = .ok (.istore 4, 2) := by decide +kernel
theorem d16_14_23 : decode prog_16_method_14_code 23 = .ok (.iload_n 1, 1) := by decide +kernel
theorem d16_14_24 : decode prog_16_method_14_code 24 = .ok (.iload 4, 2) := by decide +kernel
theorem d16_14_26 : decode prog_16_method_14_code 26 = .ok (.invokestatic 144, 3) := by decide +kernel
theorem k1105 : (Jvm.Cond.methodLink "java/lang/AbstractStringBuilder" (144 : Nat) ({ cls := "java/lang/String", name := "checkIndex", desc := "(II)V" } : Jvm.MethodName)) ∈ TB := tk_5 145 rfl rfl
theorem d16_14_29 : decode prog_16_method_14_code 29 = .ok (.iload_n 2, 1) := by decide +kernel
theorem d16_14_30 : decode prog_16_method_14_code 30 = .ok (.ifCond .ne 12, 3) := by decide +kernel
theorem d16_14_42 : decode prog_16_method_14_code 42 = .ok (.aload_n 3, 1) := by decide +kernel
theorem d16_14_43 : decode prog_16_method_14_code 43 = .ok (.iload_n 1, 1) := by decide +kernel
theorem d16_14_33 : decode prog_16_method_14_code 33 = .ok (.aload_n 3, 1) := by decide +kernel
theorem d16_14_34 : decode prog_16_method_14_code 34 = .ok (.iload_n 1, 1) := by decide +kernel
theorem d16_14_35 : decode prog_16_method_14_code 35 = .ok (.baload, 1) := by decide +kernel
theorem d16_14_36 : decode prog_16_method_14_code 36 = .ok (.sipush 255, 3) := by decide +kernel
theorem d16_14_39 : decode prog_16_method_14_code 39 = .ok (.iand, 1) := by decide +kernel
theorem d16_14_40 : decode prog_16_method_14_code 40 = .ok (.i2c, 1) := by decide +kernel
theorem d16_14_41 : decode prog_16_method_14_code 41 = .ok (.ireturn, 1) := by decide +kernel
def y16_14 : MethodName := { cls := "java/lang/AbstractStringBuilder", name := "charAt", desc := "(I)C" }
theorem k1103 : (Jvm.Cond.code ({ cls := "java/lang/AbstractStringBuilder", name := "charAt", desc := "(I)C" } : Jvm.MethodName) prog_16_method_14_code (5 : Nat) (Option.some Jvm.ClassFile.FieldType.char)) ∈ TB := tk_5 143 rfl rfl
theorem k1101 : (Jvm.Cond.methodLink "java/lang/StringBuilder" (329 : Nat) ({ cls := "java/lang/AbstractStringBuilder", name := "charAt", desc := "(I)C" } : Jvm.MethodName)) ∈ TB := tk_5 141 rfl rfl
theorem k1102 : (Jvm.Cond.instanceMethod ({ cls := "java/lang/AbstractStringBuilder", name := "charAt", desc := "(I)C" } : Jvm.MethodName)) ∈ TB := tk_5 142 rfl rfl
theorem k1665 : (Jvm.Cond.sameMethod "java/lang/AbstractStringBuilder" "java/lang/AbstractStringBuilder" "charAt" "(I)C") ∈ TB := tk_7 225 rfl rfl
theorem d22_88_5 : decode prog_22_method_88_code 5 = .ok (.ireturn, 1) := by decide +kernel
def y22_88 : MethodName := { cls := "java/lang/StringBuilder", name := "charAt", desc := "(I)C" }
def c_AbstractStringBuilder_charAt (Zd : Nat → Nat) (K : KE) (o : Nat) (a0 : Int32) (st : CS) : Option (Int32) := (gI K st o 2 1).bind fun x11 => (gQ K st o 2 0).bind fun x12 => (gI K st o 2 3).bind fun x13 => x12.bind fun a14z => (lA K st a14z 2).bind fun n15 => (some (Int32.ofNat n15)).bind fun x16 => (some (x16 >>> (x11 &&& 31))).bind fun y17 => (some (if y17 < x13 then y17 else x13)).bind fun y18 => (c_String_checkIndex Zd K a0 y18 st).bind fun _ => if x11 = (0 : Int32) then ((rA K st a14z 2 a0).bind fun x23 => (some (x23 &&& (255 : Int32))).bind fun y24 => (some ((y24.toUInt32 % 65536).toInt32)).bind fun y25 => (nrC y25).bind fun _ => some y25) else none
set_option maxHeartbeats 4000000 in
set_option maxRecDepth 100000 in
theorem cc_AbstractStringBuilder_charAt (l : Launch) (G : Gk) (Zd : Nat → Nat) (K : KE) (o : Nat) (a0 : Int32) (st : CS) (r0 : Int32) (hm : c_AbstractStringBuilder_charAt Zd K o a0 st = some r0) : CT l y16_14 prog_16_method_14_code 5 (some .char) G Zd K (2) [.ref o, .int a0] st (hI G Zd r0 st) := by
  refine goH (d := 2) (y := y16_14) (cc := prog_16_method_14_code) (maxL := 5) (ret := (some .char)) (av := [.ref o, .int a0]) (Qc := hI G Zd r0 st) "java/lang/AbstractStringBuilder" rfl (by decide) (c1_c rfl (c1_c rfl c1_n)) (Nat.le_of_ble_eq_true rfl) ?_
  intro p e s m below meth c ls A args Q hQ hx hb hr hlk hml hown hts hin hl hE hw
  have hl : lw ls 5 [(0, .ref o), (1, .int a0)] := hl
  have hZ := hE.2.2.1
  have h := hm
  clear hm
  refine lv_aload_n hx hb d16_14_0 rfl (lv_at hl.1 0 rfl) ?_
  obtain ⟨x11, hr, h⟩ := ob h
  refine xg_i (ci := 2) (C := r_2) (T := f_2) (N := 4) (ref := "java/lang/AbstractStringBuilder") hx hb hts (fun w h => List.mem_cons_of_mem _ (ly_2 w h)) hown hE hw rfl 1 (by decide) (hts _ (List.mem_cons_of_mem _ k60)) (fun _ h9 => h9) hr d16_14_1 ?_
  clear hr
  refine xt_istore_n (x := x11) (lv' := [(2, .int x11), (0, .ref o), (1, .int a0)]) hx hb d16_14_4 rfl hl (by decide) rfl (fun ls hl => ?_)
  refine lv_aload_n hx hb d16_14_5 rfl (lv_at hl.1 1 rfl) ?_
  obtain ⟨x12, hr, h⟩ := ob h
  refine xg_q (ci := 2) (C := r_2) (T := f_2) (N := 4) (ref := "java/lang/AbstractStringBuilder") hx hb hts (fun w h => List.mem_cons_of_mem _ (ly_2 w h)) hown hE hw rfl 0 (by decide) (hts _ (List.mem_cons_of_mem _ k59)) (fun _ h9 => h9) hr d16_14_6 ?_
  clear hr
  refine xt_astore_n (r := x12) (lv' := [(3, va_rf x12), (2, .int x11), (0, .ref o), (1, .int a0)]) hx hb d16_14_9 rfl hl (by decide) rfl (fun ls hl => ?_)
  refine lv_aload_n hx hb d16_14_10 rfl (lv_at hl.1 2 rfl) ?_
  obtain ⟨x13, hr, h⟩ := ob h
  refine xg_i (ci := 2) (C := r_2) (T := f_2) (N := 4) (ref := "java/lang/AbstractStringBuilder") hx hb hts (fun w h => List.mem_cons_of_mem _ (ly_2 w h)) hown hE hw rfl 3 (by decide) (hts _ (List.mem_cons_of_mem _ k63)) (fun _ h9 => h9) hr d16_14_11 ?_
  clear hr
  refine xq_aload_n (r := x12) hx hb d16_14_14 rfl (lv_at hl.1 0 rfl) ?_
  obtain ⟨a14z, hn14, h⟩ := ob h
  have hn14 : x12 = some a14z := hn14
  refine W.eq (g2 := F0 m 15 ls [.ref a14z, .int x13]) (by rw [hn14]; rfl) ?_
  obtain ⟨n15, hr, h⟩ := ob h
  obtain ⟨x16, hr2, h⟩ := ob h
  refine xl hx hb hE hw (t := 2) rfl hr hr2 d16_14_15 ?_
  clear hr hr2
  refine lv_iload_n hx hb d16_14_16 rfl (lv_at hl.1 1 rfl) ?_
  refine lv_ishr hx hb d16_14_17 ?_
  obtain ⟨y17, hr, h⟩ := ob h
  refine lv_topi (fun y9 ey => ?_)
  have e9 := ey.trans (Option.some.inj hr)
  clear ey
  subst y9
  clear hr
  refine xmin (x := x13) (y := y17) (rest := []) hx hb (by rw [hml]; exact hl.1.1.symm) hown (hts _ (List.mem_cons_of_mem _ k1104)) (hts _ (List.mem_cons_of_mem _ k432)) (hts _ (List.mem_cons_of_mem _ k20)) (hts _ (List.mem_cons_of_mem _ kmin)) hE hw (show 1 ≤ 2 by omega) (by rw [c1_sum c1_n]; show 0 + 13 ≤ 64 * (2); omega) d16_14_18 (fun cells slots => ?_)
  obtain ⟨y18, hr, h⟩ := ob h
  refine lv_topi (fun y9 ey => ?_)
  have e9 := ey.trans (Option.some.inj hr)
  clear ey
  subst y9
  clear hr
  refine xt_istore (x := y18) (lv' := [(4, .int y18), (3, va_rf x12), (2, .int x11), (0, .ref o), (1, .int a0)]) hx hb d16_14_21 hl (by decide) rfl (fun ls hl => ?_)
  refine lv_iload_n hx hb d16_14_23 rfl (lv_at hl.1 4 rfl) ?_
  refine lv_iload hx hb d16_14_24 (lv_at hl.1 0 rfl) ?_
  obtain ⟨⟨⟩, hc, h⟩ := ob h
  refine hS_v (As := [.int a0, .int y18]) (rest := []) ⟨hx, hb, hml, hown, hts⟩ (cc_String_checkIndex l G Zd K a0 y18 st  hc) (kw_S (n := 2) hts k573 k1105 k5 k572 (by decide +kernel) ⟨Nat.le_of_ble_eq_true rfl, Nat.le_of_ble_eq_true rfl⟩) hE hw rfl hl.1.1 rfl (c1_8 c1_n (Nat.le_of_ble_eq_true rfl)) d16_14_26 (fun H locs cells slots hw => ?_)
  clear hc
  refine W.eq (g2 := F0 m 29 ls []) rfl ?_
  refine lv_iload_n hx hb d16_14_29 rfl (lv_at hl.1 2 rfl) ?_
  refine lv_if_ne (tgt := 42) hx hb d16_14_30 rfl (fun c22 => ?_) (fun c22 => ?_)
  ·
    replace h := (if_neg c22).symm.trans h
    refine xq_aload_n (r := x12) hx hb d16_14_42 rfl (lv_at hl.1 1 rfl) ?_
    refine lv_iload_n hx hb d16_14_43 rfl (lv_at hl.1 4 rfl) ?_
    cases h
  ·
    replace h := (if_pos c22).symm.trans h
    refine xq_aload_n (r := x12) hx hb d16_14_33 rfl (lv_at hl.1 1 rfl) ?_
    refine lv_iload_n hx hb d16_14_34 rfl (lv_at hl.1 4 rfl) ?_
    refine W.eq (g2 := F0 m 35 ls [.int a0, .ref a14z]) (by rw [hn14]; rfl) ?_
    obtain ⟨x23, hr, h⟩ := ob h
    refine xa_b hx hb hE hw (i := a0) hr d16_14_35 ?_
    clear hr
    refine lv_sipush (v := 255) hx hb d16_14_36 (by decide) ?_
    refine lv_iand hx hb d16_14_39 ?_
    obtain ⟨y24, hr, h⟩ := ob h
    refine lv_topi (fun y9 ey => ?_)
    have e9 := ey.trans (Option.some.inj hr)
    clear ey
    subst y9
    clear hr
    refine lv_i2c hx hb d16_14_40 rfl ?_
    obtain ⟨y25, hr, h⟩ := ob h
    refine lv_topi (fun y9 ey => ?_)
    have e9 := ey.trans (Option.some.inj hr)
    clear ey
    subst y9
    clear hr
    obtain ⟨u9, hr9, h⟩ := ob h
    have hi := nrC_some hr9
    clear hr9 u9
    cases h
    exact finH_z hQ hx hb hr hlk hi.1 hE hw d16_14_41
def c_StringBuilder_charAt (Zd : Nat → Nat) (K : KE) (o : Nat) (a0 : Int32) (st : CS) : Option (Int32) := (isO K st o 2).bind fun _ => (c_AbstractStringBuilder_charAt Zd K o a0 st).bind fun x11 => (nrC x11).bind fun _ => some x11
set_option maxHeartbeats 4000000 in
set_option maxRecDepth 100000 in
theorem cc_StringBuilder_charAt (l : Launch) (G : Gk) (Zd : Nat → Nat) (K : KE) (o : Nat) (a0 : Int32) (st : CS) (r0 : Int32) (hm : c_StringBuilder_charAt Zd K o a0 st = some r0) : CT l y22_88 prog_22_method_88_code 2 (some .char) G Zd K (3) [.ref o, .int a0] st (hI G Zd r0 st) := by
  refine goH (d := 3) (y := y22_88) (cc := prog_22_method_88_code) (maxL := 2) (ret := (some .char)) (av := [.ref o, .int a0]) (Qc := hI G Zd r0 st) "java/lang/StringBuilder" rfl (by decide) (c1_c rfl (c1_c rfl c1_n)) (Nat.le_of_ble_eq_true rfl) ?_
  intro p e s m below meth c ls A args Q hQ hx hb hr hlk hml hown hts hin hl hE hw
  have hl : lw ls 2 [(0, .ref o), (1, .int a0)] := hl
  have hZ := hE.2.2.1
  have h := hm
  clear hm
  refine lv_aload_n hx hb d22_88_0 rfl (lv_at hl.1 0 rfl) ?_
  refine lv_iload_n hx hb d22_88_1 rfl (lv_at hl.1 1 rfl) ?_
  obtain ⟨u9, ho, h⟩ := ob h
  obtain ⟨x11, hc, h⟩ := ob h
  refine hSU_i (ci := 2) (As := [.int a0]) (rest := []) ⟨hx, hb, hml, hown, hts⟩ (cc_AbstractStringBuilder_charAt l G Zd K o a0 st x11 hc) (kw_SU (n := 1) hts k1103 k1101 k3 k1102 k1665 k72 (by decide +kernel) ⟨Nat.le_of_ble_eq_true rfl, Nat.le_of_ble_eq_true rfl⟩) hE hw rfl rfl ho rfl hl.1.1 rfl (c1_8 c1_n (Nat.le_of_ble_eq_true rfl)) d22_88_2 (fun H locs cells slots hw => ?_)
  clear hc ho u9
  refine W.eq (g2 := F0 m 5 ls [.int x11]) rfl ?_
  obtain ⟨u9, hr9, h⟩ := ob h
  have hi := nrC_some hr9
  clear hr9 u9
  cases h
  exact finH_z hQ hx hb hr hlk hi.1 hE hw d22_88_5
theorem d22_89_0 : decode prog_22_method_89_code 0 = .ok (.aload_n 0, 1) := by decide +kernel
theorem d22_89_1 : decode prog_22_method_89_code 1 = .ok (.iload_n 1, 1) := by decide +kernel
theorem d22_89_2 : decode prog_22_method_89_code 2 = .ok (.invokespecial 333, 3) := by decide +kernel
theorem d16_13_0 : decode prog_16_method_13_code 0 = .ok (.iload_n 1, 1) := by decide +kernel
theorem d16_13_1 : decode prog_16_method_13_code 1 = .ok (.ifCond .ge 12, 3) := by decide +kernel
theorem d16_13_13 : decode prog_16_method_13_code 13 = .ok (.aload_n 0, 1) := by decide +kernel
theorem d16_13_14 : decode prog_16_method_13_code 14 = .ok (.iload_n 1, 1) := by decide +kernel
theorem d16_13_15 : decode prog_16_method_13_code 15 = .ok (.invokevirtual 100, 3) := by decide +kernel
theorem d16_9_0 : decode prog_16_method_9_code 0 = .ok (.aload_n 0, 1) := by decide +kernel
theorem d16_9_1 : decode prog_16_method_9_code 1 = .ok (.getfield 15, 3) := by decide +kernel
theorem d16_9_4 : decode prog_16_method_9_code 4 = .ok (.arraylength, 1) := by decide +kernel
theorem d16_9_5 : decode prog_16_method_9_code 5 = .ok (.aload_n 0, 1) := by decide +kernel
theorem d16_9_6 : decode prog_16_method_9_code 6 = .ok (.getfield 22, 3) := by decide +kernel
theorem d16_9_9 : decode prog_16_method_9_code 9 = .ok (.ishr, 1) := by decide +kernel
theorem d16_9_10 : decode prog_16_method_9_code 10 = .ok (.istore_n 2, 1) := by decide +kernel
theorem d16_9_11 : decode prog_16_method_9_code 11 = .ok (.iload_n 1, 1) := by decide +kernel
theorem d16_9_12 : decode prog_16_method_9_code 12 = .ok (.iload_n 2, 1) := by decide +kernel
theorem d16_9_13 : decode prog_16_method_9_code 13 = .ok (.isub, 1) := by decide +kernel
theorem d16_9_14 : decode prog_16_method_9_code 14 = .ok (.ifCond .le 24, 3) := by decide +kernel
theorem d16_9_17 : decode prog_16_method_9_code 17 = .ok (.aload_n 0, 1) := by decide +kernel
theorem d16_9_18 : decode prog_16_method_9_code 18 = .ok (.aload_n 0, 1) := by decide +kernel
theorem d16_9_19 : decode prog_16_method_9_code 19 = .ok (.getfield 15, 3) := by decide +kernel
theorem d16_9_22 : decode prog_16_method_9_code 22 = .ok (.aload_n 0, 1) := by decide +kernel
theorem d16_9_23 : decode prog_16_method_9_code 23 = .ok (.iload_n 1, 1) := by decide +kernel
theorem d16_9_24 : decode prog_16_method_9_code 24 = .ok (.invokevirtual 104, 3) := by decide +kernel
theorem d16_10_0 : decode prog_16_method_10_code 0 = .ok (.aload_n 0, 1) := by decide +kernel
theorem d16_10_1 : decode prog_16_method_10_code 1 = .ok (.getfield 15, 3) := by decide +kernel
theorem d16_10_4 : decode prog_16_method_10_code 4 = .ok (.arraylength, 1) := by decide +kernel
theorem d16_10_5 : decode prog_16_method_10_code 5 = .ok (.istore_n 2, 1) := by decide +kernel
theorem d16_10_6 : decode prog_16_method_10_code 6 = .ok (.iload_n 1, 1) := by decide +kernel
theorem d16_10_7 : decode prog_16_method_10_code 7 = .ok (.aload_n 0, 1) := by decide +kernel
theorem d16_10_8 : decode prog_16_method_10_code 8 = .ok (.getfield 22, 3) := by decide +kernel
theorem d16_10_11 : decode prog_16_method_10_code 11 = .ok (.ishl, 1) := by decide +kernel
theorem d16_10_12 : decode prog_16_method_10_code 12 = .ok (.istore_n 3, 1) := by decide +kernel
theorem d16_10_13 : decode prog_16_method_10_code 13 = .ok (.iload_n 3, 1) := by decide +kernel
theorem d16_10_14 : decode prog_16_method_10_code 14 = .ok (.iload_n 2, 1) := by decide +kernel
theorem d16_10_15 : decode prog_16_method_10_code 15 = .ok (.isub, 1) := by decide +kernel
theorem d16_10_16 : decode prog_16_method_10_code 16 = .ok (.istore 4, 2) := by decide +kernel
theorem d16_10_18 : decode prog_16_method_10_code 18 = .ok (.iload_n 2, 1) := by decide +kernel
theorem d16_10_19 : decode prog_16_method_10_code 19 = .ok (.iload 4, 2) := by decide +kernel
theorem d16_10_21 : decode prog_16_method_10_code 21 = .ok (.iload_n 2, 1) := by decide +kernel
theorem d16_10_22 : decode prog_16_method_10_code 22 = .ok (.iconst 2, 1) := by decide +kernel
theorem d16_10_23 : decode prog_16_method_10_code 23 = .ok (.aload_n 0, 1) := by decide +kernel
theorem d16_10_24 : decode prog_16_method_10_code 24 = .ok (.getfield 22, 3) := by decide +kernel
theorem d16_10_27 : decode prog_16_method_10_code 27 = .ok (.ishl, 1) := by decide +kernel
theorem d16_10_28 : decode prog_16_method_10_code 28 = .ok (.iadd, 1) := by decide +kernel
theorem d16_10_29 : decode prog_16_method_10_code 29 = .ok (.invokestatic 114, 3) := by decide +kernel
theorem d27_27_0 : decode prog_27_method_27_code 0 = .ok (.iload_n 0, 1) := by decide +kernel
theorem d27_27_1 : decode prog_27_method_27_code 1 = .ok (.iload_n 1, 1) := by decide +kernel
theorem d27_27_2 : decode prog_27_method_27_code 2 = .ok (.iload_n 2, 1) := by decide +kernel
theorem d27_27_3 : decode prog_27_method_27_code 3 = .ok (.invokestatic 194, 3) := by decide +kernel
theorem kmax : Cond.code Lib.Math.max.name Lib.Math.max.code 2 (some .int) ∈ TB := tk_2 175 (by decide +kernel) (by decide +kernel)
theorem k413 : (Jvm.Cond.methodLink "jdk/internal/util/ArraysSupport" (194 : Nat) ({ cls := "java/lang/Math", name := "max", desc := "(II)I" } : Jvm.MethodName)) ∈ TB := tk_2 173 rfl rfl
theorem k414 : (Jvm.Cond.static ({ cls := "java/lang/Math", name := "max", desc := "(II)I" } : Jvm.MethodName)) ∈ TB := tk_2 174 rfl rfl
theorem d27_27_6 : decode prog_27_method_27_code 6 = .ok (.iadd, 1) := by decide +kernel
theorem d27_27_7 : decode prog_27_method_27_code 7 = .ok (.istore_n 3, 1) := by decide +kernel
theorem d27_27_8 : decode prog_27_method_27_code 8 = .ok (.iconst 0, 1) := by decide +kernel
theorem d27_27_9 : decode prog_27_method_27_code 9 = .ok (.iload_n 3, 1) := by decide +kernel
theorem d27_27_10 : decode prog_27_method_27_code 10 = .ok (.if_icmp .ge 11, 3) := by decide +kernel
theorem d27_27_21 : decode prog_27_method_27_code 21 = .ok (.iload_n 0, 1) := by decide +kernel
theorem d27_27_22 : decode prog_27_method_27_code 22 = .ok (.iload_n 1, 1) := by decide +kernel
theorem d27_27_13 : decode prog_27_method_27_code 13 = .ok (.iload_n 3, 1) := by decide +kernel
theorem d27_27_14 : decode prog_27_method_27_code 14 = .ok (.ldc 200, 2) := by decide +kernel
theorem k416 : (Jvm.Cond.constant "jdk/internal/util/ArraysSupport" (200 : Nat) (2147483639 : Int32)) ∈ TB := tk_2 176 rfl rfl
theorem d27_27_16 : decode prog_27_method_27_code 16 = .ok (.if_icmp .gt 5, 3) := by decide +kernel
theorem d27_27_19 : decode prog_27_method_27_code 19 = .ok (.iload_n 3, 1) := by decide +kernel
theorem d27_27_20 : decode prog_27_method_27_code 20 = .ok (.ireturn, 1) := by decide +kernel
def y27_27 : MethodName := { cls := "jdk/internal/util/ArraysSupport", name := "newLength", desc := "(III)I" }
theorem k412 : (Jvm.Cond.code ({ cls := "jdk/internal/util/ArraysSupport", name := "newLength", desc := "(III)I" } : Jvm.MethodName) prog_27_method_27_code (4 : Nat) (Option.some Jvm.ClassFile.FieldType.int)) ∈ TB := tk_2 172 rfl rfl
theorem k19 : (Jvm.Cond.initialized "jdk/internal/util/ArraysSupport") ∈ TB := tk_1 19 rfl rfl
theorem k410 : (Jvm.Cond.methodLink "java/lang/AbstractStringBuilder" (114 : Nat) ({ cls := "jdk/internal/util/ArraysSupport", name := "newLength", desc := "(III)I" } : Jvm.MethodName)) ∈ TB := tk_2 170 rfl rfl
theorem k411 : (Jvm.Cond.static ({ cls := "jdk/internal/util/ArraysSupport", name := "newLength", desc := "(III)I" } : Jvm.MethodName)) ∈ TB := tk_2 171 rfl rfl
theorem d16_10_32 : decode prog_16_method_10_code 32 = .ok (.istore 5, 2) := by decide +kernel
theorem d16_10_34 : decode prog_16_method_10_code 34 = .ok (.iload 5, 2) := by decide +kernel
theorem d16_10_36 : decode prog_16_method_10_code 36 = .ok (.ldc 39, 2) := by decide +kernel
theorem k420 : (Jvm.Cond.constant "java/lang/AbstractStringBuilder" (39 : Nat) (2147483647 : Int32)) ∈ TB := tk_2 180 rfl rfl
theorem d16_10_38 : decode prog_16_method_10_code 38 = .ok (.if_icmp .ne 13, 3) := by decide +kernel
theorem d16_10_51 : decode prog_16_method_10_code 51 = .ok (.iload 5, 2) := by decide +kernel
theorem d16_10_53 : decode prog_16_method_10_code 53 = .ok (.aload_n 0, 1) := by decide +kernel
theorem d16_10_54 : decode prog_16_method_10_code 54 = .ok (.getfield 22, 3) := by decide +kernel
theorem d16_10_57 : decode prog_16_method_10_code 57 = .ok (.ishr, 1) := by decide +kernel
theorem d16_10_58 : decode prog_16_method_10_code 58 = .ok (.ireturn, 1) := by decide +kernel
def y16_10 : MethodName := { cls := "java/lang/AbstractStringBuilder", name := "newCapacity", desc := "(I)I" }
theorem k409 : (Jvm.Cond.code ({ cls := "java/lang/AbstractStringBuilder", name := "newCapacity", desc := "(I)I" } : Jvm.MethodName) prog_16_method_10_code (6 : Nat) (Option.some Jvm.ClassFile.FieldType.int)) ∈ TB := tk_2 169 rfl rfl
theorem k406 : (Jvm.Cond.methodLink "java/lang/AbstractStringBuilder" (104 : Nat) ({ cls := "java/lang/AbstractStringBuilder", name := "newCapacity", desc := "(I)I" } : Jvm.MethodName)) ∈ TB := tk_2 166 rfl rfl
theorem k440 : (Jvm.Cond.selects "java/lang/StringBuilder" ({ cls := "java/lang/AbstractStringBuilder", name := "isLatin1", desc := "()Z" } : Jvm.MethodName) ({ cls := "java/lang/AbstractStringBuilder", name := "isLatin1", desc := "()Z" } : Jvm.MethodName)) ∈ TB := tk_2 200 rfl rfl
theorem k408 : (Jvm.Cond.instanceMethod ({ cls := "java/lang/AbstractStringBuilder", name := "newCapacity", desc := "(I)I" } : Jvm.MethodName)) ∈ TB := tk_2 168 rfl rfl
theorem k1656 : (Jvm.Cond.sameMethod "java/lang/AbstractStringBuilder" "java/lang/AbstractStringBuilder" "newCapacity" "(I)I") ∈ TB := tk_7 216 rfl rfl
theorem d16_9_27 : decode prog_16_method_9_code 27 = .ok (.aload_n 0, 1) := by decide +kernel
theorem d16_9_28 : decode prog_16_method_9_code 28 = .ok (.getfield 22, 3) := by decide +kernel
theorem d16_9_31 : decode prog_16_method_9_code 31 = .ok (.ishl, 1) := by decide +kernel
theorem d16_9_32 : decode prog_16_method_9_code 32 = .ok (.invokestatic 108, 3) := by decide +kernel
theorem d26_121_0 : decode prog_26_method_121_code 0 = .ok (.iload_n 1, 1) := by decide +kernel
theorem d26_121_1 : decode prog_26_method_121_code 1 = .ok (.aload_n 0, 1) := by decide +kernel
theorem d26_121_2 : decode prog_26_method_121_code 2 = .ok (.arraylength, 1) := by decide +kernel
theorem d26_121_3 : decode prog_26_method_121_code 3 = .ok (.if_icmp .ne 11, 3) := by decide +kernel
theorem d26_121_14 : decode prog_26_method_121_code 14 = .ok (.iload_n 1, 1) := by decide +kernel
theorem d26_121_15 : decode prog_26_method_121_code 15 = .ok (.newarray .byte, 2) := by decide +kernel
theorem d26_121_17 : decode prog_26_method_121_code 17 = .ok (.astore_n 2, 1) := by decide +kernel
theorem d26_121_18 : decode prog_26_method_121_code 18 = .ok (.aload_n 0, 1) := by decide +kernel
theorem d26_121_19 : decode prog_26_method_121_code 19 = .ok (.iconst 0, 1) := by decide +kernel
theorem d26_121_20 : decode prog_26_method_121_code 20 = .ok (.aload_n 2, 1) := by decide +kernel
theorem d26_121_21 : decode prog_26_method_121_code 21 = .ok (.iconst 0, 1) := by decide +kernel
theorem d26_121_22 : decode prog_26_method_121_code 22 = .ok (.aload_n 0, 1) := by decide +kernel
theorem d26_121_23 : decode prog_26_method_121_code 23 = .ok (.arraylength, 1) := by decide +kernel
theorem d26_121_24 : decode prog_26_method_121_code 24 = .ok (.iload_n 1, 1) := by decide +kernel
theorem d26_121_25 : decode prog_26_method_121_code 25 = .ok (.invokestatic 304, 3) := by decide +kernel
theorem k431 : (Jvm.Cond.methodLink "java/util/Arrays" (304 : Nat) ({ cls := "java/lang/Math", name := "min", desc := "(II)I" } : Jvm.MethodName)) ∈ TB := tk_2 191 rfl rfl
theorem d26_121_28 : decode prog_26_method_121_code 28 = .ok (.invokestatic 150, 3) := by decide +kernel
theorem k434 : (Jvm.Cond.methodLink "java/util/Arrays" (150 : Nat) ({ cls := "java/lang/System", name := "arraycopy", desc := "(Ljava/lang/Object;ILjava/lang/Object;II)V" } : Jvm.MethodName)) ∈ TB := tk_2 194 rfl rfl
theorem k436 : (Jvm.Cond.native ({ cls := "java/lang/System", name := "arraycopy", desc := "(Ljava/lang/Object;ILjava/lang/Object;II)V" } : Jvm.MethodName)) ∈ TB := tk_2 196 rfl rfl
theorem k435 : (Jvm.Cond.static ({ cls := "java/lang/System", name := "arraycopy", desc := "(Ljava/lang/Object;ILjava/lang/Object;II)V" } : Jvm.MethodName)) ∈ TB := tk_2 195 rfl rfl
theorem k22 : (Jvm.Cond.initialized "java/lang/System") ∈ TB := tk_1 22 rfl rfl
theorem d26_121_31 : decode prog_26_method_121_code 31 = .ok (.aload_n 2, 1) := by decide +kernel
theorem d26_121_32 : decode prog_26_method_121_code 32 = .ok (.areturn, 1) := by decide +kernel
theorem d26_121_6 : decode prog_26_method_121_code 6 = .ok (.aload_n 0, 1) := by decide +kernel
def y26_121 : MethodName := { cls := "java/util/Arrays", name := "copyOf", desc := "([BI)[B" }
theorem k423 : (Jvm.Cond.code ({ cls := "java/util/Arrays", name := "copyOf", desc := "([BI)[B" } : Jvm.MethodName) prog_26_method_121_code (3 : Nat) (Option.some (Jvm.ClassFile.FieldType.array Jvm.ClassFile.FieldType.byte))) ∈ TB := tk_2 183 rfl rfl
theorem k21 : (Jvm.Cond.initialized "java/util/Arrays") ∈ TB := tk_1 21 rfl rfl
theorem k421 : (Jvm.Cond.methodLink "java/lang/AbstractStringBuilder" (108 : Nat) ({ cls := "java/util/Arrays", name := "copyOf", desc := "([BI)[B" } : Jvm.MethodName)) ∈ TB := tk_2 181 rfl rfl
theorem k422 : (Jvm.Cond.static ({ cls := "java/util/Arrays", name := "copyOf", desc := "([BI)[B" } : Jvm.MethodName)) ∈ TB := tk_2 182 rfl rfl
theorem d16_9_35 : decode prog_16_method_9_code 35 = .ok (.putfield 15, 3) := by decide +kernel
theorem d16_9_38 : decode prog_16_method_9_code 38 = .ok (.return_, 1) := by decide +kernel
def y16_9 : MethodName := { cls := "java/lang/AbstractStringBuilder", name := "ensureCapacityInternal", desc := "(I)V" }
theorem k405 : (Jvm.Cond.code ({ cls := "java/lang/AbstractStringBuilder", name := "ensureCapacityInternal", desc := "(I)V" } : Jvm.MethodName) prog_16_method_9_code (3 : Nat) (Option.none : Option Jvm.ClassFile.FieldType)) ∈ TB := tk_2 165 rfl rfl
theorem k402 : (Jvm.Cond.methodLink "java/lang/AbstractStringBuilder" (100 : Nat) ({ cls := "java/lang/AbstractStringBuilder", name := "ensureCapacityInternal", desc := "(I)V" } : Jvm.MethodName)) ∈ TB := tk_2 162 rfl rfl
theorem k404 : (Jvm.Cond.instanceMethod ({ cls := "java/lang/AbstractStringBuilder", name := "ensureCapacityInternal", desc := "(I)V" } : Jvm.MethodName)) ∈ TB := tk_2 164 rfl rfl
theorem k1655 : (Jvm.Cond.sameMethod "java/lang/AbstractStringBuilder" "java/lang/AbstractStringBuilder" "ensureCapacityInternal" "(I)V") ∈ TB := tk_7 215 rfl rfl
theorem d16_13_18 : decode prog_16_method_13_code 18 = .ok (.aload_n 0, 1) := by decide +kernel
theorem d16_13_19 : decode prog_16_method_13_code 19 = .ok (.getfield 79, 3) := by decide +kernel
theorem d16_13_22 : decode prog_16_method_13_code 22 = .ok (.iload_n 1, 1) := by decide +kernel
theorem d16_13_23 : decode prog_16_method_13_code 23 = .ok (.if_icmp .ge 40, 3) := by decide +kernel
theorem d16_13_63 : decode prog_16_method_13_code 63 = .ok (.aload_n 0, 1) := by decide +kernel
theorem d16_13_64 : decode prog_16_method_13_code 64 = .ok (.getfield 79, 3) := by decide +kernel
theorem d16_13_67 : decode prog_16_method_13_code 67 = .ok (.iload_n 1, 1) := by decide +kernel
theorem d16_13_68 : decode prog_16_method_13_code 68 = .ok (.if_icmp .le 8, 3) := by decide +kernel
theorem d16_13_71 : decode prog_16_method_13_code 71 = .ok (.aload_n 0, 1) := by decide +kernel
theorem d16_13_72 : decode prog_16_method_13_code 72 = .ok (.iconst 1, 1) := by decide +kernel
theorem d16_13_73 : decode prog_16_method_13_code 73 = .ok (.putfield 73, 3) := by decide +kernel
theorem k61 : (Jvm.Cond.fieldLink "java/lang/AbstractStringBuilder" (73 : Nat) "java/lang/AbstractStringBuilder" "maybeLatin1" "Z") ∈ TB := tk_1 61 rfl rfl
theorem d16_13_26 : decode prog_16_method_13_code 26 = .ok (.aload_n 0, 1) := by decide +kernel
theorem d16_13_27 : decode prog_16_method_13_code 27 = .ok (.invokevirtual 83, 3) := by decide +kernel
theorem d16_68_0 : decode prog_16_method_68_code 0 = .ok (.getstatic 18, 3) := by decide +kernel
theorem d16_68_3 : decode prog_16_method_68_code 3 = .ok (.ifCond .eq 14, 3) := by decide +kernel
theorem d16_68_6 : decode prog_16_method_68_code 6 = .ok (.aload_n 0, 1) := by decide +kernel
theorem d16_68_7 : decode prog_16_method_68_code 7 = .ok (.getfield 22, 3) := by decide +kernel
theorem d16_68_10 : decode prog_16_method_68_code 10 = .ok (.ifCond .ne 7, 3) := by decide +kernel
theorem d16_68_17 : decode prog_16_method_68_code 17 = .ok (.iconst 0, 1) := by decide +kernel
theorem d16_68_13 : decode prog_16_method_68_code 13 = .ok (.iconst 1, 1) := by decide +kernel
theorem d16_68_14 : decode prog_16_method_68_code 14 = .ok (.goto 4, 3) := by decide +kernel
theorem d16_68_18 : decode prog_16_method_68_code 18 = .ok (.ireturn, 1) := by decide +kernel
def y16_68 : MethodName := { cls := "java/lang/AbstractStringBuilder", name := "isLatin1", desc := "()Z" }
theorem k441 : (Jvm.Cond.code ({ cls := "java/lang/AbstractStringBuilder", name := "isLatin1", desc := "()Z" } : Jvm.MethodName) prog_16_method_68_code (1 : Nat) (Option.some Jvm.ClassFile.FieldType.boolean)) ∈ TB := tk_2 201 rfl rfl
theorem k437 : (Jvm.Cond.methodLink "java/lang/AbstractStringBuilder" (83 : Nat) ({ cls := "java/lang/AbstractStringBuilder", name := "isLatin1", desc := "()Z" } : Jvm.MethodName)) ∈ TB := tk_2 197 rfl rfl
theorem k438 : (Jvm.Cond.instanceMethod ({ cls := "java/lang/AbstractStringBuilder", name := "isLatin1", desc := "()Z" } : Jvm.MethodName)) ∈ TB := tk_2 198 rfl rfl
theorem k439 : (Jvm.Cond.sameMethod "java/lang/AbstractStringBuilder" "java/lang/AbstractStringBuilder" "isLatin1" "()Z") ∈ TB := tk_2 199 rfl rfl
theorem d16_13_30 : decode prog_16_method_13_code 30 = .ok (.ifCond .eq 18, 3) := by decide +kernel
theorem d16_13_48 : decode prog_16_method_13_code 48 = .ok (.aload_n 0, 1) := by decide +kernel
theorem d16_13_49 : decode prog_16_method_13_code 49 = .ok (.getfield 15, 3) := by decide +kernel
theorem d16_13_52 : decode prog_16_method_13_code 52 = .ok (.aload_n 0, 1) := by decide +kernel
theorem d16_13_53 : decode prog_16_method_13_code 53 = .ok (.getfield 79, 3) := by decide +kernel
theorem d16_13_56 : decode prog_16_method_13_code 56 = .ok (.iload_n 1, 1) := by decide +kernel
theorem d16_13_33 : decode prog_16_method_13_code 33 = .ok (.aload_n 0, 1) := by decide +kernel
theorem d16_13_34 : decode prog_16_method_13_code 34 = .ok (.getfield 15, 3) := by decide +kernel
theorem d16_13_37 : decode prog_16_method_13_code 37 = .ok (.aload_n 0, 1) := by decide +kernel
theorem d16_13_38 : decode prog_16_method_13_code 38 = .ok (.getfield 79, 3) := by decide +kernel
theorem d16_13_41 : decode prog_16_method_13_code 41 = .ok (.iload_n 1, 1) := by decide +kernel
theorem d16_13_42 : decode prog_16_method_13_code 42 = .ok (.invokestatic 133, 3) := by decide +kernel
theorem d23_48_0 : decode prog_23_method_48_code 0 = .ok (.aload_n 0, 1) := by decide +kernel
theorem d23_48_1 : decode prog_23_method_48_code 1 = .ok (.iload_n 1, 1) := by decide +kernel
theorem d23_48_2 : decode prog_23_method_48_code 2 = .ok (.iload_n 2, 1) := by decide +kernel
theorem d23_48_3 : decode prog_23_method_48_code 3 = .ok (.iconst 0, 1) := by decide +kernel
theorem d23_48_4 : decode prog_23_method_48_code 4 = .ok (.invokestatic 236, 3) := by decide +kernel
theorem d26_110_0 : decode prog_26_method_110_code 0 = .ok (.aload_n 0, 1) := by decide +kernel
theorem d26_110_1 : decode prog_26_method_110_code 1 = .ok (.arraylength, 1) := by decide +kernel
theorem d26_110_2 : decode prog_26_method_110_code 2 = .ok (.iload_n 1, 1) := by decide +kernel
theorem d26_110_3 : decode prog_26_method_110_code 3 = .ok (.iload_n 2, 1) := by decide +kernel
theorem d26_110_4 : decode prog_26_method_110_code 4 = .ok (.invokestatic 13, 3) := by decide +kernel
theorem d26_30_0 : decode prog_26_method_30_code 0 = .ok (.iload_n 1, 1) := by decide +kernel
theorem d26_30_1 : decode prog_26_method_30_code 1 = .ok (.iload_n 2, 1) := by decide +kernel
theorem d26_30_2 : decode prog_26_method_30_code 2 = .ok (.if_icmp .le 44, 3) := by decide +kernel
theorem d26_30_46 : decode prog_26_method_30_code 46 = .ok (.iload_n 1, 1) := by decide +kernel
theorem d26_30_47 : decode prog_26_method_30_code 47 = .ok (.ifCond .ge 12, 3) := by decide +kernel
theorem d26_30_59 : decode prog_26_method_30_code 59 = .ok (.iload_n 2, 1) := by decide +kernel
theorem d26_30_60 : decode prog_26_method_30_code 60 = .ok (.iload_n 0, 1) := by decide +kernel
theorem d26_30_61 : decode prog_26_method_30_code 61 = .ok (.if_icmp .le 12, 3) := by decide +kernel
theorem d26_30_73 : decode prog_26_method_30_code 73 = .ok (.return_, 1) := by decide +kernel
def y26_30 : MethodName := { cls := "java/util/Arrays", name := "rangeCheck", desc := "(III)V" }
theorem k450 : (Jvm.Cond.code ({ cls := "java/util/Arrays", name := "rangeCheck", desc := "(III)V" } : Jvm.MethodName) prog_26_method_30_code (3 : Nat) (Option.none : Option Jvm.ClassFile.FieldType)) ∈ TB := tk_2 210 rfl rfl
theorem k448 : (Jvm.Cond.methodLink "java/util/Arrays" (13 : Nat) ({ cls := "java/util/Arrays", name := "rangeCheck", desc := "(III)V" } : Jvm.MethodName)) ∈ TB := tk_2 208 rfl rfl
theorem k449 : (Jvm.Cond.static ({ cls := "java/util/Arrays", name := "rangeCheck", desc := "(III)V" } : Jvm.MethodName)) ∈ TB := tk_2 209 rfl rfl
theorem d26_110_7 : decode prog_26_method_110_code 7 = .ok (.iload_n 1, 1) := by decide +kernel
theorem d26_110_8 : decode prog_26_method_110_code 8 = .ok (.istore 4, 2) := by decide +kernel
theorem d26_110_27 : decode prog_26_method_110_code 27 = .ok (.return_, 1) := by decide +kernel
theorem d26_110_10 : decode prog_26_method_110_code 10 = .ok (.iload 4, 2) := by decide +kernel
theorem d26_110_12 : decode prog_26_method_110_code 12 = .ok (.iload_n 2, 1) := by decide +kernel
theorem d26_110_13 : decode prog_26_method_110_code 13 = .ok (.if_icmp .ge 14, 3) := by decide +kernel
theorem d26_110_16 : decode prog_26_method_110_code 16 = .ok (.aload_n 0, 1) := by decide +kernel
theorem d26_110_17 : decode prog_26_method_110_code 17 = .ok (.iload 4, 2) := by decide +kernel
theorem d26_110_19 : decode prog_26_method_110_code 19 = .ok (.iload_n 3, 1) := by decide +kernel
theorem d26_110_20 : decode prog_26_method_110_code 20 = .ok (.bastore, 1) := by decide +kernel
theorem d26_110_21 : decode prog_26_method_110_code 21 = .ok (.iinc 4 1, 3) := by decide +kernel
theorem d26_110_24 : decode prog_26_method_110_code 24 = .ok (.goto (-14), 3) := by decide +kernel
def y26_110 : MethodName := { cls := "java/util/Arrays", name := "fill", desc := "([BIIB)V" }
theorem k447 : (Jvm.Cond.code ({ cls := "java/util/Arrays", name := "fill", desc := "([BIIB)V" } : Jvm.MethodName) prog_26_method_110_code (5 : Nat) (Option.none : Option Jvm.ClassFile.FieldType)) ∈ TB := tk_2 207 rfl rfl
theorem k445 : (Jvm.Cond.methodLink "java/lang/StringLatin1" (236 : Nat) ({ cls := "java/util/Arrays", name := "fill", desc := "([BIIB)V" } : Jvm.MethodName)) ∈ TB := tk_2 205 rfl rfl
theorem k446 : (Jvm.Cond.static ({ cls := "java/util/Arrays", name := "fill", desc := "([BIIB)V" } : Jvm.MethodName)) ∈ TB := tk_2 206 rfl rfl
theorem d23_48_7 : decode prog_23_method_48_code 7 = .ok (.return_, 1) := by decide +kernel
def y23_48 : MethodName := { cls := "java/lang/StringLatin1", name := "fillNull", desc := "([BII)V" }
theorem k444 : (Jvm.Cond.code ({ cls := "java/lang/StringLatin1", name := "fillNull", desc := "([BII)V" } : Jvm.MethodName) prog_23_method_48_code (3 : Nat) (Option.none : Option Jvm.ClassFile.FieldType)) ∈ TB := tk_2 204 rfl rfl
theorem k442 : (Jvm.Cond.methodLink "java/lang/AbstractStringBuilder" (133 : Nat) ({ cls := "java/lang/StringLatin1", name := "fillNull", desc := "([BII)V" } : Jvm.MethodName)) ∈ TB := tk_2 202 rfl rfl
theorem k443 : (Jvm.Cond.static ({ cls := "java/lang/StringLatin1", name := "fillNull", desc := "([BII)V" } : Jvm.MethodName)) ∈ TB := tk_2 203 rfl rfl
theorem d16_13_45 : decode prog_16_method_13_code 45 = .ok (.goto 31, 3) := by decide +kernel
theorem d16_13_76 : decode prog_16_method_13_code 76 = .ok (.aload_n 0, 1) := by decide +kernel
theorem d16_13_77 : decode prog_16_method_13_code 77 = .ok (.iload_n 1, 1) := by decide +kernel
theorem d16_13_78 : decode prog_16_method_13_code 78 = .ok (.putfield 79, 3) := by decide +kernel
theorem d16_13_81 : decode prog_16_method_13_code 81 = .ok (.return_, 1) := by decide +kernel
def y16_13 : MethodName := { cls := "java/lang/AbstractStringBuilder", name := "setLength", desc := "(I)V" }
theorem k401 : (Jvm.Cond.code ({ cls := "java/lang/AbstractStringBuilder", name := "setLength", desc := "(I)V" } : Jvm.MethodName) prog_16_method_13_code (2 : Nat) (Option.none : Option Jvm.ClassFile.FieldType)) ∈ TB := tk_2 161 rfl rfl
theorem k399 : (Jvm.Cond.methodLink "java/lang/StringBuilder" (333 : Nat) ({ cls := "java/lang/AbstractStringBuilder", name := "setLength", desc := "(I)V" } : Jvm.MethodName)) ∈ TB := tk_2 159 rfl rfl
theorem k400 : (Jvm.Cond.instanceMethod ({ cls := "java/lang/AbstractStringBuilder", name := "setLength", desc := "(I)V" } : Jvm.MethodName)) ∈ TB := tk_2 160 rfl rfl
theorem k1654 : (Jvm.Cond.sameMethod "java/lang/AbstractStringBuilder" "java/lang/AbstractStringBuilder" "setLength" "(I)V") ∈ TB := tk_7 214 rfl rfl
theorem d22_89_5 : decode prog_22_method_89_code 5 = .ok (.return_, 1) := by decide +kernel
def y22_89 : MethodName := { cls := "java/lang/StringBuilder", name := "setLength", desc := "(I)V" }
def c_ArraysSupport_newLength (Zd : Nat → Nat) (K : KE) (a0 : Int32) (a1 : Int32) (a2 : Int32) (st : CS) : Option (Int32) := (some (if a1 < a2 then a2 else a1)).bind fun y11 => (some (a0 + y11)).bind fun y12 => if y12 ≤ (0 : Int32) then none else (if (2147483639 : Int32) < y12 then none else (some y12))
set_option maxHeartbeats 4000000 in
set_option maxRecDepth 100000 in
theorem cc_ArraysSupport_newLength (l : Launch) (G : Gk) (Zd : Nat → Nat) (K : KE) (a0 : Int32) (a1 : Int32) (a2 : Int32) (st : CS) (r0 : Int32) (hm : c_ArraysSupport_newLength Zd K a0 a1 a2 st = some r0) : CT l y27_27 prog_27_method_27_code 4 (some .int) G Zd K (1) [.int a0, .int a1, .int a2] st (hI G Zd r0 st) := by
  refine goH (d := 1) (y := y27_27) (cc := prog_27_method_27_code) (maxL := 4) (ret := (some .int)) (av := [.int a0, .int a1, .int a2]) (Qc := hI G Zd r0 st) "jdk/internal/util/ArraysSupport" rfl (by decide) (c1_c rfl (c1_c rfl (c1_c rfl c1_n))) (Nat.le_of_ble_eq_true rfl) ?_
  intro p e s m below meth c ls A args Q hQ hx hb hr hlk hml hown hts hin hl hE hw
  have hl : lw ls 4 [(0, .int a0), (1, .int a1), (2, .int a2)] := hl
  have hZ := hE.2.2.1
  have h := hm
  clear hm
  refine lv_iload_n hx hb d27_27_0 rfl (lv_at hl.1 0 rfl) ?_
  refine lv_iload_n hx hb d27_27_1 rfl (lv_at hl.1 1 rfl) ?_
  refine lv_iload_n hx hb d27_27_2 rfl (lv_at hl.1 2 rfl) ?_
  refine xmax (x := a1) (y := a2) (rest := [.int a0]) hx hb (by rw [hml]; exact hl.1.1.symm) hown (hts _ (List.mem_cons_of_mem _ k413)) (hts _ (List.mem_cons_of_mem _ k414)) (hts _ (List.mem_cons_of_mem _ k20)) (hts _ (List.mem_cons_of_mem _ kmax)) hE hw (show 1 ≤ 1 by omega) (by rw [c1_sum (c1_c rfl c1_n)]; show 1 + 13 ≤ 64 * (1); omega) d27_27_3 (fun cells slots => ?_)
  obtain ⟨y11, hr, h⟩ := ob h
  refine lv_topi (fun y9 ey => ?_)
  have e9 := ey.trans (Option.some.inj hr)
  clear ey
  subst y9
  clear hr
  refine lv_iadd hx hb d27_27_6 ?_
  obtain ⟨y12, hr, h⟩ := ob h
  refine lv_topi (fun y9 ey => ?_)
  have e9 := ey.trans (Option.some.inj hr)
  clear ey
  subst y9
  clear hr
  refine xt_istore_n (x := y12) (lv' := [(3, .int y12), (0, .int a0), (1, .int a1), (2, .int a2)]) hx hb d27_27_7 rfl hl (by decide) rfl (fun ls hl => ?_)
  refine lv_iconst (v := 0) hx hb d27_27_8 (by decide) ?_
  refine lv_iload_n hx hb d27_27_9 rfl (lv_at hl.1 0 rfl) ?_
  refine lv_icmp_ge (tgt := 21) hx hb d27_27_10 rfl (fun c13 => ?_) (fun c13 => ?_)
  ·
    replace h := (if_pos c13).symm.trans h
    refine lv_iload_n hx hb d27_27_21 rfl (lv_at hl.1 1 rfl) ?_
    refine lv_iload_n hx hb d27_27_22 rfl (lv_at hl.1 2 rfl) ?_
    cases h
  ·
    replace h := (if_neg c13).symm.trans h
    refine lv_iload_n hx hb d27_27_13 rfl (lv_at hl.1 0 rfl) ?_
    refine lv_ldc (v := 2147483639) hx hb hown (hts _ (List.mem_cons_of_mem _ k416)) d27_27_14 ?_
    refine lv_icmp_gt (tgt := 21) hx hb d27_27_16 rfl (fun c14 => ?_) (fun c14 => ?_)
    ·
      replace h := (if_pos c14).symm.trans h
      refine lv_iload_n hx hb d27_27_21 rfl (lv_at hl.1 1 rfl) ?_
      refine lv_iload_n hx hb d27_27_22 rfl (lv_at hl.1 2 rfl) ?_
      cases h
    ·
      replace h := (if_neg c14).symm.trans h
      refine lv_iload_n hx hb d27_27_19 rfl (lv_at hl.1 0 rfl) ?_
      cases h
      exact finH_i hQ hx hb hr hlk hE hw d27_27_20
def c_AbstractStringBuilder_newCapacity (Zd : Nat → Nat) (K : KE) (o : Nat) (a0 : Int32) (st : CS) : Option (Int32) := (gQ K st o 2 0).bind fun x11 => x11.bind fun a12z => (lA K st a12z 2).bind fun n13 => (some (Int32.ofNat n13)).bind fun x14 => (gI K st o 2 1).bind fun x15 => (some (a0 <<< (x15 &&& 31))).bind fun y16 => (some (y16 - x14)).bind fun y17 => (gI K st o 2 1).bind fun x18 => (some ((2 : Int32) <<< (x18 &&& 31))).bind fun y19 => (some (x14 + y19)).bind fun y20 => (c_ArraysSupport_newLength Zd K x14 y17 y20 st).bind fun x21 => if x21 = (2147483647 : Int32) then none else ((gI K st o 2 1).bind fun x25 => (some (x21 >>> (x25 &&& 31))).bind fun y26 => some y26)
set_option maxHeartbeats 4000000 in
set_option maxRecDepth 100000 in
theorem cc_AbstractStringBuilder_newCapacity (l : Launch) (G : Gk) (Zd : Nat → Nat) (K : KE) (o : Nat) (a0 : Int32) (st : CS) (r0 : Int32) (hm : c_AbstractStringBuilder_newCapacity Zd K o a0 st = some r0) : CT l y16_10 prog_16_method_10_code 6 (some .int) G Zd K (2) [.ref o, .int a0] st (hI G Zd r0 st) := by
  refine goH (d := 2) (y := y16_10) (cc := prog_16_method_10_code) (maxL := 6) (ret := (some .int)) (av := [.ref o, .int a0]) (Qc := hI G Zd r0 st) "java/lang/AbstractStringBuilder" rfl (by decide) (c1_c rfl (c1_c rfl c1_n)) (Nat.le_of_ble_eq_true rfl) ?_
  intro p e s m below meth c ls A args Q hQ hx hb hr hlk hml hown hts hin hl hE hw
  have hl : lw ls 6 [(0, .ref o), (1, .int a0)] := hl
  have hZ := hE.2.2.1
  have h := hm
  clear hm
  refine lv_aload_n hx hb d16_10_0 rfl (lv_at hl.1 0 rfl) ?_
  obtain ⟨x11, hr, h⟩ := ob h
  refine xg_q (ci := 2) (C := r_2) (T := f_2) (N := 4) (ref := "java/lang/AbstractStringBuilder") hx hb hts (fun w h => List.mem_cons_of_mem _ (ly_2 w h)) hown hE hw rfl 0 (by decide) (hts _ (List.mem_cons_of_mem _ k59)) (fun _ h9 => h9) hr d16_10_1 ?_
  clear hr
  obtain ⟨a12z, hn12, h⟩ := ob h
  have hn12 : x11 = some a12z := hn12
  refine W.eq (g2 := F0 m 4 ls [.ref a12z]) (by rw [hn12]; rfl) ?_
  obtain ⟨n13, hr, h⟩ := ob h
  obtain ⟨x14, hr2, h⟩ := ob h
  refine xl hx hb hE hw (t := 2) rfl hr hr2 d16_10_4 ?_
  clear hr hr2
  refine xt_istore_n (x := x14) (lv' := [(2, .int x14), (0, .ref o), (1, .int a0)]) hx hb d16_10_5 rfl hl (by decide) rfl (fun ls hl => ?_)
  refine lv_iload_n hx hb d16_10_6 rfl (lv_at hl.1 2 rfl) ?_
  refine lv_aload_n hx hb d16_10_7 rfl (lv_at hl.1 1 rfl) ?_
  obtain ⟨x15, hr, h⟩ := ob h
  refine xg_i (ci := 2) (C := r_2) (T := f_2) (N := 4) (ref := "java/lang/AbstractStringBuilder") hx hb hts (fun w h => List.mem_cons_of_mem _ (ly_2 w h)) hown hE hw rfl 1 (by decide) (hts _ (List.mem_cons_of_mem _ k60)) (fun _ h9 => h9) hr d16_10_8 ?_
  clear hr
  refine lv_ishl hx hb d16_10_11 ?_
  obtain ⟨y16, hr, h⟩ := ob h
  refine lv_topi (fun y9 ey => ?_)
  have e9 := ey.trans (Option.some.inj hr)
  clear ey
  subst y9
  clear hr
  refine xt_istore_n (x := y16) (lv' := [(3, .int y16), (2, .int x14), (0, .ref o), (1, .int a0)]) hx hb d16_10_12 rfl hl (by decide) rfl (fun ls hl => ?_)
  refine lv_iload_n hx hb d16_10_13 rfl (lv_at hl.1 0 rfl) ?_
  refine lv_iload_n hx hb d16_10_14 rfl (lv_at hl.1 1 rfl) ?_
  refine lv_isub hx hb d16_10_15 ?_
  obtain ⟨y17, hr, h⟩ := ob h
  refine lv_topi (fun y9 ey => ?_)
  have e9 := ey.trans (Option.some.inj hr)
  clear ey
  subst y9
  clear hr
  refine xt_istore (x := y17) (lv' := [(4, .int y17), (3, .int y16), (2, .int x14), (0, .ref o), (1, .int a0)]) hx hb d16_10_16 hl (by decide) rfl (fun ls hl => ?_)
  refine lv_iload_n hx hb d16_10_18 rfl (lv_at hl.1 2 rfl) ?_
  refine lv_iload hx hb d16_10_19 (lv_at hl.1 0 rfl) ?_
  refine lv_iload_n hx hb d16_10_21 rfl (lv_at hl.1 2 rfl) ?_
  refine lv_iconst (v := 2) hx hb d16_10_22 (by decide) ?_
  refine lv_aload_n hx hb d16_10_23 rfl (lv_at hl.1 3 rfl) ?_
  obtain ⟨x18, hr, h⟩ := ob h
  refine xg_i (ci := 2) (C := r_2) (T := f_2) (N := 4) (ref := "java/lang/AbstractStringBuilder") hx hb hts (fun w h => List.mem_cons_of_mem _ (ly_2 w h)) hown hE hw rfl 1 (by decide) (hts _ (List.mem_cons_of_mem _ k60)) (fun _ h9 => h9) hr d16_10_24 ?_
  clear hr
  refine lv_ishl hx hb d16_10_27 ?_
  obtain ⟨y19, hr, h⟩ := ob h
  refine lv_topi (fun y9 ey => ?_)
  have e9 := ey.trans (Option.some.inj hr)
  clear ey
  subst y9
  clear hr
  refine lv_iadd hx hb d16_10_28 ?_
  obtain ⟨y20, hr, h⟩ := ob h
  refine lv_topi (fun y9 ey => ?_)
  have e9 := ey.trans (Option.some.inj hr)
  clear ey
  subst y9
  clear hr
  obtain ⟨x21, hc, h⟩ := ob h
  refine hS_i (As := [.int x14, .int y17, .int y20]) (rest := []) ⟨hx, hb, hml, hown, hts⟩ (cc_ArraysSupport_newLength l G Zd K x14 y17 y20 st x21 hc) (kw_S (n := 3) hts k412 k410 k19 k411 (by decide +kernel) ⟨Nat.le_of_ble_eq_true rfl, Nat.le_of_ble_eq_true rfl⟩) hE hw rfl hl.1.1 rfl (c1_8 c1_n (Nat.le_of_ble_eq_true rfl)) d16_10_29 (fun H locs cells slots hw => ?_)
  clear hc
  refine W.eq (g2 := F0 m 32 ls [.int x21]) rfl ?_
  refine xt_istore (x := x21) (lv' := [(5, .int x21), (4, .int y17), (3, .int y16), (2, .int x14), (0, .ref o), (1, .int a0)]) hx hb d16_10_32 hl (by decide) rfl (fun ls hl => ?_)
  refine lv_iload hx hb d16_10_34 (lv_at hl.1 0 rfl) ?_
  refine lv_ldc (v := 2147483647) hx hb hown (hts _ (List.mem_cons_of_mem _ k420)) d16_10_36 ?_
  refine lv_icmp_ne (tgt := 51) hx hb d16_10_38 rfl (fun c24 => ?_) (fun c24 => ?_)
  ·
    replace h := (if_neg c24).symm.trans h
    refine lv_iload hx hb d16_10_51 (lv_at hl.1 0 rfl) ?_
    refine lv_aload_n hx hb d16_10_53 rfl (lv_at hl.1 4 rfl) ?_
    obtain ⟨x25, hr, h⟩ := ob h
    refine xg_i (ci := 2) (C := r_2) (T := f_2) (N := 4) (ref := "java/lang/AbstractStringBuilder") hx hb hts (fun w h => List.mem_cons_of_mem _ (ly_2 w h)) hown hE hw rfl 1 (by decide) (hts _ (List.mem_cons_of_mem _ k60)) (fun _ h9 => h9) hr d16_10_54 ?_
    clear hr
    refine lv_ishr hx hb d16_10_57 ?_
    obtain ⟨y26, hr, h⟩ := ob h
    refine lv_topi (fun y9 ey => ?_)
    have e9 := ey.trans (Option.some.inj hr)
    clear ey
    subst y9
    clear hr
    cases h
    exact finH_i hQ hx hb hr hlk hE hw d16_10_58
  ·
    replace h := (if_pos c24).symm.trans h
    cases h
def c_Arrays_copyOf (Zd : Nat → Nat) (K : KE) (a0 : Option Nat) (a1 : Int32) (st : CS) : Option (Option Nat × CS) := a0.bind fun a11z => (lA K st a11z 2).bind fun n12 => (some (Int32.ofNat n12)).bind fun x13 => if a1 = x13 then none else ((some st.1.1).bind fun a15z => (nBc Zd st a1).bind fun st16 => (lA K st16 a11z 2).bind fun n17 => (some (Int32.ofNat n17)).bind fun x18 => (some (if a1 < x18 then a1 else x18)).bind fun y19 => (cpB K st16 a11z (0 : Int32) a15z (0 : Int32) y19).bind fun st20 => some (some a15z, st20))
set_option maxHeartbeats 4000000 in
set_option maxRecDepth 100000 in
theorem cc_Arrays_copyOf (l : Launch) (G : Gk) (Zd : Nat → Nat) (K : KE) (a0 : Option Nat) (a1 : Int32) (st : CS) (r0 : Option Nat) (st0 : CS) (hm : c_Arrays_copyOf Zd K a0 a1 st = some (r0, st0)) : CT l y26_121 prog_26_method_121_code 3 (some (.array .byte)) G Zd K (1) [va_rf a0, .int a1] st (hQ G Zd r0 st0) := by
  refine goH (d := 1) (y := y26_121) (cc := prog_26_method_121_code) (maxL := 3) (ret := (some (.array .byte))) (av := [va_rf a0, .int a1]) (Qc := hQ G Zd r0 st0) "java/util/Arrays" rfl (by decide) (c1_c (rf_cat _) (c1_c rfl c1_n)) (Nat.le_of_ble_eq_true rfl) ?_
  intro p e s m below meth c ls A args Q hQ hx hb hr hlk hml hown hts hin hl hE hw
  have hl : lw ls 3 [(0, va_rf a0), (1, .int a1)] := hl
  have hZ := hE.2.2.1
  have h := hm
  clear hm
  refine lv_iload_n hx hb d26_121_0 rfl (lv_at hl.1 1 rfl) ?_
  refine xq_aload_n (r := a0) hx hb d26_121_1 rfl (lv_at hl.1 0 rfl) ?_
  obtain ⟨a11z, hn11, h⟩ := ob h
  have hn11 : a0 = some a11z := hn11
  refine W.eq (g2 := F0 m 2 ls [.ref a11z, .int a1]) (by rw [hn11]; rfl) ?_
  obtain ⟨n12, hr, h⟩ := ob h
  obtain ⟨x13, hr2, h⟩ := ob h
  refine xl hx hb hE hw (t := 2) rfl hr hr2 d26_121_2 ?_
  clear hr hr2
  refine lv_icmp_ne (tgt := 14) hx hb d26_121_3 rfl (fun c14 => ?_) (fun c14 => ?_)
  ·
    replace h := (if_neg c14).symm.trans h
    refine lv_iload_n hx hb d26_121_14 rfl (lv_at hl.1 1 rfl) ?_
    obtain ⟨a15z, hr, h⟩ := ob h
    obtain ⟨st16, hr2, h⟩ := ob h
    refine xb hx hb (hts _ (List.mem_cons_of_mem _ k74)) hE hw (n := a1) hr hr2 d26_121_15 (fun H cells slots hw => ?_)
    clear hr hr2
    refine xt_astore_n (r := some a15z) (lv' := [(2, .ref a15z), (0, va_rf a0), (1, .int a1)]) hx hb d26_121_17 rfl hl (by decide) rfl (fun ls hl => ?_)
    refine xq_aload_n (r := a0) hx hb d26_121_18 rfl (lv_at hl.1 1 rfl) ?_
    refine lv_iconst (v := 0) hx hb d26_121_19 (by decide) ?_
    refine lv_aload_n hx hb d26_121_20 rfl (lv_at hl.1 0 rfl) ?_
    refine lv_iconst (v := 0) hx hb d26_121_21 (by decide) ?_
    refine xq_aload_n (r := a0) hx hb d26_121_22 rfl (lv_at hl.1 1 rfl) ?_
    refine W.eq (g2 := F0 m 23 ls [.ref a11z, .int 0, .ref a15z, .int 0, va_rf a0]) (by rw [hn11]; rfl) ?_
    obtain ⟨n17, hr, h⟩ := ob h
    obtain ⟨x18, hr2, h⟩ := ob h
    refine xl hx hb hE hw (t := 2) rfl hr hr2 d26_121_23 ?_
    clear hr hr2
    refine lv_iload_n hx hb d26_121_24 rfl (lv_at hl.1 2 rfl) ?_
    refine xmin (x := x18) (y := a1) (rest := [.int 0, .ref a15z, .int 0, va_rf a0]) hx hb (by rw [hml]; exact hl.1.1.symm) hown (hts _ (List.mem_cons_of_mem _ k431)) (hts _ (List.mem_cons_of_mem _ k432)) (hts _ (List.mem_cons_of_mem _ k20)) (hts _ (List.mem_cons_of_mem _ kmin)) hE hw (show 1 ≤ 1 by omega) (by rw [c1_sum (c1_c rfl (c1_c rfl (c1_c rfl (c1_c (rf_cat _) c1_n))))]; show 4 + 13 ≤ 64 * (1); omega) d26_121_25 (fun cells slots => ?_)
    obtain ⟨y19, hr, h⟩ := ob h
    refine lv_topi (fun y9 ey => ?_)
    have e9 := ey.trans (Option.some.inj hr)
    clear ey
    subst y9
    clear hr
    refine W.eq (g2 := F0 m 28 ls [.int y19, .int 0, .ref a15z, .int 0, .ref a11z]) (by rw [hn11]; rfl) ?_
    obtain ⟨st20, hr, h⟩ := ob h
    refine xc (rest := []) hx hb (by rw [hml]; exact hl.1.1.symm) hown (hts _ (List.mem_cons_of_mem _ k434)) (hts _ (List.mem_cons_of_mem _ k436)) (hts _ (List.mem_cons_of_mem _ k435)) (hts _ (List.mem_cons_of_mem _ k22)) hE hw (sp := (0 : Int32)) (dp := (0 : Int32)) (n := y19) hr (Nat.le_of_ble_eq_true rfl) (by show _ ≤ 64 * (1); decide +kernel) d26_121_28 (fun H locs hw => ?_)
    clear hr
    refine lv_aload_n hx hb d26_121_31 rfl (lv_at hl.1 0 rfl) ?_
    cases h
    exact finH_q hQ hx hb hr hlk rfl (Or.inr ⟨_, rfl⟩) hE hw d26_121_32
  ·
    replace h := (if_pos c14).symm.trans h
    refine xq_aload_n (r := a0) hx hb d26_121_6 rfl (lv_at hl.1 0 rfl) ?_
    cases h
def c_AbstractStringBuilder_ensureCapacityInternal (Zd : Nat → Nat) (K : KE) (o : Nat) (a0 : Int32) (st : CS) : Option (CS) := (gQ K st o 2 0).bind fun x11 => x11.bind fun a12z => (lA K st a12z 2).bind fun n13 => (some (Int32.ofNat n13)).bind fun x14 => (gI K st o 2 1).bind fun x15 => (some (x14 >>> (x15 &&& 31))).bind fun y16 => (some (a0 - y16)).bind fun y17 => (if y17 ≤ (0 : Int32) then (some st) else ((gQ K st o 2 0).bind fun x21 => (isO K st o 2).bind fun _ => (c_AbstractStringBuilder_newCapacity Zd K o a0 st).bind fun x22 => (gI K st o 2 1).bind fun x25 => (some (x22 <<< (x25 &&& 31))).bind fun y26 => (c_Arrays_copyOf Zd K x21 y26 st).bind fun r29 => (sF r29.2 o 2 0 (va_rf r29.1)).bind fun st30 => some st30)).bind fun e18 => some e18
set_option maxHeartbeats 4000000 in
set_option maxRecDepth 100000 in
theorem cc_AbstractStringBuilder_ensureCapacityInternal (l : Launch) (G : Gk) (Zd : Nat → Nat) (K : KE) (o : Nat) (a0 : Int32) (st : CS) (st0 : CS) (hm : c_AbstractStringBuilder_ensureCapacityInternal Zd K o a0 st = some st0) : CT l y16_9 prog_16_method_9_code 3 none G Zd K (3) [.ref o, .int a0] st (hV G Zd st0) := by
  refine goH (d := 3) (y := y16_9) (cc := prog_16_method_9_code) (maxL := 3) (ret := none) (av := [.ref o, .int a0]) (Qc := hV G Zd st0) "java/lang/AbstractStringBuilder" rfl (by decide) (c1_c rfl (c1_c rfl c1_n)) (Nat.le_of_ble_eq_true rfl) ?_
  intro p e s m below meth c ls A args Q hQ hx hb hr hlk hml hown hts hin hl hE hw
  have hl : lw ls 3 [(0, .ref o), (1, .int a0)] := hl
  have hZ := hE.2.2.1
  have h := hm
  clear hm
  refine lv_aload_n hx hb d16_9_0 rfl (lv_at hl.1 0 rfl) ?_
  obtain ⟨x11, hr, h⟩ := ob h
  refine xg_q (ci := 2) (C := r_2) (T := f_2) (N := 4) (ref := "java/lang/AbstractStringBuilder") hx hb hts (fun w h => List.mem_cons_of_mem _ (ly_2 w h)) hown hE hw rfl 0 (by decide) (hts _ (List.mem_cons_of_mem _ k59)) (fun _ h9 => h9) hr d16_9_1 ?_
  clear hr
  obtain ⟨a12z, hn12, h⟩ := ob h
  have hn12 : x11 = some a12z := hn12
  refine W.eq (g2 := F0 m 4 ls [.ref a12z]) (by rw [hn12]; rfl) ?_
  obtain ⟨n13, hr, h⟩ := ob h
  obtain ⟨x14, hr2, h⟩ := ob h
  refine xl hx hb hE hw (t := 2) rfl hr hr2 d16_9_4 ?_
  clear hr hr2
  refine lv_aload_n hx hb d16_9_5 rfl (lv_at hl.1 0 rfl) ?_
  obtain ⟨x15, hr, h⟩ := ob h
  refine xg_i (ci := 2) (C := r_2) (T := f_2) (N := 4) (ref := "java/lang/AbstractStringBuilder") hx hb hts (fun w h => List.mem_cons_of_mem _ (ly_2 w h)) hown hE hw rfl 1 (by decide) (hts _ (List.mem_cons_of_mem _ k60)) (fun _ h9 => h9) hr d16_9_6 ?_
  clear hr
  refine lv_ishr hx hb d16_9_9 ?_
  obtain ⟨y16, hr, h⟩ := ob h
  refine lv_topi (fun y9 ey => ?_)
  have e9 := ey.trans (Option.some.inj hr)
  clear ey
  subst y9
  clear hr
  refine xt_istore_n (x := y16) (lv' := [(2, .int y16), (0, .ref o), (1, .int a0)]) hx hb d16_9_10 rfl hl (by decide) rfl (fun ls hl => ?_)
  refine lv_iload_n hx hb d16_9_11 rfl (lv_at hl.1 2 rfl) ?_
  refine lv_iload_n hx hb d16_9_12 rfl (lv_at hl.1 0 rfl) ?_
  refine lv_isub hx hb d16_9_13 ?_
  obtain ⟨y17, hr, h⟩ := ob h
  refine lv_topi (fun y9 ey => ?_)
  have e9 := ey.trans (Option.some.inj hr)
  clear ey
  subst y9
  clear hr
  obtain ⟨e18, hX, h⟩ := ob h
  have hj : ∀ (H : Heap) (locs : List Loc) (cells slots : Nat) (ls : Array Slot), lw ls 3 [(0, .ref o), (1, .int a0), (2, .int y16)] → wsH G Zd A s e18 H locs → W p l e (rmH Zd (3) st.1) s m args below meth c H locs cells slots Q (F0 m 38 ls []) := by
    intro H locs cells slots ls hl hw
    cases h
    exact finH_v hQ hx hb hr hlk hE hw d16_9_38
  clear h
  refine lv_if_le (tgt := 38) hx hb d16_9_14 rfl (fun c20 => ?_) (fun c20 => ?_)
  ·
    replace h := (if_pos c20).symm.trans hX
    have e9 := Option.some.inj h
    subst e18
    have hl := lw_sub hl (l' := [(0, .ref o), (1, .int a0), (2, .int y16)]) [1, 2, 0] rfl
    exact hj _ _ _ _ _ hl hw
  ·
    replace h := (if_neg c20).symm.trans hX
    refine lv_aload_n hx hb d16_9_17 rfl (lv_at hl.1 1 rfl) ?_
    refine lv_aload_n hx hb d16_9_18 rfl (lv_at hl.1 1 rfl) ?_
    obtain ⟨x21, hr, h⟩ := ob h
    refine xg_q (ci := 2) (C := r_2) (T := f_2) (N := 4) (ref := "java/lang/AbstractStringBuilder") hx hb hts (fun w h => List.mem_cons_of_mem _ (ly_2 w h)) hown hE hw rfl 0 (by decide) (hts _ (List.mem_cons_of_mem _ k59)) (fun _ h9 => h9) hr d16_9_19 ?_
    clear hr
    refine lv_aload_n hx hb d16_9_22 rfl (lv_at hl.1 1 rfl) ?_
    refine lv_iload_n hx hb d16_9_23 rfl (lv_at hl.1 2 rfl) ?_
    obtain ⟨u9, ho, h⟩ := ob h
    obtain ⟨x22, hc, h⟩ := ob h
    refine hU_i (ci := 2) (As := [.int a0]) (rest := [va_rf x21, .ref o]) ⟨hx, hb, hml, hown, hts⟩ (cc_AbstractStringBuilder_newCapacity l G Zd K o a0 st x22 hc) (kw_U (n := 1) (C := "java/lang/StringBuilder") (owner := "java/lang/AbstractStringBuilder") (x0 := y16_10) hts k409 k406 k3 k408 k1656 (sel_priv (hts _ (List.mem_cons_of_mem _ k440)) rfl (hZ.2.2.2 _ (List.mem_of_getElem? (i := 1) rfl)) (hts _ (List.mem_cons_of_mem _ k408)) (by decide)) (va_Decl.of (hts _ (List.mem_cons_of_mem _ k408)) (hts _ (List.mem_cons_of_mem _ k409))) (by decide +kernel) ⟨Nat.le_of_ble_eq_true rfl, Nat.le_of_ble_eq_true rfl⟩) hE hw rfl rfl ho rfl hl.1.1 rfl (c1_8 (c1_c (rf_cat _) (c1_c rfl c1_n)) (Nat.le_of_ble_eq_true rfl)) d16_9_24 (fun H locs cells slots hw => ?_)
    clear hc ho u9
    refine W.eq (g2 := F0 m 27 ls [.int x22, va_rf x21, .ref o]) rfl ?_
    refine lv_aload_n hx hb d16_9_27 rfl (lv_at hl.1 1 rfl) ?_
    obtain ⟨x25, hr, h⟩ := ob h
    refine xg_i (ci := 2) (C := r_2) (T := f_2) (N := 4) (ref := "java/lang/AbstractStringBuilder") hx hb hts (fun w h => List.mem_cons_of_mem _ (ly_2 w h)) hown hE hw rfl 1 (by decide) (hts _ (List.mem_cons_of_mem _ k60)) (fun _ h9 => h9) hr d16_9_28 ?_
    clear hr
    refine lv_ishl hx hb d16_9_31 ?_
    obtain ⟨y26, hr, h⟩ := ob h
    refine lv_topi (fun y9 ey => ?_)
    have e9 := ey.trans (Option.some.inj hr)
    clear ey
    subst y9
    clear hr
    obtain ⟨⟨x27, st28⟩, hc, h⟩ := ob h
    refine hS_q (As := [va_rf x21, .int y26]) (rest := [.ref o]) ⟨hx, hb, hml, hown, hts⟩ (cc_Arrays_copyOf l G Zd K x21 y26 st x27 st28 hc) (kw_S (n := 2) hts k423 k421 k21 k422 (by decide +kernel) ⟨Nat.le_of_ble_eq_true rfl, Nat.le_of_ble_eq_true rfl⟩) hE hw rfl hl.1.1 rfl (c1_8 (c1_c rfl c1_n) (Nat.le_of_ble_eq_true rfl)) d16_9_32 (fun H locs cells slots hw => ?_)
    clear hc
    refine W.eq (g2 := F0 m 35 ls [va_rf x27, .ref o]) rfl ?_
    obtain ⟨st30, hr, h⟩ := ob h
    refine xp (ci := 2) (ty := (ft_2 0)) (C := r_2) (T := f_2) (N := 4) (ref := "java/lang/AbstractStringBuilder") hx hb hts (fun w h => List.mem_cons_of_mem _ (ly_2 w h)) ft_2 ft_2_ok nm_2 hown hE hw rfl 0 (by decide) (hts _ (List.mem_cons_of_mem _ k59)) (fun _ h9 => h9) rfl hr (by decide +kernel) (rf_narA _) (rf_fitA _) d16_9_35 (fun H locs hw => ?_)
    clear hr
    have e9 := Option.some.inj h
    subst e18
    have hl := lw_sub hl (l' := [(0, .ref o), (1, .int a0), (2, .int y16)]) [1, 2, 0] rfl
    exact hj _ _ _ _ _ hl hw
def c_AbstractStringBuilder_isLatin1 (Zd : Nat → Nat) (K : KE) (o : Nat) (st : CS) : Option (Int32) := (gI K st o 2 1).bind fun x11 => (if x11 = (0 : Int32) then (some (1 : Int32)) else (some (0 : Int32))).bind fun e12 => (bz e12).bind fun _ => some e12
set_option maxHeartbeats 4000000 in
set_option maxRecDepth 100000 in
theorem cc_AbstractStringBuilder_isLatin1 (l : Launch) (G : Gk) (Zd : Nat → Nat) (K : KE) (o : Nat) (st : CS) (r0 : Int32) (hm : c_AbstractStringBuilder_isLatin1 Zd K o st = some r0) : CT l y16_68 prog_16_method_68_code 1 (some .boolean) G Zd K (0) [.ref o] st (hI G Zd r0 st) := by
  refine goH (d := 0) (y := y16_68) (cc := prog_16_method_68_code) (maxL := 1) (ret := (some .boolean)) (av := [.ref o]) (Qc := hI G Zd r0 st) "java/lang/AbstractStringBuilder" rfl (by decide) (c1_c rfl c1_n) (Nat.le_of_ble_eq_true rfl) ?_
  intro p e s m below meth c ls A args Q hQ hx hb hr hlk hml hown hts hin hl hE hw
  have hl : lw ls 1 [(0, .ref o)] := hl
  have hZ := hE.2.2.1
  have h := hm
  clear hm
  refine va_gets (ref := "java/lang/String") hx hb hZ.1.2.1 hw.2.2.2 hown (hts _ (List.mem_cons_of_mem _ k50)) (fun _ h9 => h9) d16_68_0 ?_
  refine W.eq (g2 := F0 m 3 ls [.int 1]) rfl ?_
  refine lv_if_eq (tgt := 17) hx hb d16_68_3 rfl (fun hc => absurd hc (by decide)) (fun _ => ?_)
  refine lv_aload_n hx hb d16_68_6 rfl (lv_at hl.1 0 rfl) ?_
  obtain ⟨x11, hr, h⟩ := ob h
  refine xg_i (ci := 2) (C := r_2) (T := f_2) (N := 4) (ref := "java/lang/AbstractStringBuilder") hx hb hts (fun w h => List.mem_cons_of_mem _ (ly_2 w h)) hown hE hw rfl 1 (by decide) (hts _ (List.mem_cons_of_mem _ k60)) (fun _ h9 => h9) hr d16_68_7 ?_
  clear hr
  obtain ⟨e12, hX, h⟩ := ob h
  have hj : ∀ (H : Heap) (locs : List Loc) (cells slots : Nat) (ls : Array Slot), lw ls 1 [(0, .ref o)] → wsH G Zd A s st H locs → W p l e (rmH Zd (0) st.1) s m args below meth c H locs cells slots Q (F0 m 18 ls [.int e12]) := by
    intro H locs cells slots ls hl hw
    obtain ⟨u9, hr9, h⟩ := ob h
    have hi := bz_some hr9
    clear hr9 u9
    cases h
    exact finH_z hQ hx hb hr hlk (nar01 hi) hE hw d16_68_18
  clear h
  refine lv_if_ne (tgt := 17) hx hb d16_68_10 rfl (fun c14 => ?_) (fun c14 => ?_)
  ·
    replace h := (if_neg c14).symm.trans hX
    refine lv_iconst (v := 0) hx hb d16_68_17 (by decide) ?_
    have e9 := Option.some.inj h
    subst e12
    have hl := lw_sub hl (l' := [(0, .ref o)]) [0] rfl
    exact hj _ _ _ _ _ hl hw
  ·
    replace h := (if_pos c14).symm.trans hX
    refine lv_iconst (v := 1) hx hb d16_68_13 (by decide) ?_
    refine lv_goto (tgt := 18) hx hb d16_68_14 rfl ?_
    have e9 := Option.some.inj h
    subst e12
    have hl := lw_sub hl (l' := [(0, .ref o)]) [0] rfl
    exact hj _ _ _ _ _ hl hw
def c_Arrays_rangeCheck (Zd : Nat → Nat) (K : KE) (a0 : Int32) (a1 : Int32) (a2 : Int32) (st : CS) : Option (Unit) := if a1 ≤ a2 then (if (0 : Int32) ≤ a1 then (if a2 ≤ a0 then (some ()) else none) else none) else none
set_option maxHeartbeats 4000000 in
set_option maxRecDepth 100000 in
theorem cc_Arrays_rangeCheck (l : Launch) (G : Gk) (Zd : Nat → Nat) (K : KE) (a0 : Int32) (a1 : Int32) (a2 : Int32) (st : CS) (hm : c_Arrays_rangeCheck Zd K a0 a1 a2 st = some ()) : CT l y26_30 prog_26_method_30_code 3 none G Zd K (0) [.int a0, .int a1, .int a2] st (hV G Zd st) := by
  refine goH (d := 0) (y := y26_30) (cc := prog_26_method_30_code) (maxL := 3) (ret := none) (av := [.int a0, .int a1, .int a2]) (Qc := hV G Zd st) "java/util/Arrays" rfl (by decide) (c1_c rfl (c1_c rfl (c1_c rfl c1_n))) (Nat.le_of_ble_eq_true rfl) ?_
  intro p e s m below meth c ls A args Q hQ hx hb hr hlk hml hown hts hin hl hE hw
  have hl : lw ls 3 [(0, .int a0), (1, .int a1), (2, .int a2)] := hl
  have hZ := hE.2.2.1
  have h := hm
  clear hm
  refine lv_iload_n hx hb d26_30_0 rfl (lv_at hl.1 1 rfl) ?_
  refine lv_iload_n hx hb d26_30_1 rfl (lv_at hl.1 2 rfl) ?_
  refine lv_icmp_le (tgt := 46) hx hb d26_30_2 rfl (fun c11 => ?_) (fun c11 => ?_)
  ·
    replace h := (if_pos c11).symm.trans h
    refine lv_iload_n hx hb d26_30_46 rfl (lv_at hl.1 1 rfl) ?_
    refine lv_if_ge (tgt := 59) hx hb d26_30_47 rfl (fun c12 => ?_) (fun c12 => ?_)
    ·
      replace h := (if_pos c12).symm.trans h
      refine lv_iload_n hx hb d26_30_59 rfl (lv_at hl.1 2 rfl) ?_
      refine lv_iload_n hx hb d26_30_60 rfl (lv_at hl.1 0 rfl) ?_
      refine lv_icmp_le (tgt := 73) hx hb d26_30_61 rfl (fun c13 => ?_) (fun c13 => ?_)
      ·
        replace h := (if_pos c13).symm.trans h
        cases h
        exact finH_v hQ hx hb hr hlk hE hw d26_30_73
      ·
        replace h := (if_neg c13).symm.trans h
        cases h
    ·
      replace h := (if_neg c12).symm.trans h
      cases h
  ·
    replace h := (if_neg c11).symm.trans h
    cases h
def c_Arrays_fill_l1 (a2 : Int32) (a3 : Int32) (a11z : Nat) : Nat → (Int32 × CS) → Option (Int32 × CS)
  | 0, _ => none
  | n9 + 1, e9 => if a2 ≤ e9.1 then (some (e9.1, e9.2)) else ((wA e9.2 a11z 2 e9.1 (vp_nar .byte a3)).bind fun st23 => (some (e9.1 + 1)).bind fun y24 => c_Arrays_fill_l1 a2 a3 a11z n9 (y24, st23))
theorem c_Arrays_fill_l1_s (a2 : Int32) (a3 : Int32) (a11z : Nat) (n9 : Nat) (e9 : Int32 × CS) : c_Arrays_fill_l1 a2 a3 a11z (n9 + 1) e9 = (if a2 ≤ e9.1 then (some (e9.1, e9.2)) else ((wA e9.2 a11z 2 e9.1 (vp_nar .byte a3)).bind fun st23 => (some (e9.1 + 1)).bind fun y24 => c_Arrays_fill_l1 a2 a3 a11z n9 (y24, st23))) := rfl
def c_Arrays_fill (Zd : Nat → Nat) (K : KE) (a0 : Option Nat) (a1 : Int32) (a2 : Int32) (a3 : Int32) (st : CS) : Option (CS) := a0.bind fun a11z => (lA K st a11z 2).bind fun n12 => (some (Int32.ofNat n12)).bind fun x13 => (c_Arrays_rangeCheck Zd K x13 a1 a2 st).bind fun _ => (c_Arrays_fill_l1 a2 a3 a11z 4096 (a1, st)).bind fun e17 => some e17.2
set_option maxHeartbeats 4000000 in
set_option maxRecDepth 100000 in
theorem cc_Arrays_fill (l : Launch) (G : Gk) (Zd : Nat → Nat) (K : KE) (a0 : Option Nat) (a1 : Int32) (a2 : Int32) (a3 : Int32) (st : CS) (st0 : CS) (hm : c_Arrays_fill Zd K a0 a1 a2 a3 st = some st0) : CT l y26_110 prog_26_method_110_code 5 none G Zd K (1) [va_rf a0, .int a1, .int a2, .int a3] st (hV G Zd st0) := by
  refine goH (d := 1) (y := y26_110) (cc := prog_26_method_110_code) (maxL := 5) (ret := none) (av := [va_rf a0, .int a1, .int a2, .int a3]) (Qc := hV G Zd st0) "java/util/Arrays" rfl (by decide) (c1_c (rf_cat _) (c1_c rfl (c1_c rfl (c1_c rfl c1_n)))) (Nat.le_of_ble_eq_true rfl) ?_
  intro p e s m below meth c ls A args Q hQ hx hb hr hlk hml hown hts hin hl hE hw
  have hl : lw ls 5 [(0, va_rf a0), (1, .int a1), (2, .int a2), (3, .int a3)] := hl
  have hZ := hE.2.2.1
  have h := hm
  clear hm
  refine xq_aload_n (r := a0) hx hb d26_110_0 rfl (lv_at hl.1 0 rfl) ?_
  obtain ⟨a11z, hn11, h⟩ := ob h
  have hn11 : a0 = some a11z := hn11
  refine W.eq (g2 := F0 m 1 ls [.ref a11z]) (by rw [hn11]; rfl) ?_
  obtain ⟨n12, hr, h⟩ := ob h
  obtain ⟨x13, hr2, h⟩ := ob h
  refine xl hx hb hE hw (t := 2) rfl hr hr2 d26_110_1 ?_
  clear hr hr2
  refine lv_iload_n hx hb d26_110_2 rfl (lv_at hl.1 1 rfl) ?_
  refine lv_iload_n hx hb d26_110_3 rfl (lv_at hl.1 2 rfl) ?_
  obtain ⟨⟨⟩, hc, h⟩ := ob h
  refine hS_v (As := [.int x13, .int a1, .int a2]) (rest := []) ⟨hx, hb, hml, hown, hts⟩ (cc_Arrays_rangeCheck l G Zd K x13 a1 a2 st  hc) (kw_S (n := 3) hts k450 k448 k21 k449 (by decide +kernel) ⟨Nat.le_of_ble_eq_true rfl, Nat.le_of_ble_eq_true rfl⟩) hE hw rfl hl.1.1 rfl (c1_8 c1_n (Nat.le_of_ble_eq_true rfl)) d26_110_4 (fun H locs cells slots hw => ?_)
  clear hc
  refine W.eq (g2 := F0 m 7 ls []) rfl ?_
  refine lv_iload_n hx hb d26_110_7 rfl (lv_at hl.1 1 rfl) ?_
  refine xt_istore (x := a1) (lv' := [(4, .int a1), (0, va_rf a0), (1, .int a1), (2, .int a2), (3, .int a3)]) hx hb d26_110_8 hl (by decide) rfl (fun ls hl => ?_)
  obtain ⟨e17, hX, hrest⟩ := ob h
  clear h
  have hj : ∀ (v20 : Int32) (v21 : CS), e17 = (v20, v21) → ∀ (H : Heap) (locs : List Loc) (cells slots : Nat) (ls : Array Slot), lw ls 5 [(0, va_rf a0), (1, .int a1), (2, .int a2), (3, .int a3), (4, .int v20)] → wsH G Zd A s v21 H locs → W p l e (rmH Zd (1) st.1) s m args below meth c H locs cells slots Q (F0 m 27 ls []) := by
    intro v20 v21 he H locs cells slots ls hl hw
    subst e17
    have h := hrest
    clear hrest
    cases h
    exact finH_v hQ hx hb hr hlk hE hw d26_110_27
  have hloop : ∀ (n9 : Nat) (v18 : Int32) (v19 : CS), c_Arrays_fill_l1 a2 a3 a11z n9 (v18, v19) = some e17 → ∀ (H : Heap) (locs : List Loc) (cells slots : Nat) (ls : Array Slot), lw ls 5 [(0, va_rf a0), (1, .int a1), (2, .int a2), (3, .int a3), (4, .int v18)] → wsH G Zd A s v19 H locs → W p l e (rmH Zd (1) st.1) s m args below meth c H locs cells slots Q (F0 m 10 ls []) := by
    intro n9
    induction n9 with
    | zero =>
      intro v18 v19 h
      cases h
    | succ n9 ih =>
      intro v18 v19 h H locs cells slots ls hl hw
      replace h := (c_Arrays_fill_l1_s a2 a3 a11z n9 (v18, v19)).symm.trans h
      refine lv_iload hx hb d26_110_10 (lv_at hl.1 4 rfl) ?_
      refine lv_iload_n hx hb d26_110_12 rfl (lv_at hl.1 2 rfl) ?_
      refine lv_icmp_ge (tgt := 27) hx hb d26_110_13 rfl (fun c22 => ?_) (fun c22 => ?_)
      ·
        replace h := (if_pos c22).symm.trans h
        have e9 := Option.some.inj h
        subst e17
        have hl := lw_sub hl (l' := [(0, va_rf a0), (1, .int a1), (2, .int a2), (3, .int a3), (4, .int v18)]) [0, 1, 2, 3, 4] rfl
        exact hj _ _ rfl _ _ _ _ _ hl hw
      ·
        replace h := (if_neg c22).symm.trans h
        refine xq_aload_n (r := a0) hx hb d26_110_16 rfl (lv_at hl.1 0 rfl) ?_
        refine lv_iload hx hb d26_110_17 (lv_at hl.1 4 rfl) ?_
        refine lv_iload_n hx hb d26_110_19 rfl (lv_at hl.1 3 rfl) ?_
        refine W.eq (g2 := F0 m 20 ls [.int a3, .int v18, .ref a11z]) (by rw [hn11]; rfl) ?_
        obtain ⟨st23, hr, h⟩ := ob h
        refine xs_b hx hb hE hw (i := v18) (v := a3) hr d26_110_20 (fun H locs hw => ?_)
        clear hr
        obtain ⟨y24, hr, h⟩ := ob h
        refine xt_iinc (k := 4) (v := y24) (lv' := [(4, .int y24), (0, va_rf a0), (1, .int a1), (2, .int a2), (3, .int a3)]) hx hb d26_110_21 hl rfl hr (by decide) rfl (fun ls hl => ?_)
        clear hr
        refine lv_goto (tgt := 10) hx hb d26_110_24 rfl ?_
        have hl := lw_sub hl (l' := [(0, va_rf a0), (1, .int a1), (2, .int a2), (3, .int a3), (4, .int y24)]) [1, 2, 3, 4, 0] rfl
        exact ih _ _ h _ _ _ _ _ hl hw
  have hl := lw_sub hl (l' := [(0, va_rf a0), (1, .int a1), (2, .int a2), (3, .int a3), (4, .int a1)]) [1, 2, 3, 4, 0] rfl
  exact hloop _ _ _ hX _ _ _ _ _ hl hw
