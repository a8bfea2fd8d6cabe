theorem d21_150_9 : decode prog_21_method_150_code 9 = .ok (.aload_n 1, 1) := by decide +kernel
theorem d21_150_10 : decode prog_21_method_150_code 10 = .ok (.invokevirtual 549, 3) := by decide +kernel
theorem k480 : (Jvm.Cond.code ({ cls := "java/lang/StringBuilder", name := "length", desc := "()I" } : Jvm.MethodName) prog_22_method_93_code (1 : Nat) (Option.some Jvm.ClassFile.FieldType.int)) ∈ TB := tk_3 0 rfl rfl
theorem k475 : (Jvm.Cond.methodLink "java/lang/String" (549 : Nat) ({ cls := "java/lang/AbstractStringBuilder", name := "length", desc := "()I" } : Jvm.MethodName)) ∈ TB := tk_2 235 rfl rfl
theorem k478 : (Jvm.Cond.selects "java/lang/StringBuilder" ({ cls := "java/lang/AbstractStringBuilder", name := "length", desc := "()I" } : Jvm.MethodName) ({ cls := "java/lang/StringBuilder", name := "length", desc := "()I" } : Jvm.MethodName)) ∈ TB := tk_2 238 rfl rfl
theorem k479 : (Jvm.Cond.instanceMethod ({ cls := "java/lang/StringBuilder", name := "length", desc := "()I" } : Jvm.MethodName)) ∈ TB := tk_2 239 rfl rfl
theorem d21_150_13 : decode prog_21_method_150_code 13 = .ok (.istore 4, 2) := by decide +kernel
theorem d21_150_15 : decode prog_21_method_150_code 15 = .ok (.aload_n 1, 1) := by decide +kernel
theorem d21_150_16 : decode prog_21_method_150_code 16 = .ok (.invokevirtual 1047, 3) := by decide +kernel
theorem k483 : (Jvm.Cond.methodLink "java/lang/String" (1047 : Nat) ({ cls := "java/lang/AbstractStringBuilder", name := "isLatin1", desc := "()Z" } : Jvm.MethodName)) ∈ TB := tk_3 3 rfl rfl
theorem d21_150_19 : decode prog_21_method_150_code 19 = .ok (.ifCond .eq 22, 3) := by decide +kernel
theorem d21_150_41 : decode prog_21_method_150_code 41 = .ok (.getstatic 38, 3) := by decide +kernel
theorem d21_150_44 : decode prog_21_method_150_code 44 = .ok (.ifCond .eq 35, 3) := by decide +kernel
theorem d21_150_47 : decode prog_21_method_150_code 47 = .ok (.aload_n 1, 1) := by decide +kernel
theorem d21_150_48 : decode prog_21_method_150_code 48 = .ok (.getfield 1048, 3) := by decide +kernel
theorem k62 : (Jvm.Cond.fieldLink "java/lang/String" (1048 : Nat) "java/lang/AbstractStringBuilder" "maybeLatin1" "Z") ∈ TB := tk_1 62 rfl rfl
theorem d21_150_51 : decode prog_21_method_150_code 51 = .ok (.ifCond .eq 28, 3) := by decide +kernel
theorem d21_150_79 : decode prog_21_method_150_code 79 = .ok (.aload_n 0, 1) := by decide +kernel
theorem d21_150_80 : decode prog_21_method_150_code 80 = .ok (.iconst 1, 1) := by decide +kernel
theorem d21_150_81 : decode prog_21_method_150_code 81 = .ok (.putfield 15, 3) := by decide +kernel
theorem d21_150_84 : decode prog_21_method_150_code 84 = .ok (.aload_n 0, 1) := by decide +kernel
theorem d21_150_85 : decode prog_21_method_150_code 85 = .ok (.aload_n 3, 1) := by decide +kernel
theorem d21_150_86 : decode prog_21_method_150_code 86 = .ok (.iconst 0, 1) := by decide +kernel
theorem d21_150_87 : decode prog_21_method_150_code 87 = .ok (.iload 4, 2) := by decide +kernel
theorem d21_150_89 : decode prog_21_method_150_code 89 = .ok (.iconst 1, 1) := by decide +kernel
theorem d21_150_90 : decode prog_21_method_150_code 90 = .ok (.ishl, 1) := by decide +kernel
theorem d21_150_91 : decode prog_21_method_150_code 91 = .ok (.invokestatic 54, 3) := by decide +kernel
theorem d26_132_0 : decode prog_26_method_132_code 0 = .ok (.iload_n 1, 1) := by decide +kernel
theorem d26_132_1 : decode prog_26_method_132_code 1 = .ok (.ifCond .ne 9, 3) := by decide +kernel
theorem d26_132_4 : decode prog_26_method_132_code 4 = .ok (.iload_n 2, 1) := by decide +kernel
theorem d26_132_5 : decode prog_26_method_132_code 5 = .ok (.aload_n 0, 1) := by decide +kernel
theorem d26_132_6 : decode prog_26_method_132_code 6 = .ok (.arraylength, 1) := by decide +kernel
theorem d26_132_7 : decode prog_26_method_132_code 7 = .ok (.if_icmp .eq 10, 3) := by decide +kernel
theorem d26_132_17 : decode prog_26_method_132_code 17 = .ok (.aload_n 0, 1) := by decide +kernel
theorem d26_132_10 : decode prog_26_method_132_code 10 = .ok (.aload_n 0, 1) := by decide +kernel
theorem d26_132_11 : decode prog_26_method_132_code 11 = .ok (.iload_n 1, 1) := by decide +kernel
theorem d26_132_12 : decode prog_26_method_132_code 12 = .ok (.iload_n 2, 1) := by decide +kernel
theorem d26_132_13 : decode prog_26_method_132_code 13 = .ok (.invokestatic 339, 3) := by decide +kernel
theorem d26_133_0 : decode prog_26_method_133_code 0 = .ok (.iload_n 1, 1) := by decide +kernel
theorem d26_133_1 : decode prog_26_method_133_code 1 = .ok (.iload_n 2, 1) := by decide +kernel
theorem d26_133_2 : decode prog_26_method_133_code 2 = .ok (.invokestatic 343, 3) := by decide +kernel
theorem d26_131_0 : decode prog_26_method_131_code 0 = .ok (.iload_n 1, 1) := by decide +kernel
theorem d26_131_1 : decode prog_26_method_131_code 1 = .ok (.iload_n 0, 1) := by decide +kernel
theorem d26_131_2 : decode prog_26_method_131_code 2 = .ok (.if_icmp .ge 35, 3) := by decide +kernel
theorem d26_131_37 : decode prog_26_method_131_code 37 = .ok (.return_, 1) := by decide +kernel
def y26_131 : MethodName := { cls := "java/util/Arrays", name := "checkLength", desc := "(II)V" }
theorem k492 : (Jvm.Cond.code ({ cls := "java/util/Arrays", name := "checkLength", desc := "(II)V" } : Jvm.MethodName) prog_26_method_131_code (2 : Nat) (Option.none : Option Jvm.ClassFile.FieldType)) ∈ TB := tk_3 12 rfl rfl
theorem k490 : (Jvm.Cond.methodLink "java/util/Arrays" (343 : Nat) ({ cls := "java/util/Arrays", name := "checkLength", desc := "(II)V" } : Jvm.MethodName)) ∈ TB := tk_3 10 rfl rfl
theorem k491 : (Jvm.Cond.static ({ cls := "java/util/Arrays", name := "checkLength", desc := "(II)V" } : Jvm.MethodName)) ∈ TB := tk_3 11 rfl rfl
theorem d26_133_5 : decode prog_26_method_133_code 5 = .ok (.iload_n 2, 1) := by decide +kernel
theorem d26_133_6 : decode prog_26_method_133_code 6 = .ok (.iload_n 1, 1) := by decide +kernel
theorem d26_133_7 : decode prog_26_method_133_code 7 = .ok (.isub, 1) := by decide +kernel
theorem d26_133_8 : decode prog_26_method_133_code 8 = .ok (.istore_n 3, 1) := by decide +kernel
theorem d26_133_9 : decode prog_26_method_133_code 9 = .ok (.iload_n 3, 1) := by decide +kernel
theorem d26_133_10 : decode prog_26_method_133_code 10 = .ok (.newarray .byte, 2) := by decide +kernel
theorem d26_133_12 : decode prog_26_method_133_code 12 = .ok (.astore 4, 2) := by decide +kernel
theorem d26_133_14 : decode prog_26_method_133_code 14 = .ok (.aload_n 0, 1) := by decide +kernel
theorem d26_133_15 : decode prog_26_method_133_code 15 = .ok (.iload_n 1, 1) := by decide +kernel
theorem d26_133_16 : decode prog_26_method_133_code 16 = .ok (.aload 4, 2) := by decide +kernel
theorem d26_133_18 : decode prog_26_method_133_code 18 = .ok (.iconst 0, 1) := by decide +kernel
theorem d26_133_19 : decode prog_26_method_133_code 19 = .ok (.aload_n 0, 1) := by decide +kernel
theorem d26_133_20 : decode prog_26_method_133_code 20 = .ok (.arraylength, 1) := by decide +kernel
theorem d26_133_21 : decode prog_26_method_133_code 21 = .ok (.iload_n 1, 1) := by decide +kernel
theorem d26_133_22 : decode prog_26_method_133_code 22 = .ok (.isub, 1) := by decide +kernel
theorem d26_133_23 : decode prog_26_method_133_code 23 = .ok (.iload_n 3, 1) := by decide +kernel
theorem d26_133_24 : decode prog_26_method_133_code 24 = .ok (.invokestatic 304, 3) := by decide +kernel
theorem d26_133_27 : decode prog_26_method_133_code 27 = .ok (.invokestatic 150, 3) := by decide +kernel
theorem d26_133_30 : decode prog_26_method_133_code 30 = .ok (.aload 4, 2) := by decide +kernel
theorem d26_133_32 : decode prog_26_method_133_code 32 = .ok (.areturn, 1) := by decide +kernel
def y26_133 : MethodName := { cls := "java/util/Arrays", name := "copyOfRangeByte", desc := "([BII)[B" }
theorem k489 : (Jvm.Cond.code ({ cls := "java/util/Arrays", name := "copyOfRangeByte", desc := "([BII)[B" } : Jvm.MethodName) prog_26_method_133_code (5 : Nat) (Option.some (Jvm.ClassFile.FieldType.array Jvm.ClassFile.FieldType.byte))) ∈ TB := tk_3 9 rfl rfl
theorem k487 : (Jvm.Cond.methodLink "java/util/Arrays" (339 : Nat) ({ cls := "java/util/Arrays", name := "copyOfRangeByte", desc := "([BII)[B" } : Jvm.MethodName)) ∈ TB := tk_3 7 rfl rfl
theorem k488 : (Jvm.Cond.static ({ cls := "java/util/Arrays", name := "copyOfRangeByte", desc := "([BII)[B" } : Jvm.MethodName)) ∈ TB := tk_3 8 rfl rfl
theorem d26_132_16 : decode prog_26_method_132_code 16 = .ok (.areturn, 1) := by decide +kernel
def y26_132 : MethodName := { cls := "java/util/Arrays", name := "copyOfRange", desc := "([BII)[B" }
theorem k486 : (Jvm.Cond.code ({ cls := "java/util/Arrays", name := "copyOfRange", desc := "([BII)[B" } : Jvm.MethodName) prog_26_method_132_code (3 : Nat) (Option.some (Jvm.ClassFile.FieldType.array Jvm.ClassFile.FieldType.byte))) ∈ TB := tk_3 6 rfl rfl
theorem k484 : (Jvm.Cond.methodLink "java/lang/String" (54 : Nat) ({ cls := "java/util/Arrays", name := "copyOfRange", desc := "([BII)[B" } : Jvm.MethodName)) ∈ TB := tk_3 4 rfl rfl
theorem k485 : (Jvm.Cond.static ({ cls := "java/util/Arrays", name := "copyOfRange", desc := "([BII)[B" } : Jvm.MethodName)) ∈ TB := tk_3 5 rfl rfl
theorem d21_150_94 : decode prog_21_method_150_code 94 = .ok (.putfield 9, 3) := by decide +kernel
theorem d21_150_54 : decode prog_21_method_150_code 54 = .ok (.aload_n 0, 1) := by decide +kernel
theorem d21_150_55 : decode prog_21_method_150_code 55 = .ok (.aload_n 3, 1) := by decide +kernel
theorem d21_150_56 : decode prog_21_method_150_code 56 = .ok (.iconst 0, 1) := by decide +kernel
theorem d21_150_57 : decode prog_21_method_150_code 57 = .ok (.iload 4, 2) := by decide +kernel
theorem d21_150_22 : decode prog_21_method_150_code 22 = .ok (.aload_n 0, 1) := by decide +kernel
theorem d21_150_23 : decode prog_21_method_150_code 23 = .ok (.iconst 0, 1) := by decide +kernel
theorem d21_150_24 : decode prog_21_method_150_code 24 = .ok (.putfield 15, 3) := by decide +kernel
theorem d21_150_27 : decode prog_21_method_150_code 27 = .ok (.aload_n 0, 1) := by decide +kernel
theorem d21_150_28 : decode prog_21_method_150_code 28 = .ok (.aload_n 3, 1) := by decide +kernel
theorem d21_150_29 : decode prog_21_method_150_code 29 = .ok (.iconst 0, 1) := by decide +kernel
theorem d21_150_30 : decode prog_21_method_150_code 30 = .ok (.iload 4, 2) := by decide +kernel
theorem d21_150_32 : decode prog_21_method_150_code 32 = .ok (.invokestatic 54, 3) := by decide +kernel
theorem d21_150_35 : decode prog_21_method_150_code 35 = .ok (.putfield 9, 3) := by decide +kernel
theorem d21_150_38 : decode prog_21_method_150_code 38 = .ok (.goto 59, 3) := by decide +kernel
theorem d21_150_97 : decode prog_21_method_150_code 97 = .ok (.return_, 1) := by decide +kernel
def y21_150 : MethodName := { cls := "java/lang/String", name := "<init>", desc := "(Ljava/lang/AbstractStringBuilder;Ljava/lang/Void;)V" }
theorem k468 : (Jvm.Cond.code ({ cls := "java/lang/String", name := "<init>", desc := "(Ljava/lang/AbstractStringBuilder;Ljava/lang/Void;)V" } : Jvm.MethodName) prog_21_method_150_code (5 : Nat) (Option.none : Option Jvm.ClassFile.FieldType)) ∈ TB := tk_2 228 rfl rfl
theorem k466 : (Jvm.Cond.methodLink "java/lang/String" (489 : Nat) ({ cls := "java/lang/String", name := "<init>", desc := "(Ljava/lang/AbstractStringBuilder;Ljava/lang/Void;)V" } : Jvm.MethodName)) ∈ TB := tk_2 226 rfl rfl
theorem k467 : (Jvm.Cond.instanceMethod ({ cls := "java/lang/String", name := "<init>", desc := "(Ljava/lang/AbstractStringBuilder;Ljava/lang/Void;)V" } : Jvm.MethodName)) ∈ TB := tk_2 227 rfl rfl
theorem d21_53_6 : decode prog_21_method_53_code 6 = .ok (.return_, 1) := by decide +kernel
def y21_53 : MethodName := { cls := "java/lang/String", name := "<init>", desc := "(Ljava/lang/StringBuilder;)V" }
theorem k465 : (Jvm.Cond.code ({ cls := "java/lang/String", name := "<init>", desc := "(Ljava/lang/StringBuilder;)V" } : Jvm.MethodName) prog_21_method_53_code (2 : Nat) (Option.none : Option Jvm.ClassFile.FieldType)) ∈ TB := tk_2 225 rfl rfl
theorem k463 : (Jvm.Cond.methodLink "java/lang/StringBuilder" (137 : Nat) ({ cls := "java/lang/String", name := "<init>", desc := "(Ljava/lang/StringBuilder;)V" } : Jvm.MethodName)) ∈ TB := tk_2 223 rfl rfl
theorem k464 : (Jvm.Cond.instanceMethod ({ cls := "java/lang/String", name := "<init>", desc := "(Ljava/lang/StringBuilder;)V" } : Jvm.MethodName)) ∈ TB := tk_2 224 rfl rfl
theorem d22_42_8 : decode prog_22_method_42_code 8 = .ok (.areturn, 1) := by decide +kernel
def y22_42 : MethodName := { cls := "java/lang/StringBuilder", name := "toString", desc := "()Ljava/lang/String;" }
def c_AbstractStringBuilder_getValue (Zd : Nat → Nat) (K : KE) (o : Nat) (st : CS) : Option (Option Nat) := (gQ K st o 2 0).bind fun x11 => some x11
set_option maxHeartbeats 4000000 in
set_option maxRecDepth 100000 in
theorem cc_AbstractStringBuilder_getValue (l : Launch) (G : Gk) (Zd : Nat → Nat) (K : KE) (o : Nat) (st : CS) (r0 : Option Nat) (hm : c_AbstractStringBuilder_getValue Zd K o st = some r0) : CT l y16_64 prog_16_method_64_code 1 (some (.array .byte)) G Zd K (0) [.ref o] st (hQ G Zd r0 st) := by
  refine goH (d := 0) (y := y16_64) (cc := prog_16_method_64_code) (maxL := 1) (ret := (some (.array .byte))) (av := [.ref o]) (Qc := hQ G Zd r0 st) "java/lang/AbstractStringBuilder" rfl (by decide) (c1_c rfl c1_n) (Nat.le_of_ble_eq_true rfl) ?_
  intro p e s m below meth c ls A args Q hQ hx hb hr hlk hml hown hts hin hl hE hw
  have hl : lw ls 1 [(0, .ref o)] := hl
  have hZ := hE.2.2.1
  have h := hm
  clear hm
  refine lv_aload_n hx hb d16_64_0 rfl (lv_at hl.1 0 rfl) ?_
  obtain ⟨x11, hr, h⟩ := ob h
  refine xg_q (ci := 2) (C := r_2) (T := f_2) (N := 4) (ref := "java/lang/AbstractStringBuilder") hx hb hts (fun w h => List.mem_cons_of_mem _ (ly_2 w h)) hown hE hw rfl 0 (by decide) (hts _ (List.mem_cons_of_mem _ k59)) (fun _ h9 => h9) hr d16_64_1 ?_
  clear hr
  cases h
  exact finH_q hQ hx hb hr hlk rfl (Or.inr ⟨_, rfl⟩) hE hw d16_64_4
def c_Arrays_checkLength (Zd : Nat → Nat) (K : KE) (a0 : Int32) (a1 : Int32) (st : CS) : Option (Unit) := if a0 ≤ a1 then (some ()) else none
set_option maxHeartbeats 4000000 in
set_option maxRecDepth 100000 in
theorem cc_Arrays_checkLength (l : Launch) (G : Gk) (Zd : Nat → Nat) (K : KE) (a0 : Int32) (a1 : Int32) (st : CS) (hm : c_Arrays_checkLength Zd K a0 a1 st = some ()) : CT l y26_131 prog_26_method_131_code 2 none G Zd K (0) [.int a0, .int a1] st (hV G Zd st) := by
  refine goH (d := 0) (y := y26_131) (cc := prog_26_method_131_code) (maxL := 2) (ret := none) (av := [.int a0, .int a1]) (Qc := hV G Zd st) "java/util/Arrays" rfl (by decide) (c1_c rfl (c1_c rfl c1_n)) (Nat.le_of_ble_eq_true rfl) ?_
  intro p e s m below meth c ls A args Q hQ hx hb hr hlk hml hown hts hin hl hE hw
  have hl : lw ls 2 [(0, .int a0), (1, .int a1)] := hl
  have hZ := hE.2.2.1
  have h := hm
  clear hm
  refine lv_iload_n hx hb d26_131_0 rfl (lv_at hl.1 1 rfl) ?_
  refine lv_iload_n hx hb d26_131_1 rfl (lv_at hl.1 0 rfl) ?_
  refine lv_icmp_ge (tgt := 37) hx hb d26_131_2 rfl (fun c11 => ?_) (fun c11 => ?_)
  ·
    replace h := (if_pos c11).symm.trans h
    cases h
    exact finH_v hQ hx hb hr hlk hE hw d26_131_37
  ·
    replace h := (if_neg c11).symm.trans h
    cases h
def c_Arrays_copyOfRangeByte (Zd : Nat → Nat) (K : KE) (a0 : Option Nat) (a1 : Int32) (a2 : Int32) (st : CS) : Option (Option Nat × CS) := (c_Arrays_checkLength Zd K a1 a2 st).bind fun _ => (some (a2 - a1)).bind fun y14 => (some st.1.1).bind fun a15z => (nBc Zd st y14).bind fun st16 => a0.bind fun a17z => (lA K st16 a17z 2).bind fun n18 => (some (Int32.ofNat n18)).bind fun x19 => (some (x19 - a1)).bind fun y20 => (some (if y14 < y20 then y14 else y20)).bind fun y21 => (cpB K st16 a17z a1 a15z (0 : Int32) y21).bind fun st22 => some (some a15z, st22)
set_option maxHeartbeats 4000000 in
set_option maxRecDepth 100000 in
theorem cc_Arrays_copyOfRangeByte (l : Launch) (G : Gk) (Zd : Nat → Nat) (K : KE) (a0 : Option Nat) (a1 : Int32) (a2 : Int32) (st : CS) (r0 : Option Nat) (st0 : CS) (hm : c_Arrays_copyOfRangeByte Zd K a0 a1 a2 st = some (r0, st0)) : CT l y26_133 prog_26_method_133_code 5 (some (.array .byte)) G Zd K (1) [va_rf a0, .int a1, .int a2] st (hQ G Zd r0 st0) := by
  refine goH (d := 1) (y := y26_133) (cc := prog_26_method_133_code) (maxL := 5) (ret := (some (.array .byte))) (av := [va_rf a0, .int a1, .int a2]) (Qc := hQ G Zd r0 st0) "java/util/Arrays" rfl (by decide) (c1_c (rf_cat _) (c1_c rfl (c1_c rfl c1_n))) (Nat.le_of_ble_eq_true rfl) ?_
  intro p e s m below meth c ls A args Q hQ hx hb hr hlk hml hown hts hin hl hE hw
  have hl : lw ls 5 [(0, va_rf a0), (1, .int a1), (2, .int a2)] := hl
  have hZ := hE.2.2.1
  have h := hm
  clear hm
  refine lv_iload_n hx hb d26_133_0 rfl (lv_at hl.1 1 rfl) ?_
  refine lv_iload_n hx hb d26_133_1 rfl (lv_at hl.1 2 rfl) ?_
  obtain ⟨⟨⟩, hc, h⟩ := ob h
  refine hS_v (As := [.int a1, .int a2]) (rest := []) ⟨hx, hb, hml, hown, hts⟩ (cc_Arrays_checkLength l G Zd K a1 a2 st  hc) (kw_S (n := 2) hts k492 k490 k21 k491 (by decide +kernel) ⟨Nat.le_of_ble_eq_true rfl, Nat.le_of_ble_eq_true rfl⟩) hE hw rfl hl.1.1 rfl (c1_8 c1_n (Nat.le_of_ble_eq_true rfl)) d26_133_2 (fun H locs cells slots hw => ?_)
  clear hc
  refine W.eq (g2 := F0 m 5 ls []) rfl ?_
  refine lv_iload_n hx hb d26_133_5 rfl (lv_at hl.1 2 rfl) ?_
  refine lv_iload_n hx hb d26_133_6 rfl (lv_at hl.1 1 rfl) ?_
  refine lv_isub hx hb d26_133_7 ?_
  obtain ⟨y14, hr, h⟩ := ob h
  refine lv_topi (fun y9 ey => ?_)
  have e9 := ey.trans (Option.some.inj hr)
  clear ey
  subst y9
  clear hr
  refine xt_istore_n (x := y14) (lv' := [(3, .int y14), (0, va_rf a0), (1, .int a1), (2, .int a2)]) hx hb d26_133_8 rfl hl (by decide) rfl (fun ls hl => ?_)
  refine lv_iload_n hx hb d26_133_9 rfl (lv_at hl.1 0 rfl) ?_
  obtain ⟨a15z, hr, h⟩ := ob h
  obtain ⟨st16, hr2, h⟩ := ob h
  refine xb hx hb (hts _ (List.mem_cons_of_mem _ k74)) hE hw (n := y14) hr hr2 d26_133_10 (fun H cells slots hw => ?_)
  clear hr hr2
  refine xt_astore (r := some a15z) (lv' := [(4, .ref a15z), (3, .int y14), (0, va_rf a0), (1, .int a1), (2, .int a2)]) hx hb d26_133_12 hl (by decide) rfl (fun ls hl => ?_)
  refine xq_aload_n (r := a0) hx hb d26_133_14 rfl (lv_at hl.1 2 rfl) ?_
  refine lv_iload_n hx hb d26_133_15 rfl (lv_at hl.1 3 rfl) ?_
  refine lv_aload hx hb d26_133_16 (lv_at hl.1 0 rfl) ?_
  refine lv_iconst (v := 0) hx hb d26_133_18 (by decide) ?_
  refine xq_aload_n (r := a0) hx hb d26_133_19 rfl (lv_at hl.1 2 rfl) ?_
  obtain ⟨a17z, hn17, h⟩ := ob h
  have hn17 : a0 = some a17z := hn17
  refine W.eq (g2 := F0 m 20 ls [.ref a17z, .int 0, .ref a15z, .int a1, va_rf a0]) (by rw [hn17]; rfl) ?_
  obtain ⟨n18, hr, h⟩ := ob h
  obtain ⟨x19, hr2, h⟩ := ob h
  refine xl hx hb hE hw (t := 2) rfl hr hr2 d26_133_20 ?_
  clear hr hr2
  refine lv_iload_n hx hb d26_133_21 rfl (lv_at hl.1 3 rfl) ?_
  refine lv_isub hx hb d26_133_22 ?_
  obtain ⟨y20, hr, h⟩ := ob h
  refine lv_topi (fun y9 ey => ?_)
  have e9 := ey.trans (Option.some.inj hr)
  clear ey
  subst y9
  clear hr
  refine lv_iload_n hx hb d26_133_23 rfl (lv_at hl.1 1 rfl) ?_
  refine xmin (x := y20) (y := y14) (rest := [.int 0, .ref a15z, .int a1, va_rf a0]) hx hb (by rw [hml]; exact hl.1.1.symm) hown (hts _ (List.mem_cons_of_mem _ k431)) (hts _ (List.mem_cons_of_mem _ k432)) (hts _ (List.mem_cons_of_mem _ k20)) (hts _ (List.mem_cons_of_mem _ kmin)) hE hw (show 1 ≤ 1 by omega) (by rw [c1_sum (c1_c rfl (c1_c rfl (c1_c rfl (c1_c (rf_cat _) c1_n))))]; show 4 + 13 ≤ 64 * (1); omega) d26_133_24 (fun cells slots => ?_)
  obtain ⟨y21, hr, h⟩ := ob h
  refine lv_topi (fun y9 ey => ?_)
  have e9 := ey.trans (Option.some.inj hr)
  clear ey
  subst y9
  clear hr
  refine W.eq (g2 := F0 m 27 ls [.int y21, .int 0, .ref a15z, .int a1, .ref a17z]) (by rw [hn17]; rfl) ?_
  obtain ⟨st22, hr, h⟩ := ob h
  refine xc (rest := []) hx hb (by rw [hml]; exact hl.1.1.symm) hown (hts _ (List.mem_cons_of_mem _ k434)) (hts _ (List.mem_cons_of_mem _ k436)) (hts _ (List.mem_cons_of_mem _ k435)) (hts _ (List.mem_cons_of_mem _ k22)) hE hw (sp := a1) (dp := (0 : Int32)) (n := y21) hr (Nat.le_of_ble_eq_true rfl) (by show _ ≤ 64 * (1); decide +kernel) d26_133_27 (fun H locs hw => ?_)
  clear hr
  refine lv_aload hx hb d26_133_30 (lv_at hl.1 0 rfl) ?_
  cases h
  exact finH_q hQ hx hb hr hlk rfl (Or.inr ⟨_, rfl⟩) hE hw d26_133_32
def c_Arrays_copyOfRange (Zd : Nat → Nat) (K : KE) (a0 : Option Nat) (a1 : Int32) (a2 : Int32) (st : CS) : Option (Option Nat × CS) := (if a1 = (0 : Int32) then (a0.bind fun a16z => (lA K st a16z 2).bind fun n17 => (some (Int32.ofNat n17)).bind fun x18 => if a2 = x18 then none else (some ())) else (some ())).bind fun _ => (c_Arrays_copyOfRangeByte Zd K a0 a1 a2 st).bind fun r14 => some (r14.1, r14.2)
set_option maxHeartbeats 4000000 in
set_option maxRecDepth 100000 in
theorem cc_Arrays_copyOfRange (l : Launch) (G : Gk) (Zd : Nat → Nat) (K : KE) (a0 : Option Nat) (a1 : Int32) (a2 : Int32) (st : CS) (r0 : Option Nat) (st0 : CS) (hm : c_Arrays_copyOfRange Zd K a0 a1 a2 st = some (r0, st0)) : CT l y26_132 prog_26_method_132_code 3 (some (.array .byte)) G Zd K (2) [va_rf a0, .int a1, .int a2] st (hQ G Zd r0 st0) := by
  refine goH (d := 2) (y := y26_132) (cc := prog_26_method_132_code) (maxL := 3) (ret := (some (.array .byte))) (av := [va_rf a0, .int a1, .int a2]) (Qc := hQ G Zd r0 st0) "java/util/Arrays" rfl (by decide) (c1_c (rf_cat _) (c1_c rfl (c1_c rfl c1_n))) (Nat.le_of_ble_eq_true rfl) ?_
  intro p e s m below meth c ls A args Q hQ hx hb hr hlk hml hown hts hin hl hE hw
  have hl : lw ls 3 [(0, va_rf a0), (1, .int a1), (2, .int a2)] := hl
  have hZ := hE.2.2.1
  have h := hm
  clear hm
  refine lv_iload_n hx hb d26_132_0 rfl (lv_at hl.1 1 rfl) ?_
  obtain ⟨e11, hX, h⟩ := ob h
  have hj : ∀ (H : Heap) (locs : List Loc) (cells slots : Nat) (ls : Array Slot), lw ls 3 [(0, va_rf a0), (1, .int a1), (2, .int a2)] → wsH G Zd A s st H locs → W p l e (rmH Zd (2) st.1) s m args below meth c H locs cells slots Q (F0 m 10 ls []) := by
    intro H locs cells slots ls hl hw
    refine xq_aload_n (r := a0) hx hb d26_132_10 rfl (lv_at hl.1 0 rfl) ?_
    refine lv_iload_n hx hb d26_132_11 rfl (lv_at hl.1 1 rfl) ?_
    refine lv_iload_n hx hb d26_132_12 rfl (lv_at hl.1 2 rfl) ?_
    obtain ⟨⟨x12, st13⟩, hc, h⟩ := ob h
    refine hS_q (As := [va_rf a0, .int a1, .int a2]) (rest := []) ⟨hx, hb, hml, hown, hts⟩ (cc_Arrays_copyOfRangeByte l G Zd K a0 a1 a2 st x12 st13 hc) (kw_S (n := 3) hts k489 k487 k21 k488 (by decide +kernel) ⟨Nat.le_of_ble_eq_true rfl, Nat.le_of_ble_eq_true rfl⟩) hE hw rfl hl.1.1 rfl (c1_8 c1_n (Nat.le_of_ble_eq_true rfl)) d26_132_13 (fun H locs cells slots hw => ?_)
    clear hc
    refine W.eq (g2 := F0 m 16 ls [va_rf x12]) rfl ?_
    cases h
    exact finH_q hQ hx hb hr hlk rfl (Or.inr ⟨_, rfl⟩) hE hw d26_132_16
  clear h
  refine lv_if_ne (tgt := 10) hx hb d26_132_1 rfl (fun c15 => ?_) (fun c15 => ?_)
  ·
    replace h := (if_neg c15).symm.trans hX
    have hl := lw_sub hl (l' := [(0, va_rf a0), (1, .int a1), (2, .int a2)]) [0, 1, 2] rfl
    exact hj _ _ _ _ _ hl hw
  ·
    replace h := (if_pos c15).symm.trans hX
    refine lv_iload_n hx hb d26_132_4 rfl (lv_at hl.1 2 rfl) ?_
    refine xq_aload_n (r := a0) hx hb d26_132_5 rfl (lv_at hl.1 0 rfl) ?_
    obtain ⟨a16z, hn16, h⟩ := ob h
    have hn16 : a0 = some a16z := hn16
    refine W.eq (g2 := F0 m 6 ls [.ref a16z, .int a2]) (by rw [hn16]; rfl) ?_
    obtain ⟨n17, hr, h⟩ := ob h
    obtain ⟨x18, hr2, h⟩ := ob h
    refine xl hx hb hE hw (t := 2) rfl hr hr2 d26_132_6 ?_
    clear hr hr2
    refine lv_icmp_eq (tgt := 17) hx hb d26_132_7 rfl (fun c19 => ?_) (fun c19 => ?_)
    ·
      replace h := (if_pos c19).symm.trans h
      refine xq_aload_n (r := a0) hx hb d26_132_17 rfl (lv_at hl.1 0 rfl) ?_
      cases h
    ·
      replace h := (if_neg c19).symm.trans h
      have hl := lw_sub hl (l' := [(0, va_rf a0), (1, .int a1), (2, .int a2)]) [0, 1, 2] rfl
      exact hj _ _ _ _ _ hl hw
def c_String_init_qq (Zd : Nat → Nat) (K : KE) (o : Nat) (a0 : Option Nat) (a1 : Option Nat) (st : CS) : Option (CS) := a0.bind fun a11z => (isO K st a11z 2).bind fun _ => (c_AbstractStringBuilder_getValue Zd K a11z st).bind fun x12 => (isO K st a11z 2).bind fun _ => (c_StringBuilder_length Zd K a11z st).bind fun x15 => (isO K st a11z 2).bind fun _ => (c_AbstractStringBuilder_isLatin1 Zd K a11z st).bind fun x18 => (if x18 = (0 : Int32) then ((gI K st a11z 2 2).bind fun x24 => if x24 = (0 : Int32) then ((sF st o 12 1 (.int 1)).bind fun st26 => (some (x15 <<< ((1 : Int32) &&& 31))).bind fun y27 => (c_Arrays_copyOfRange Zd K x12 (0 : Int32) y27 st26).bind fun r30 => (sF r30.2 o 12 0 (va_rf r30.1)).bind fun st31 => some st31) else none) else ((sF st o 12 1 (.int 0)).bind fun st32 => (c_Arrays_copyOfRange Zd K x12 (0 : Int32) x15 st32).bind fun r35 => (sF r35.2 o 12 0 (va_rf r35.1)).bind fun st36 => some st36)).bind fun e21 => some e21
set_option maxHeartbeats 4000000 in
set_option maxRecDepth 100000 in
theorem cc_String_init_qq (l : Launch) (G : Gk) (Zd : Nat → Nat) (K : KE) (o : Nat) (a0 : Option Nat) (a1 : Option Nat) (st : CS) (st0 : CS) (hm : c_String_init_qq Zd K o a0 a1 st = some st0) : CT l y21_150 prog_21_method_150_code 5 none G Zd K (3) [.ref o, va_rf a0, va_rf a1] st (hV G Zd st0) := by
  refine goH (d := 3) (y := y21_150) (cc := prog_21_method_150_code) (maxL := 5) (ret := none) (av := [.ref o, va_rf a0, va_rf a1]) (Qc := hV G Zd st0) "java/lang/String" rfl (by decide) (c1_c rfl (c1_c (rf_cat _) (c1_c (rf_cat _) c1_n))) (Nat.le_of_ble_eq_true rfl) ?_
  intro p e s m below meth c ls A args Q hQ hx hb hr hlk hml hown hts hin hl hE hw
  have hl : lw ls 5 [(0, .ref o), (1, va_rf a0), (2, va_rf a1)] := hl
  have hZ := hE.2.2.1
  have h := hm
  clear hm
  refine lv_aload_n hx hb d21_150_0 rfl (lv_at hl.1 0 rfl) ?_
  refine W.objInit hx hb hown (hts _ (List.mem_cons_of_mem _ k469)) (hts _ (List.mem_cons_of_mem _ k33)) (hts _ (List.mem_cons_of_mem _ kobj)) rfl (by rw [hml]; exact hl.1.1) rfl d21_150_1 (Nat.le_of_ble_eq_true rfl) (Nat.le_of_ble_eq_true rfl) ?_
  refine W.eq (g2 := F0 m 4 ls []) rfl ?_
  refine xq_aload_n (r := a0) hx hb d21_150_4 rfl (lv_at hl.1 1 rfl) ?_
  obtain ⟨a11z, hn11, h⟩ := ob h
  have hn11 : a0 = some a11z := hn11
  refine W.eq (g2 := F0 m 5 ls [.ref a11z]) (by rw [hn11]; rfl) ?_
  obtain ⟨u9, ho, h⟩ := ob h
  obtain ⟨x12, hc, h⟩ := ob h
  refine hU_q (ci := 2) (As := []) (rest := []) ⟨hx, hb, hml, hown, hts⟩ (cc_AbstractStringBuilder_getValue l G Zd K a11z st x12 hc) (kw_U (n := 0) (C := "java/lang/StringBuilder") (owner := "java/lang/AbstractStringBuilder") (x0 := y16_64) hts k474 k470 k3 k471 k472 (hts _ (List.mem_cons_of_mem _ k473)) (va_Decl.of (hts _ (List.mem_cons_of_mem _ k471)) (hts _ (List.mem_cons_of_mem _ k474))) (by decide +kernel) ⟨Nat.le_of_ble_eq_true rfl, Nat.le_of_ble_eq_true rfl⟩) hE hw rfl rfl ho rfl hl.1.1 rfl (c1_8 c1_n (Nat.le_of_ble_eq_true rfl)) d21_150_5 (fun H locs cells slots hw => ?_)
  clear hc ho u9
  refine W.eq (g2 := F0 m 8 ls [va_rf x12]) rfl ?_
  refine xt_astore_n (r := x12) (lv' := [(3, va_rf x12), (0, .ref o), (1, va_rf a0), (2, va_rf a1)]) hx hb d21_150_8 rfl hl (by decide) rfl (fun ls hl => ?_)
  refine xq_aload_n (r := a0) hx hb d21_150_9 rfl (lv_at hl.1 2 rfl) ?_
  refine W.eq (g2 := F0 m 10 ls [.ref a11z]) (by rw [hn11]; rfl) ?_
  obtain ⟨u9, ho, h⟩ := ob h
  obtain ⟨x15, hc, h⟩ := ob h
  refine hU_i (ci := 2) (As := []) (rest := []) ⟨hx, hb, hml, hown, hts⟩ (cc_StringBuilder_length l G Zd K a11z st x15 hc) (kw_U (n := 0) (C := "java/lang/StringBuilder") (owner := "java/lang/AbstractStringBuilder") (x0 := y16_6) hts k480 k475 k4 k479 k477 (hts _ (List.mem_cons_of_mem _ k478)) (va_Decl.of (hts _ (List.mem_cons_of_mem _ k476)) (hts _ (List.mem_cons_of_mem _ k482))) (by decide +kernel) ⟨Nat.le_of_ble_eq_true rfl, Nat.le_of_ble_eq_true rfl⟩) hE hw rfl rfl ho rfl hl.1.1 rfl (c1_8 c1_n (Nat.le_of_ble_eq_true rfl)) d21_150_10 (fun H locs cells slots hw => ?_)
  clear hc ho u9
  refine W.eq (g2 := F0 m 13 ls [.int x15]) rfl ?_
  refine xt_istore (x := x15) (lv' := [(4, .int x15), (3, va_rf x12), (0, .ref o), (1, va_rf a0), (2, va_rf a1)]) hx hb d21_150_13 hl (by decide) rfl (fun ls hl => ?_)
  refine xq_aload_n (r := a0) hx hb d21_150_15 rfl (lv_at hl.1 3 rfl) ?_
  refine W.eq (g2 := F0 m 16 ls [.ref a11z]) (by rw [hn11]; rfl) ?_
  obtain ⟨u9, ho, h⟩ := ob h
  obtain ⟨x18, hc, h⟩ := ob h
  refine hU_i (ci := 2) (As := []) (rest := []) ⟨hx, hb, hml, hown, hts⟩ (cc_AbstractStringBuilder_isLatin1 l G Zd K a11z st x18 hc) (kw_U (n := 0) (C := "java/lang/StringBuilder") (owner := "java/lang/AbstractStringBuilder") (x0 := y16_68) hts k441 k483 k3 k438 k439 (hts _ (List.mem_cons_of_mem _ k440)) (va_Decl.of (hts _ (List.mem_cons_of_mem _ k438)) (hts _ (List.mem_cons_of_mem _ k441))) (by decide +kernel) ⟨Nat.le_of_ble_eq_true rfl, Nat.le_of_ble_eq_true rfl⟩) hE hw rfl rfl ho rfl hl.1.1 rfl (c1_8 c1_n (Nat.le_of_ble_eq_true rfl)) d21_150_16 (fun H locs cells slots hw => ?_)
  clear hc ho u9
  refine W.eq (g2 := F0 m 19 ls [.int x18]) rfl ?_
  obtain ⟨e21, hX, h⟩ := ob h
  have hj : ∀ (H : Heap) (locs : List Loc) (cells slots : Nat) (ls : Array Slot), lw ls 5 [(0, .ref o), (1, va_rf a0), (2, va_rf a1), (3, va_rf x12), (4, .int x15)] → wsH G Zd A s e21 H locs → W p l e (rmH Zd (3) st.1) s m args below meth c H locs cells slots Q (F0 m 97 ls []) := by
    intro H locs cells slots ls hl hw
    cases h
    exact finH_v hQ hx hb hr hlk hE hw d21_150_97
  clear h
  refine lv_if_eq (tgt := 41) hx hb d21_150_19 rfl (fun c23 => ?_) (fun c23 => ?_)
  ·
    replace h := (if_pos c23).symm.trans hX
    refine va_gets (ref := "java/lang/String") hx hb hZ.1.2.1 hw.2.2.2 hown (hts _ (List.mem_cons_of_mem _ k493)) (fun _ h9 => h9) d21_150_41 ?_
    refine W.eq (g2 := F0 m 44 ls [.int 1]) rfl ?_
    refine lv_if_eq (tgt := 79) hx hb d21_150_44 rfl (fun hc => absurd hc (by decide)) (fun _ => ?_)
    refine xq_aload_n (r := a0) hx hb d21_150_47 rfl (lv_at hl.1 3 rfl) ?_
    refine W.eq (g2 := F0 m 48 ls [.ref a11z]) (by rw [hn11]; rfl) ?_
    obtain ⟨x24, hr, h⟩ := ob h
    refine xg_i (ci := 2) (C := r_2) (T := f_2) (N := 4) (ref := "java/lang/AbstractStringBuilder") hx hb hts (fun w h => List.mem_cons_of_mem _ (ly_2 w h)) hown hE hw rfl 2 (by decide) (hts _ (List.mem_cons_of_mem _ k62)) (fun _ h9 => h9) hr d21_150_48 ?_
    clear hr
    refine lv_if_eq (tgt := 79) hx hb d21_150_51 rfl (fun c25 => ?_) (fun c25 => ?_)
    ·
      replace h := (if_pos c25).symm.trans h
      refine lv_aload_n hx hb d21_150_79 rfl (lv_at hl.1 2 rfl) ?_
      refine lv_iconst (v := 1) hx hb d21_150_80 (by decide) ?_
      obtain ⟨st26, hr, h⟩ := ob h
      refine xpF (ci := 12) (ty := .byte) (C := r_12) (T := f_12) (N := 4) (ref := "java/lang/String") hx hb hts (fun w h => List.mem_cons_of_mem _ (ly_12 w h)) ft_12 ft_12_ok nm_12 hown hE hw rfl 1 (by decide) (hts _ (List.mem_cons_of_mem _ k528)) (fun _ h9 => h9) rfl hin rfl hr (by decide +kernel) (by decide) (by decide) d21_150_81 (fun H locs hw => ?_)
      clear hr
      refine lv_aload_n hx hb d21_150_84 rfl (lv_at hl.1 2 rfl) ?_
      refine xq_aload_n (r := x12) hx hb d21_150_85 rfl (lv_at hl.1 1 rfl) ?_
      refine lv_iconst (v := 0) hx hb d21_150_86 (by decide) ?_
      refine lv_iload hx hb d21_150_87 (lv_at hl.1 0 rfl) ?_
      refine lv_iconst (v := 1) hx hb d21_150_89 (by decide) ?_
      refine lv_ishl hx hb d21_150_90 ?_
      obtain ⟨y27, hr, h⟩ := ob h
      refine lv_topi (fun y9 ey => ?_)
      have e9 := ey.trans (Option.some.inj hr)
      clear ey
      subst y9
      clear hr
      obtain ⟨⟨x28, st29⟩, hc, h⟩ := ob h
      refine hS_q (As := [va_rf x12, .int 0, .int y27]) (rest := [.ref o]) ⟨hx, hb, hml, hown, hts⟩ (cc_Arrays_copyOfRange l G Zd K x12 (0 : Int32) y27 st26 x28 st29 hc) (kw_S (n := 3) hts k486 k484 k21 k485 (by decide +kernel) ⟨Nat.le_of_ble_eq_true rfl, Nat.le_of_ble_eq_true rfl⟩) hE hw rfl hl.1.1 rfl (c1_8 (c1_c rfl c1_n) (Nat.le_of_ble_eq_true rfl)) d21_150_91 (fun H locs cells slots hw => ?_)
      clear hc
      refine W.eq (g2 := F0 m 94 ls [va_rf x28, .ref o]) rfl ?_
      obtain ⟨st31, hr, h⟩ := ob h
      refine xpF (ci := 12) (ty := (ft_12 0)) (C := r_12) (T := f_12) (N := 4) (ref := "java/lang/String") hx hb hts (fun w h => List.mem_cons_of_mem _ (ly_12 w h)) ft_12 ft_12_ok nm_12 hown hE hw rfl 0 (by decide) (hts _ (List.mem_cons_of_mem _ k527)) (fun _ h9 => h9) rfl hin rfl hr (by decide +kernel) (rf_narA _) (rf_fitA _) d21_150_94 (fun H locs hw => ?_)
      clear hr
      have e9 := Option.some.inj h
      subst e21
      have hl := lw_sub hl (l' := [(0, .ref o), (1, va_rf a0), (2, va_rf a1), (3, va_rf x12), (4, .int x15)]) [2, 3, 4, 1, 0] rfl
      exact hj _ _ _ _ _ hl hw
    ·
      replace h := (if_neg c25).symm.trans h
      refine lv_aload_n hx hb d21_150_54 rfl (lv_at hl.1 2 rfl) ?_
      refine xq_aload_n (r := x12) hx hb d21_150_55 rfl (lv_at hl.1 1 rfl) ?_
      refine lv_iconst (v := 0) hx hb d21_150_56 (by decide) ?_
      refine lv_iload hx hb d21_150_57 (lv_at hl.1 0 rfl) ?_
      cases h
  ·
    replace h := (if_neg c23).symm.trans hX
    refine lv_aload_n hx hb d21_150_22 rfl (lv_at hl.1 2 rfl) ?_
    refine lv_iconst (v := 0) hx hb d21_150_23 (by decide) ?_
    obtain ⟨st32, hr, h⟩ := ob h
    refine xpF (ci := 12) (ty := .byte) (C := r_12) (T := f_12) (N := 4) (ref := "java/lang/String") hx hb hts (fun w h => List.mem_cons_of_mem _ (ly_12 w h)) ft_12 ft_12_ok nm_12 hown hE hw rfl 1 (by decide) (hts _ (List.mem_cons_of_mem _ k528)) (fun _ h9 => h9) rfl hin rfl hr (by decide +kernel) (by decide) (by decide) d21_150_24 (fun H locs hw => ?_)
    clear hr
    refine lv_aload_n hx hb d21_150_27 rfl (lv_at hl.1 2 rfl) ?_
    refine xq_aload_n (r := x12) hx hb d21_150_28 rfl (lv_at hl.1 1 rfl) ?_
    refine lv_iconst (v := 0) hx hb d21_150_29 (by decide) ?_
    refine lv_iload hx hb d21_150_30 (lv_at hl.1 0 rfl) ?_
    obtain ⟨⟨x33, st34⟩, hc, h⟩ := ob h
    refine hS_q (As := [va_rf x12, .int 0, .int x15]) (rest := [.ref o]) ⟨hx, hb, hml, hown, hts⟩ (cc_Arrays_copyOfRange l G Zd K x12 (0 : Int32) x15 st32 x33 st34 hc) (kw_S (n := 3) hts k486 k484 k21 k485 (by decide +kernel) ⟨Nat.le_of_ble_eq_true rfl, Nat.le_of_ble_eq_true rfl⟩) hE hw rfl hl.1.1 rfl (c1_8 (c1_c rfl c1_n) (Nat.le_of_ble_eq_true rfl)) d21_150_32 (fun H locs cells slots hw => ?_)
    clear hc
    refine W.eq (g2 := F0 m 35 ls [va_rf x33, .ref o]) rfl ?_
    obtain ⟨st36, hr, h⟩ := ob h
    refine xpF (ci := 12) (ty := (ft_12 0)) (C := r_12) (T := f_12) (N := 4) (ref := "java/lang/String") hx hb hts (fun w h => List.mem_cons_of_mem _ (ly_12 w h)) ft_12 ft_12_ok nm_12 hown hE hw rfl 0 (by decide) (hts _ (List.mem_cons_of_mem _ k527)) (fun _ h9 => h9) rfl hin rfl hr (by decide +kernel) (rf_narA _) (rf_fitA _) d21_150_35 (fun H locs hw => ?_)
    clear hr
    refine lv_goto (tgt := 97) hx hb d21_150_38 rfl ?_
    have e9 := Option.some.inj h
    subst e21
    have hl := lw_sub hl (l' := [(0, .ref o), (1, va_rf a0), (2, va_rf a1), (3, va_rf x12), (4, .int x15)]) [2, 3, 4, 1, 0] rfl
    exact hj _ _ _ _ _ hl hw
def c_String_init_q (Zd : Nat → Nat) (K : KE) (o : Nat) (a0 : Option Nat) (st : CS) : Option (CS) := (c_String_init_qq Zd K o a0 none st).bind fun st12 => some st12
set_option maxHeartbeats 4000000 in
set_option maxRecDepth 100000 in
theorem cc_String_init_q (l : Launch) (G : Gk) (Zd : Nat → Nat) (K : KE) (o : Nat) (a0 : Option Nat) (st : CS) (st0 : CS) (hm : c_String_init_q Zd K o a0 st = some st0) : CT l y21_53 prog_21_method_53_code 2 none G Zd K (4) [.ref o, va_rf a0] st (hV G Zd st0) := by
  refine goH (d := 4) (y := y21_53) (cc := prog_21_method_53_code) (maxL := 2) (ret := none) (av := [.ref o, va_rf a0]) (Qc := hV G Zd st0) "java/lang/String" rfl (by decide) (c1_c rfl (c1_c (rf_cat _) c1_n)) (Nat.le_of_ble_eq_true rfl) ?_
  intro p e s m below meth c ls A args Q hQ hx hb hr hlk hml hown hts hin hl hE hw
  have hl : lw ls 2 [(0, .ref o), (1, va_rf a0)] := hl
  have hZ := hE.2.2.1
  have h := hm
  clear hm
  refine lv_aload_n hx hb d21_53_0 rfl (lv_at hl.1 0 rfl) ?_
  refine xq_aload_n (r := a0) hx hb d21_53_1 rfl (lv_at hl.1 1 rfl) ?_
  refine lv_null hx hb d21_53_2 ?_
  obtain ⟨st12, hc, h⟩ := ob h
  refine hI_v (As := [va_rf a0, .null]) (rest := []) ⟨hx, hb, hml, hown, hts⟩ (cc_String_init_qq l G Zd K o a0 none st st12 hc) (kw_I (n := 2) hts k468 k466 k5 k467 rfl (by decide +kernel) ⟨Nat.le_of_ble_eq_true rfl, Nat.le_of_ble_eq_true rfl⟩) hE hw rfl hl.1.1 rfl (c1_8 c1_n (Nat.le_of_ble_eq_true rfl)) d21_53_3 (fun H locs cells slots hw => ?_)
  clear hc
  refine W.eq (g2 := F0 m 6 ls []) rfl ?_
  cases h
  exact finH_v hQ hx hb hr hlk hE hw d21_53_6
def c_StringBuilder_toString (Zd : Nat → Nat) (K : KE) (o : Nat) (st : CS) : Option (Option Nat × CS) := (some st.1.1).bind fun a11z => (nOc Zd st 12 4 [.null, .int 0, .int 0, .int 0]).bind fun st12 => (c_String_init_q Zd K a11z (some o) st12).bind fun st14 => some (some a11z, st14)
set_option maxHeartbeats 4000000 in
set_option maxRecDepth 100000 in
theorem cc_StringBuilder_toString (l : Launch) (G : Gk) (Zd : Nat → Nat) (K : KE) (o : Nat) (st : CS) (r0 : Option Nat) (st0 : CS) (hm : c_StringBuilder_toString Zd K o st = some (r0, st0)) : CT l y22_42 prog_22_method_42_code 1 (some (.object "java/lang/String")) G Zd K (5) [.ref o] st (hQ G Zd r0 st0) := by
  refine goH (d := 5) (y := y22_42) (cc := prog_22_method_42_code) (maxL := 1) (ret := (some (.object "java/lang/String"))) (av := [.ref o]) (Qc := hQ G Zd r0 st0) "java/lang/StringBuilder" rfl (by decide) (c1_c rfl c1_n) (Nat.le_of_ble_eq_true rfl) ?_
  intro p e s m below meth c ls A args Q hQ hx hb hr hlk hml hown hts hin hl hE hw
  have hl : lw ls 1 [(0, .ref o)] := hl
  have hZ := hE.2.2.1
  have h := hm
  clear hm
  obtain ⟨a11z, hr, h⟩ := ob h
  obtain ⟨st12, hr2, h⟩ := ob h
  refine xn (ci := 12) (fs := [.null, .int 0, .int 0, .int 0]) (C := r_12) (T := f_12) (N := 4) hx hb hts (fun w h => List.mem_cons_of_mem _ (ly_12 w h)) ft_12 ft_12_ok hown (hts _ (List.mem_cons_of_mem _ k461)) (hts _ (List.mem_cons_of_mem _ k462)) (hts _ (List.mem_cons_of_mem _ k5)) hE hw rfl (fun j hj => by rcases (show j = 0 ∨ j = 1 ∨ j = 2 ∨ j = 3 by omega) with rfl | rfl | rfl | rfl <;> rfl) hr hr2 d22_42_0 (fun H cells slots hw => ?_)
  clear hr hr2
  refine lv_dup hx hb d22_42_3 rfl ?_
  refine lv_aload_n hx hb d22_42_4 rfl (lv_at hl.1 0 rfl) ?_
  obtain ⟨st14, hc, h⟩ := ob h
  refine hI_v (As := [.ref o]) (rest := [.ref a11z]) ⟨hx, hb, hml, hown, hts⟩ (cc_String_init_q l G Zd K a11z (some o) st12 st14 hc) (kw_I (n := 1) hts k465 k463 k5 k464 rfl (by decide +kernel) ⟨Nat.le_of_ble_eq_true rfl, Nat.le_of_ble_eq_true rfl⟩) hE hw rfl hl.1.1 rfl (c1_8 (c1_c rfl c1_n) (Nat.le_of_ble_eq_true rfl)) d22_42_5 (fun H locs cells slots hw => ?_)
  clear hc
  refine W.eq (g2 := F0 m 8 ls [.ref a11z]) rfl ?_
  cases h
  exact finH_q hQ hx hb hr hlk rfl (Or.inl ⟨_, rfl⟩) hE hw d22_42_8
theorem d11_2_0 : decode prog_11_method_2_code 0 = .ok (.aload_n 0, 1) := by decide +kernel
theorem d11_2_1 : decode prog_11_method_2_code 1 = .ok (.getfield 26, 3) := by decide +kernel
theorem k77 : (Jvm.Cond.fieldLink "PagedValues$Text" (26 : Nat) "PagedValues$Text" "length" "I") ∈ TB := tk_1 77 rfl rfl
theorem d11_2_4 : decode prog_11_method_2_code 4 = .ok (.bipush 80, 2) := by decide +kernel
theorem d11_2_6 : decode prog_11_method_2_code 6 = .ok (.if_icmp .lt 5, 3) := by decide +kernel
theorem d11_2_11 : decode prog_11_method_2_code 11 = .ok (.aload_n 0, 1) := by decide +kernel
theorem d11_2_12 : decode prog_11_method_2_code 12 = .ok (.getfield 9, 3) := by decide +kernel
theorem d11_2_15 : decode prog_11_method_2_code 15 = .ok (.aload_n 0, 1) := by decide +kernel
theorem d11_2_16 : decode prog_11_method_2_code 16 = .ok (.getfield 26, 3) := by decide +kernel
theorem d11_2_19 : decode prog_11_method_2_code 19 = .ok (.iload_n 1, 1) := by decide +kernel
theorem d11_2_20 : decode prog_11_method_2_code 20 = .ok (.castore, 1) := by decide +kernel
theorem d11_2_21 : decode prog_11_method_2_code 21 = .ok (.aload_n 0, 1) := by decide +kernel
theorem d11_2_22 : decode prog_11_method_2_code 22 = .ok (.dup, 1) := by decide +kernel
theorem d11_2_23 : decode prog_11_method_2_code 23 = .ok (.getfield 26, 3) := by decide +kernel
theorem d11_2_26 : decode prog_11_method_2_code 26 = .ok (.iconst 1, 1) := by decide +kernel
theorem d11_2_27 : decode prog_11_method_2_code 27 = .ok (.iadd, 1) := by decide +kernel
theorem d11_2_28 : decode prog_11_method_2_code 28 = .ok (.putfield 26, 3) := by decide +kernel
theorem d11_2_31 : decode prog_11_method_2_code 31 = .ok (.iconst 1, 1) := by decide +kernel
theorem d11_2_32 : decode prog_11_method_2_code 32 = .ok (.ireturn, 1) := by decide +kernel
theorem d11_2_9 : decode prog_11_method_2_code 9 = .ok (.iconst 0, 1) := by decide +kernel
theorem d11_2_10 : decode prog_11_method_2_code 10 = .ok (.ireturn, 1) := by decide +kernel
def y11_2 : MethodName := { cls := "PagedValues$Text", name := "add", desc := "(C)Z" }
def c_Text_add (Zd : Nat → Nat) (K : KE) (o : Nat) (a0 : Int32) (st : CS) : Option (Int32 × CS) := (gI K st o 1 2).bind fun x11 => if x11 < (80 : Int32) then ((gQ K st o 1 0).bind fun x13 => (gI K st o 1 2).bind fun x14 => x13.bind fun a15z => (wA st a15z 0 x14 (vp_nar .char a0)).bind fun st16 => (gI K st16 o 1 2).bind fun x17 => (some (x17 + (1 : Int32))).bind fun y18 => (sF st16 o 1 2 (.int y18)).bind fun st19 => some ((1 : Int32), st19)) else (some ((0 : Int32), st))
set_option maxHeartbeats 4000000 in
set_option maxRecDepth 100000 in
theorem cc_Text_add (l : Launch) (G : Gk) (Zd : Nat → Nat) (K : KE) (o : Nat) (a0 : Int32) (st : CS) (r0 : Int32) (st0 : CS) (hm : c_Text_add Zd K o a0 st = some (r0, st0)) : CT l y11_2 prog_11_method_2_code 2 (some .boolean) G Zd K (0) [.ref o, .int a0] st (hI G Zd r0 st0) := by
  refine goH (d := 0) (y := y11_2) (cc := prog_11_method_2_code) (maxL := 2) (ret := (some .boolean)) (av := [.ref o, .int a0]) (Qc := hI G Zd r0 st0) "PagedValues$Text" rfl (by decide) (c1_c rfl (c1_c rfl c1_n)) (Nat.le_of_ble_eq_true rfl) ?_
  intro p e s m below meth c ls A args Q hQ hx hb hr hlk hml hown hts hin hl hE hw
  have hl : lw ls 2 [(0, .ref o), (1, .int a0)] := hl
  have hZ := hE.2.2.1
  have h := hm
  clear hm
  refine lv_aload_n hx hb d11_2_0 rfl (lv_at hl.1 0 rfl) ?_
  obtain ⟨x11, hr, h⟩ := ob h
  refine xg_i (ci := 1) (C := r_1) (T := f_1) (N := 5) (ref := "PagedValues$Text") hx hb hts (fun w h => List.mem_cons_of_mem _ (ly_1 w h)) hown hE hw rfl 2 (by decide) (hts _ (List.mem_cons_of_mem _ k77)) (fun _ h9 => h9) hr d11_2_1 ?_
  clear hr
  refine lv_bipush (v := 80) hx hb d11_2_4 (by decide) ?_
  refine lv_icmp_lt (tgt := 11) hx hb d11_2_6 rfl (fun c12 => ?_) (fun c12 => ?_)
  ·
    replace h := (if_pos c12).symm.trans h
    refine lv_aload_n hx hb d11_2_11 rfl (lv_at hl.1 0 rfl) ?_
    obtain ⟨x13, hr, h⟩ := ob h
    refine xg_q (ci := 1) (C := r_1) (T := f_1) (N := 5) (ref := "PagedValues$Text") hx hb hts (fun w h => List.mem_cons_of_mem _ (ly_1 w h)) hown hE hw rfl 0 (by decide) (hts _ (List.mem_cons_of_mem _ k75)) (fun _ h9 => h9) hr d11_2_12 ?_
    clear hr
    refine lv_aload_n hx hb d11_2_15 rfl (lv_at hl.1 0 rfl) ?_
    obtain ⟨x14, hr, h⟩ := ob h
    refine xg_i (ci := 1) (C := r_1) (T := f_1) (N := 5) (ref := "PagedValues$Text") hx hb hts (fun w h => List.mem_cons_of_mem _ (ly_1 w h)) hown hE hw rfl 2 (by decide) (hts _ (List.mem_cons_of_mem _ k77)) (fun _ h9 => h9) hr d11_2_16 ?_
    clear hr
    refine lv_iload_n hx hb d11_2_19 rfl (lv_at hl.1 1 rfl) ?_
    obtain ⟨a15z, hn15, h⟩ := ob h
    have hn15 : x13 = some a15z := hn15
    refine W.eq (g2 := F0 m 20 ls [.int a0, .int x14, .ref a15z]) (by rw [hn15]; rfl) ?_
    obtain ⟨st16, hr, h⟩ := ob h
    refine xs_c hx hb hE hw (i := x14) (v := a0) hr d11_2_20 (fun H locs hw => ?_)
    clear hr
    refine lv_aload_n hx hb d11_2_21 rfl (lv_at hl.1 0 rfl) ?_
    refine lv_dup hx hb d11_2_22 rfl ?_
    obtain ⟨x17, hr, h⟩ := ob h
    refine xg_i (ci := 1) (C := r_1) (T := f_1) (N := 5) (ref := "PagedValues$Text") hx hb hts (fun w h => List.mem_cons_of_mem _ (ly_1 w h)) hown hE hw rfl 2 (by decide) (hts _ (List.mem_cons_of_mem _ k77)) (fun _ h9 => h9) hr d11_2_23 ?_
    clear hr
    refine lv_iconst (v := 1) hx hb d11_2_26 (by decide) ?_
    refine lv_iadd hx hb d11_2_27 ?_
    obtain ⟨y18, hr, h⟩ := ob h
    refine lv_topi (fun y9 ey => ?_)
    have e9 := ey.trans (Option.some.inj hr)
    clear ey
    subst y9
    clear hr
    obtain ⟨st19, hr, h⟩ := ob h
    refine xp (ci := 1) (ty := .int) (C := r_1) (T := f_1) (N := 5) (ref := "PagedValues$Text") hx hb hts (fun w h => List.mem_cons_of_mem _ (ly_1 w h)) ft_1 ft_1_ok nm_1 hown hE hw rfl 2 (by decide) (hts _ (List.mem_cons_of_mem _ k77)) (fun _ h9 => h9) rfl hr (by decide +kernel) rfl rfl d11_2_28 (fun H locs hw => ?_)
    clear hr
    refine lv_iconst (v := 1) hx hb d11_2_31 (by decide) ?_
    cases h
    exact finH_z hQ hx hb hr hlk (by decide) hE hw d11_2_32
  ·
    replace h := (if_neg c12).symm.trans h
    refine lv_iconst (v := 0) hx hb d11_2_9 (by decide) ?_
    cases h
    exact finH_z hQ hx hb hr hlk (by decide) hE hw d11_2_10
theorem d11_3_0 : decode prog_11_method_3_code 0 = .ok (.aload_n 0, 1) := by decide +kernel
theorem d11_3_1 : decode prog_11_method_3_code 1 = .ok (.iconst 0, 1) := by decide +kernel
theorem d11_3_2 : decode prog_11_method_3_code 2 = .ok (.putfield 26, 3) := by decide +kernel
theorem d11_3_5 : decode prog_11_method_3_code 5 = .ok (.return_, 1) := by decide +kernel
def y11_3 : MethodName := { cls := "PagedValues$Text", name := "clear", desc := "()V" }
def c_Text_clear (Zd : Nat → Nat) (K : KE) (o : Nat) (st : CS) : Option (CS) := (sF st o 1 2 (.int 0)).bind fun st11 => some st11
set_option maxHeartbeats 4000000 in
set_option maxRecDepth 100000 in
theorem cc_Text_clear (l : Launch) (G : Gk) (Zd : Nat → Nat) (K : KE) (o : Nat) (st : CS) (st0 : CS) (hm : c_Text_clear Zd K o st = some st0) : CT l y11_3 prog_11_method_3_code 1 none G Zd K (0) [.ref o] st (hV G Zd st0) := by
  refine goH (d := 0) (y := y11_3) (cc := prog_11_method_3_code) (maxL := 1) (ret := none) (av := [.ref o]) (Qc := hV G Zd st0) "PagedValues$Text" rfl (by decide) (c1_c rfl c1_n) (Nat.le_of_ble_eq_true rfl) ?_
  intro p e s m below meth c ls A args Q hQ hx hb hr hlk hml hown hts hin hl hE hw
  have hl : lw ls 1 [(0, .ref o)] := hl
  have hZ := hE.2.2.1
  have h := hm
  clear hm
  refine lv_aload_n hx hb d11_3_0 rfl (lv_at hl.1 0 rfl) ?_
  refine lv_iconst (v := 0) hx hb d11_3_1 (by decide) ?_
  obtain ⟨st11, hr, h⟩ := ob h
  refine xp (ci := 1) (ty := .int) (C := r_1) (T := f_1) (N := 5) (ref := "PagedValues$Text") hx hb hts (fun w h => List.mem_cons_of_mem _ (ly_1 w h)) ft_1 ft_1_ok nm_1 hown hE hw rfl 2 (by decide) (hts _ (List.mem_cons_of_mem _ k77)) (fun _ h9 => h9) rfl hr (by decide +kernel) rfl rfl d11_3_2 (fun H locs hw => ?_)
  clear hr
  cases h
  exact finH_v hQ hx hb hr hlk hE hw d11_3_5
theorem d11_4_0 : decode prog_11_method_4_code 0 = .ok (.aload_n 0, 1) := by decide +kernel
theorem d11_4_1 : decode prog_11_method_4_code 1 = .ok (.iconst 0, 1) := by decide +kernel
theorem d11_4_2 : decode prog_11_method_4_code 2 = .ok (.putfield 29, 3) := by decide +kernel
theorem k79 : (Jvm.Cond.fieldLink "PagedValues$Text" (29 : Nat) "PagedValues$Text" "place" "I") ∈ TB := tk_1 79 rfl rfl
theorem d11_4_5 : decode prog_11_method_4_code 5 = .ok (.aload_n 0, 1) := by decide +kernel
theorem d11_4_6 : decode prog_11_method_4_code 6 = .ok (.iconst (-1), 1) := by decide +kernel
theorem d11_4_7 : decode prog_11_method_4_code 7 = .ok (.putfield 22, 3) := by decide +kernel
theorem d11_4_10 : decode prog_11_method_4_code 10 = .ok (.return_, 1) := by decide +kernel
def y11_4 : MethodName := { cls := "PagedValues$Text", name := "begin", desc := "()V" }
def c_Text_begin (Zd : Nat → Nat) (K : KE) (o : Nat) (st : CS) : Option (CS) := (sF st o 1 3 (.int 0)).bind fun st11 => (sF st11 o 1 4 (.int (-1))).bind fun st12 => some st12
set_option maxHeartbeats 4000000 in
set_option maxRecDepth 100000 in
theorem cc_Text_begin (l : Launch) (G : Gk) (Zd : Nat → Nat) (K : KE) (o : Nat) (st : CS) (st0 : CS) (hm : c_Text_begin Zd K o st = some st0) : CT l y11_4 prog_11_method_4_code 1 none G Zd K (0) [.ref o] st (hV G Zd st0) := by
  refine goH (d := 0) (y := y11_4) (cc := prog_11_method_4_code) (maxL := 1) (ret := none) (av := [.ref o]) (Qc := hV G Zd st0) "PagedValues$Text" rfl (by decide) (c1_c rfl c1_n) (Nat.le_of_ble_eq_true rfl) ?_
  intro p e s m below meth c ls A args Q hQ hx hb hr hlk hml hown hts hin hl hE hw
  have hl : lw ls 1 [(0, .ref o)] := hl
  have hZ := hE.2.2.1
  have h := hm
  clear hm
  refine lv_aload_n hx hb d11_4_0 rfl (lv_at hl.1 0 rfl) ?_
  refine lv_iconst (v := 0) hx hb d11_4_1 (by decide) ?_
  obtain ⟨st11, hr, h⟩ := ob h
  refine xp (ci := 1) (ty := .int) (C := r_1) (T := f_1) (N := 5) (ref := "PagedValues$Text") hx hb hts (fun w h => List.mem_cons_of_mem _ (ly_1 w h)) ft_1 ft_1_ok nm_1 hown hE hw rfl 3 (by decide) (hts _ (List.mem_cons_of_mem _ k79)) (fun _ h9 => h9) rfl hr (by decide +kernel) rfl rfl d11_4_2 (fun H locs hw => ?_)
  clear hr
  refine lv_aload_n hx hb d11_4_5 rfl (lv_at hl.1 0 rfl) ?_
  refine lv_iconst (v := (-1)) hx hb d11_4_6 (by decide) ?_
  obtain ⟨st12, hr, h⟩ := ob h
  refine xp (ci := 1) (ty := .int) (C := r_1) (T := f_1) (N := 5) (ref := "PagedValues$Text") hx hb hts (fun w h => List.mem_cons_of_mem _ (ly_1 w h)) ft_1 ft_1_ok nm_1 hown hE hw rfl 4 (by decide) (hts _ (List.mem_cons_of_mem _ k81)) (fun _ h9 => h9) rfl hr (by decide +kernel) rfl rfl d11_4_7 (fun H locs hw => ?_)
  clear hr
  cases h
  exact finH_v hQ hx hb hr hlk hE hw d11_4_10
theorem d11_5_0 : decode prog_11_method_5_code 0 = .ok (.aload_n 0, 1) := by decide +kernel
theorem d11_5_1 : decode prog_11_method_5_code 1 = .ok (.getfield 22, 3) := by decide +kernel
theorem d11_5_4 : decode prog_11_method_5_code 4 = .ok (.iconst (-1), 1) := by decide +kernel
theorem d11_5_5 : decode prog_11_method_5_code 5 = .ok (.if_icmp .ne 7, 3) := by decide +kernel
theorem d11_5_12 : decode prog_11_method_5_code 12 = .ok (.iconst 0, 1) := by decide +kernel
theorem d11_5_8 : decode prog_11_method_5_code 8 = .ok (.iconst 1, 1) := by decide +kernel
theorem d11_5_9 : decode prog_11_method_5_code 9 = .ok (.goto 4, 3) := by decide +kernel
theorem d11_5_13 : decode prog_11_method_5_code 13 = .ok (.ireturn, 1) := by decide +kernel
def y11_5 : MethodName := { cls := "PagedValues$Text", name := "isRight", desc := "()Z" }
def c_Text_isRight (Zd : Nat → Nat) (K : KE) (o : Nat) (st : CS) : Option (Int32) := (gI K st o 1 4).bind fun x11 => (if x11 = ((-1) : Int32) then (some (1 : Int32)) else (some (0 : Int32))).bind fun e12 => (bz e12).bind fun _ => some e12
set_option maxHeartbeats 4000000 in
set_option maxRecDepth 100000 in
theorem cc_Text_isRight (l : Launch) (G : Gk) (Zd : Nat → Nat) (K : KE) (o : Nat) (st : CS) (r0 : Int32) (hm : c_Text_isRight Zd K o st = some r0) : CT l y11_5 prog_11_method_5_code 1 (some .boolean) G Zd K (0) [.ref o] st (hI G Zd r0 st) := by
  refine goH (d := 0) (y := y11_5) (cc := prog_11_method_5_code) (maxL := 1) (ret := (some .boolean)) (av := [.ref o]) (Qc := hI G Zd r0 st) "PagedValues$Text" rfl (by decide) (c1_c rfl c1_n) (Nat.le_of_ble_eq_true rfl) ?_
  intro p e s m below meth c ls A args Q hQ hx hb hr hlk hml hown hts hin hl hE hw
  have hl : lw ls 1 [(0, .ref o)] := hl
  have hZ := hE.2.2.1
  have h := hm
  clear hm
  refine lv_aload_n hx hb d11_5_0 rfl (lv_at hl.1 0 rfl) ?_
  obtain ⟨x11, hr, h⟩ := ob h
  refine xg_i (ci := 1) (C := r_1) (T := f_1) (N := 5) (ref := "PagedValues$Text") hx hb hts (fun w h => List.mem_cons_of_mem _ (ly_1 w h)) hown hE hw rfl 4 (by decide) (hts _ (List.mem_cons_of_mem _ k81)) (fun _ h9 => h9) hr d11_5_1 ?_
  clear hr
  refine lv_iconst (v := (-1)) hx hb d11_5_4 (by decide) ?_
  obtain ⟨e12, hX, h⟩ := ob h
  have hj : ∀ (H : Heap) (locs : List Loc) (cells slots : Nat) (ls : Array Slot), lw ls 1 [(0, .ref o)] → wsH G Zd A s st H locs → W p l e (rmH Zd (0) st.1) s m args below meth c H locs cells slots Q (F0 m 13 ls [.int e12]) := by
    intro H locs cells slots ls hl hw
    obtain ⟨u9, hr9, h⟩ := ob h
    have hi := bz_some hr9
    clear hr9 u9
    cases h
    exact finH_z hQ hx hb hr hlk (nar01 hi) hE hw d11_5_13
  clear h
  refine lv_icmp_ne (tgt := 12) hx hb d11_5_5 rfl (fun c14 => ?_) (fun c14 => ?_)
  ·
    replace h := (if_neg c14).symm.trans hX
    refine lv_iconst (v := 0) hx hb d11_5_12 (by decide) ?_
    have e9 := Option.some.inj h
    subst e12
    have hl := lw_sub hl (l' := [(0, .ref o)]) [0] rfl
    exact hj _ _ _ _ _ hl hw
  ·
    replace h := (if_pos c14).symm.trans hX
    refine lv_iconst (v := 1) hx hb d11_5_8 (by decide) ?_
    refine lv_goto (tgt := 13) hx hb d11_5_9 rfl ?_
    have e9 := Option.some.inj h
    subst e12
    have hl := lw_sub hl (l' := [(0, .ref o)]) [0] rfl
    exact hj _ _ _ _ _ hl hw
theorem d11_6_0 : decode prog_11_method_6_code 0 = .ok (.aload_n 0, 1) := by decide +kernel
theorem d11_6_1 : decode prog_11_method_6_code 1 = .ok (.getfield 29, 3) := by decide +kernel
theorem d11_6_4 : decode prog_11_method_6_code 4 = .ok (.aload_n 0, 1) := by decide +kernel
theorem d11_6_5 : decode prog_11_method_6_code 5 = .ok (.getfield 26, 3) := by decide +kernel
theorem d11_6_8 : decode prog_11_method_6_code 8 = .ok (.if_icmp .lt 7, 3) := by decide +kernel
theorem d11_6_15 : decode prog_11_method_6_code 15 = .ok (.iconst 0, 1) := by decide +kernel
theorem d11_6_11 : decode prog_11_method_6_code 11 = .ok (.iconst 1, 1) := by decide +kernel
theorem d11_6_12 : decode prog_11_method_6_code 12 = .ok (.goto 4, 3) := by decide +kernel
theorem d11_6_16 : decode prog_11_method_6_code 16 = .ok (.ireturn, 1) := by decide +kernel
def y11_6 : MethodName := { cls := "PagedValues$Text", name := "atEnd", desc := "()Z" }
def c_Text_atEnd (Zd : Nat → Nat) (K : KE) (o : Nat) (st : CS) : Option (Int32) := (gI K st o 1 3).bind fun x11 => (gI K st o 1 2).bind fun x12 => (if x11 < x12 then (some (0 : Int32)) else (some (1 : Int32))).bind fun e13 => (bz e13).bind fun _ => some e13
set_option maxHeartbeats 4000000 in
set_option maxRecDepth 100000 in
theorem cc_Text_atEnd (l : Launch) (G : Gk) (Zd : Nat → Nat) (K : KE) (o : Nat) (st : CS) (r0 : Int32) (hm : c_Text_atEnd Zd K o st = some r0) : CT l y11_6 prog_11_method_6_code 1 (some .boolean) G Zd K (0) [.ref o] st (hI G Zd r0 st) := by
  refine goH (d := 0) (y := y11_6) (cc := prog_11_method_6_code) (maxL := 1) (ret := (some .boolean)) (av := [.ref o]) (Qc := hI G Zd r0 st) "PagedValues$Text" rfl (by decide) (c1_c rfl c1_n) (Nat.le_of_ble_eq_true rfl) ?_
  intro p e s m below meth c ls A args Q hQ hx hb hr hlk hml hown hts hin hl hE hw
  have hl : lw ls 1 [(0, .ref o)] := hl
  have hZ := hE.2.2.1
  have h := hm
  clear hm
  refine lv_aload_n hx hb d11_6_0 rfl (lv_at hl.1 0 rfl) ?_
  obtain ⟨x11, hr, h⟩ := ob h
  refine xg_i (ci := 1) (C := r_1) (T := f_1) (N := 5) (ref := "PagedValues$Text") hx hb hts (fun w h => List.mem_cons_of_mem _ (ly_1 w h)) hown hE hw rfl 3 (by decide) (hts _ (List.mem_cons_of_mem _ k79)) (fun _ h9 => h9) hr d11_6_1 ?_
  clear hr
  refine lv_aload_n hx hb d11_6_4 rfl (lv_at hl.1 0 rfl) ?_
  obtain ⟨x12, hr, h⟩ := ob h
  refine xg_i (ci := 1) (C := r_1) (T := f_1) (N := 5) (ref := "PagedValues$Text") hx hb hts (fun w h => List.mem_cons_of_mem _ (ly_1 w h)) hown hE hw rfl 2 (by decide) (hts _ (List.mem_cons_of_mem _ k77)) (fun _ h9 => h9) hr d11_6_5 ?_
  clear hr
  obtain ⟨e13, hX, h⟩ := ob h
  have hj : ∀ (H : Heap) (locs : List Loc) (cells slots : Nat) (ls : Array Slot), lw ls 1 [(0, .ref o)] → wsH G Zd A s st H locs → W p l e (rmH Zd (0) st.1) s m args below meth c H locs cells slots Q (F0 m 16 ls [.int e13]) := by
    intro H locs cells slots ls hl hw
    obtain ⟨u9, hr9, h⟩ := ob h
    have hi := bz_some hr9
    clear hr9 u9
    cases h
    exact finH_z hQ hx hb hr hlk (nar01 hi) hE hw d11_6_16
  clear h
  refine lv_icmp_lt (tgt := 15) hx hb d11_6_8 rfl (fun c15 => ?_) (fun c15 => ?_)
  ·
    replace h := (if_pos c15).symm.trans hX
    refine lv_iconst (v := 0) hx hb d11_6_15 (by decide) ?_
    have e9 := Option.some.inj h
    subst e13
    have hl := lw_sub hl (l' := [(0, .ref o)]) [0] rfl
    exact hj _ _ _ _ _ hl hw
  ·
    replace h := (if_neg c15).symm.trans hX
    refine lv_iconst (v := 1) hx hb d11_6_11 (by decide) ?_
    refine lv_goto (tgt := 16) hx hb d11_6_12 rfl ?_
    have e9 := Option.some.inj h
    subst e13
    have hl := lw_sub hl (l' := [(0, .ref o)]) [0] rfl
    exact hj _ _ _ _ _ hl hw
theorem d11_7_0 : decode prog_11_method_7_code 0 = .ok (.aload_n 0, 1) := by decide +kernel
theorem d11_7_1 : decode prog_11_method_7_code 1 = .ok (.getfield 22, 3) := by decide +kernel
theorem d11_7_4 : decode prog_11_method_7_code 4 = .ok (.iconst (-1), 1) := by decide +kernel
theorem d11_7_5 : decode prog_11_method_7_code 5 = .ok (.if_icmp .ne 8, 3) := by decide +kernel
theorem d11_7_8 : decode prog_11_method_7_code 8 = .ok (.aload_n 0, 1) := by decide +kernel
theorem d11_7_9 : decode prog_11_method_7_code 9 = .ok (.iload_n 1, 1) := by decide +kernel
theorem d11_7_10 : decode prog_11_method_7_code 10 = .ok (.putfield 22, 3) := by decide +kernel
theorem d11_7_13 : decode prog_11_method_7_code 13 = .ok (.return_, 1) := by decide +kernel
def y11_7 : MethodName := { cls := "PagedValues$Text", name := "failAt", desc := "(I)V" }
def c_Text_failAt (Zd : Nat → Nat) (K : KE) (o : Nat) (a0 : Int32) (st : CS) : Option (CS) := (gI K st o 1 4).bind fun x11 => (if x11 = ((-1) : Int32) then ((sF st o 1 4 (.int a0)).bind fun st15 => some st15) else (some st)).bind fun e12 => some e12
set_option maxHeartbeats 4000000 in
set_option maxRecDepth 100000 in
theorem cc_Text_failAt (l : Launch) (G : Gk) (Zd : Nat → Nat) (K : KE) (o : Nat) (a0 : Int32) (st : CS) (st0 : CS) (hm : c_Text_failAt Zd K o a0 st = some st0) : CT l y11_7 prog_11_method_7_code 2 none G Zd K (0) [.ref o, .int a0] st (hV G Zd st0) := by
  refine goH (d := 0) (y := y11_7) (cc := prog_11_method_7_code) (maxL := 2) (ret := none) (av := [.ref o, .int a0]) (Qc := hV G Zd st0) "PagedValues$Text" rfl (by decide) (c1_c rfl (c1_c rfl c1_n)) (Nat.le_of_ble_eq_true rfl) ?_
  intro p e s m below meth c ls A args Q hQ hx hb hr hlk hml hown hts hin hl hE hw
  have hl : lw ls 2 [(0, .ref o), (1, .int a0)] := hl
  have hZ := hE.2.2.1
  have h := hm
  clear hm
  refine lv_aload_n hx hb d11_7_0 rfl (lv_at hl.1 0 rfl) ?_
  obtain ⟨x11, hr, h⟩ := ob h
  refine xg_i (ci := 1) (C := r_1) (T := f_1) (N := 5) (ref := "PagedValues$Text") hx hb hts (fun w h => List.mem_cons_of_mem _ (ly_1 w h)) hown hE hw rfl 4 (by decide) (hts _ (List.mem_cons_of_mem _ k81)) (fun _ h9 => h9) hr d11_7_1 ?_
  clear hr
  refine lv_iconst (v := (-1)) hx hb d11_7_4 (by decide) ?_
  obtain ⟨e12, hX, h⟩ := ob h
  have hj : ∀ (H : Heap) (locs : List Loc) (cells slots : Nat) (ls : Array Slot), lw ls 2 [(0, .ref o), (1, .int a0)] → wsH G Zd A s e12 H locs → W p l e (rmH Zd (0) st.1) s m args below meth c H locs cells slots Q (F0 m 13 ls []) := by
    intro H locs cells slots ls hl hw
    cases h
    exact finH_v hQ hx hb hr hlk hE hw d11_7_13
  clear h
  refine lv_icmp_ne (tgt := 13) hx hb d11_7_5 rfl (fun c14 => ?_) (fun c14 => ?_)
  ·
    replace h := (if_neg c14).symm.trans hX
    have e9 := Option.some.inj h
    subst e12
    have hl := lw_sub hl (l' := [(0, .ref o), (1, .int a0)]) [0, 1] rfl
    exact hj _ _ _ _ _ hl hw
  ·
    replace h := (if_pos c14).symm.trans hX
    refine lv_aload_n hx hb d11_7_8 rfl (lv_at hl.1 0 rfl) ?_
    refine lv_iload_n hx hb d11_7_9 rfl (lv_at hl.1 1 rfl) ?_
    obtain ⟨st15, hr, h⟩ := ob h
    refine xp (ci := 1) (ty := .int) (C := r_1) (T := f_1) (N := 5) (ref := "PagedValues$Text") hx hb hts (fun w h => List.mem_cons_of_mem _ (ly_1 w h)) ft_1 ft_1_ok nm_1 hown hE hw rfl 4 (by decide) (hts _ (List.mem_cons_of_mem _ k81)) (fun _ h9 => h9) rfl hr (by decide +kernel) rfl rfl d11_7_10 (fun H locs hw => ?_)
    clear hr
    have e9 := Option.some.inj h
    subst e12
    have hl := lw_sub hl (l' := [(0, .ref o), (1, .int a0)]) [0, 1] rfl
    exact hj _ _ _ _ _ hl hw
theorem d11_8_0 : decode prog_11_method_8_code 0 = .ok (.aload_n 0, 1) := by decide +kernel
theorem d11_8_1 : decode prog_11_method_8_code 1 = .ok (.getfield 22, 3) := by decide +kernel
theorem d11_8_4 : decode prog_11_method_8_code 4 = .ok (.iconst (-1), 1) := by decide +kernel
theorem d11_8_5 : decode prog_11_method_8_code 5 = .ok (.if_icmp .ne 11, 3) := by decide +kernel
theorem d11_8_8 : decode prog_11_method_8_code 8 = .ok (.aload_n 0, 1) := by decide +kernel
theorem d11_8_9 : decode prog_11_method_8_code 9 = .ok (.aload_n 0, 1) := by decide +kernel
theorem d11_8_10 : decode prog_11_method_8_code 10 = .ok (.getfield 29, 3) := by decide +kernel
theorem d11_8_13 : decode prog_11_method_8_code 13 = .ok (.putfield 22, 3) := by decide +kernel
theorem d11_8_16 : decode prog_11_method_8_code 16 = .ok (.return_, 1) := by decide +kernel
def y11_8 : MethodName := { cls := "PagedValues$Text", name := "fail", desc := "()V" }
def c_Text_fail (Zd : Nat → Nat) (K : KE) (o : Nat) (st : CS) : Option (CS) := (gI K st o 1 4).bind fun x11 => (if x11 = ((-1) : Int32) then ((gI K st o 1 3).bind fun x15 => (sF st o 1 4 (.int x15)).bind fun st16 => some st16) else (some st)).bind fun e12 => some e12
set_option maxHeartbeats 4000000 in
set_option maxRecDepth 100000 in
theorem cc_Text_fail (l : Launch) (G : Gk) (Zd : Nat → Nat) (K : KE) (o : Nat) (st : CS) (st0 : CS) (hm : c_Text_fail Zd K o st = some st0) : CT l y11_8 prog_11_method_8_code 1 none G Zd K (0) [.ref o] st (hV G Zd st0) := by
  refine goH (d := 0) (y := y11_8) (cc := prog_11_method_8_code) (maxL := 1) (ret := none) (av := [.ref o]) (Qc := hV G Zd st0) "PagedValues$Text" rfl (by decide) (c1_c rfl c1_n) (Nat.le_of_ble_eq_true rfl) ?_
  intro p e s m below meth c ls A args Q hQ hx hb hr hlk hml hown hts hin hl hE hw
  have hl : lw ls 1 [(0, .ref o)] := hl
  have hZ := hE.2.2.1
  have h := hm
  clear hm
  refine lv_aload_n hx hb d11_8_0 rfl (lv_at hl.1 0 rfl) ?_
  obtain ⟨x11, hr, h⟩ := ob h
  refine xg_i (ci := 1) (C := r_1) (T := f_1) (N := 5) (ref := "PagedValues$Text") hx hb hts (fun w h => List.mem_cons_of_mem _ (ly_1 w h)) hown hE hw rfl 4 (by decide) (hts _ (List.mem_cons_of_mem _ k81)) (fun _ h9 => h9) hr d11_8_1 ?_
  clear hr
  refine lv_iconst (v := (-1)) hx hb d11_8_4 (by decide) ?_
  obtain ⟨e12, hX, h⟩ := ob h
  have hj : ∀ (H : Heap) (locs : List Loc) (cells slots : Nat) (ls : Array Slot), lw ls 1 [(0, .ref o)] → wsH G Zd A s e12 H locs → W p l e (rmH Zd (0) st.1) s m args below meth c H locs cells slots Q (F0 m 16 ls []) := by
    intro H locs cells slots ls hl hw
    cases h
    exact finH_v hQ hx hb hr hlk hE hw d11_8_16
  clear h
  refine lv_icmp_ne (tgt := 16) hx hb d11_8_5 rfl (fun c14 => ?_) (fun c14 => ?_)
  ·
    replace h := (if_neg c14).symm.trans hX
    have e9 := Option.some.inj h
    subst e12
    have hl := lw_sub hl (l' := [(0, .ref o)]) [0] rfl
    exact hj _ _ _ _ _ hl hw
  ·
    replace h := (if_pos c14).symm.trans hX
    refine lv_aload_n hx hb d11_8_8 rfl (lv_at hl.1 0 rfl) ?_
    refine lv_aload_n hx hb d11_8_9 rfl (lv_at hl.1 0 rfl) ?_
    obtain ⟨x15, hr, h⟩ := ob h
    refine xg_i (ci := 1) (C := r_1) (T := f_1) (N := 5) (ref := "PagedValues$Text") hx hb hts (fun w h => List.mem_cons_of_mem _ (ly_1 w h)) hown hE hw rfl 3 (by decide) (hts _ (List.mem_cons_of_mem _ k79)) (fun _ h9 => h9) hr d11_8_10 ?_
    clear hr
    obtain ⟨st16, hr, h⟩ := ob h
    refine xp (ci := 1) (ty := .int) (C := r_1) (T := f_1) (N := 5) (ref := "PagedValues$Text") hx hb hts (fun w h => List.mem_cons_of_mem _ (ly_1 w h)) ft_1 ft_1_ok nm_1 hown hE hw rfl 4 (by decide) (hts _ (List.mem_cons_of_mem _ k81)) (fun _ h9 => h9) rfl hr (by decide +kernel) rfl rfl d11_8_13 (fun H locs hw => ?_)
    clear hr
    have e9 := Option.some.inj h
    subst e12
    have hl := lw_sub hl (l' := [(0, .ref o)]) [0] rfl
    exact hj _ _ _ _ _ hl hw
theorem d11_9_0 : decode prog_11_method_9_code 0 = .ok (.aload_n 0, 1) := by decide +kernel
theorem d11_9_1 : decode prog_11_method_9_code 1 = .ok (.getfield 29, 3) := by decide +kernel
theorem d11_9_4 : decode prog_11_method_9_code 4 = .ok (.aload_n 0, 1) := by decide +kernel
theorem d11_9_5 : decode prog_11_method_9_code 5 = .ok (.getfield 26, 3) := by decide +kernel
theorem d11_9_8 : decode prog_11_method_9_code 8 = .ok (.if_icmp .ge 15, 3) := by decide +kernel
theorem d11_9_23 : decode prog_11_method_9_code 23 = .ok (.iconst (-1), 1) := by decide +kernel
theorem d11_9_11 : decode prog_11_method_9_code 11 = .ok (.aload_n 0, 1) := by decide +kernel
theorem d11_9_12 : decode prog_11_method_9_code 12 = .ok (.getfield 9, 3) := by decide +kernel
theorem d11_9_15 : decode prog_11_method_9_code 15 = .ok (.aload_n 0, 1) := by decide +kernel
theorem d11_9_16 : decode prog_11_method_9_code 16 = .ok (.getfield 29, 3) := by decide +kernel
theorem d11_9_19 : decode prog_11_method_9_code 19 = .ok (.caload, 1) := by decide +kernel
theorem d11_9_20 : decode prog_11_method_9_code 20 = .ok (.goto 4, 3) := by decide +kernel
theorem d11_9_24 : decode prog_11_method_9_code 24 = .ok (.ireturn, 1) := by decide +kernel
def y11_9 : MethodName := { cls := "PagedValues$Text", name := "ahead", desc := "()I" }
def c_Text_ahead (Zd : Nat → Nat) (K : KE) (o : Nat) (st : CS) : Option (Int32) := (gI K st o 1 3).bind fun x11 => (gI K st o 1 2).bind fun x12 => (if x12 ≤ x11 then (some ((-1) : Int32)) else ((gQ K st o 1 0).bind fun x16 => (gI K st o 1 3).bind fun x17 => x16.bind fun a18z => (rA K st a18z 0 x17).bind fun x19 => some x19)).bind fun e13 => some e13
set_option maxHeartbeats 4000000 in
set_option maxRecDepth 100000 in
theorem cc_Text_ahead (l : Launch) (G : Gk) (Zd : Nat → Nat) (K : KE) (o : Nat) (st : CS) (r0 : Int32) (hm : c_Text_ahead Zd K o st = some r0) : CT l y11_9 prog_11_method_9_code 1 (some .int) G Zd K (0) [.ref o] st (hI G Zd r0 st) := by
  refine goH (d := 0) (y := y11_9) (cc := prog_11_method_9_code) (maxL := 1) (ret := (some .int)) (av := [.ref o]) (Qc := hI G Zd r0 st) "PagedValues$Text" rfl (by decide) (c1_c rfl c1_n) (Nat.le_of_ble_eq_true rfl) ?_
  intro p e s m below meth c ls A args Q hQ hx hb hr hlk hml hown hts hin hl hE hw
  have hl : lw ls 1 [(0, .ref o)] := hl
  have hZ := hE.2.2.1
  have h := hm
  clear hm
  refine lv_aload_n hx hb d11_9_0 rfl (lv_at hl.1 0 rfl) ?_
  obtain ⟨x11, hr, h⟩ := ob h
  refine xg_i (ci := 1) (C := r_1) (T := f_1) (N := 5) (ref := "PagedValues$Text") hx hb hts (fun w h => List.mem_cons_of_mem _ (ly_1 w h)) hown hE hw rfl 3 (by decide) (hts _ (List.mem_cons_of_mem _ k79)) (fun _ h9 => h9) hr d11_9_1 ?_
  clear hr
  refine lv_aload_n hx hb d11_9_4 rfl (lv_at hl.1 0 rfl) ?_
  obtain ⟨x12, hr, h⟩ := ob h
  refine xg_i (ci := 1) (C := r_1) (T := f_1) (N := 5) (ref := "PagedValues$Text") hx hb hts (fun w h => List.mem_cons_of_mem _ (ly_1 w h)) hown hE hw rfl 2 (by decide) (hts _ (List.mem_cons_of_mem _ k77)) (fun _ h9 => h9) hr d11_9_5 ?_
  clear hr
  obtain ⟨e13, hX, h⟩ := ob h
  have hj : ∀ (H : Heap) (locs : List Loc) (cells slots : Nat) (ls : Array Slot), lw ls 1 [(0, .ref o)] → wsH G Zd A s st H locs → W p l e (rmH Zd (0) st.1) s m args below meth c H locs cells slots Q (F0 m 24 ls [.int e13]) := by
    intro H locs cells slots ls hl hw
    cases h
    exact finH_i hQ hx hb hr hlk hE hw d11_9_24
  clear h
  refine lv_icmp_ge (tgt := 23) hx hb d11_9_8 rfl (fun c15 => ?_) (fun c15 => ?_)
  ·
    replace h := (if_pos c15).symm.trans hX
    refine lv_iconst (v := (-1)) hx hb d11_9_23 (by decide) ?_
    have e9 := Option.some.inj h
    subst e13
    have hl := lw_sub hl (l' := [(0, .ref o)]) [0] rfl
    exact hj _ _ _ _ _ hl hw
  ·
    replace h := (if_neg c15).symm.trans hX
    refine lv_aload_n hx hb d11_9_11 rfl (lv_at hl.1 0 rfl) ?_
    obtain ⟨x16, hr, h⟩ := ob h
    refine xg_q (ci := 1) (C := r_1) (T := f_1) (N := 5) (ref := "PagedValues$Text") hx hb hts (fun w h => List.mem_cons_of_mem _ (ly_1 w h)) hown hE hw rfl 0 (by decide) (hts _ (List.mem_cons_of_mem _ k75)) (fun _ h9 => h9) hr d11_9_12 ?_
    clear hr
    refine lv_aload_n hx hb d11_9_15 rfl (lv_at hl.1 0 rfl) ?_
    obtain ⟨x17, hr, h⟩ := ob h
    refine xg_i (ci := 1) (C := r_1) (T := f_1) (N := 5) (ref := "PagedValues$Text") hx hb hts (fun w h => List.mem_cons_of_mem _ (ly_1 w h)) hown hE hw rfl 3 (by decide) (hts _ (List.mem_cons_of_mem _ k79)) (fun _ h9 => h9) hr d11_9_16 ?_
    clear hr
    obtain ⟨a18z, hn18, h⟩ := ob h
    have hn18 : x16 = some a18z := hn18
    refine W.eq (g2 := F0 m 19 ls [.int x17, .ref a18z]) (by rw [hn18]; rfl) ?_
    obtain ⟨x19, hr, h⟩ := ob h
    refine xa_c hx hb hE hw (i := x17) hr d11_9_19 ?_
    clear hr
    refine lv_goto (tgt := 24) hx hb d11_9_20 rfl ?_
    have e9 := Option.some.inj h
    subst e13
    have hl := lw_sub hl (l' := [(0, .ref o)]) [0] rfl
    exact hj _ _ _ _ _ hl hw
theorem d11_10_0 : decode prog_11_method_10_code 0 = .ok (.aload_n 0, 1) := by decide +kernel
theorem d11_10_1 : decode prog_11_method_10_code 1 = .ok (.getfield 29, 3) := by decide +kernel
theorem d11_10_4 : decode prog_11_method_10_code 4 = .ok (.aload_n 0, 1) := by decide +kernel
theorem d11_10_5 : decode prog_11_method_10_code 5 = .ok (.getfield 26, 3) := by decide +kernel
theorem d11_10_8 : decode prog_11_method_10_code 8 = .ok (.if_icmp .ge 16, 3) := by decide +kernel
theorem d11_10_24 : decode prog_11_method_10_code 24 = .ok (.iconst 0, 1) := by decide +kernel
theorem d11_10_25 : decode prog_11_method_10_code 25 = .ok (.ireturn, 1) := by decide +kernel
theorem d11_10_11 : decode prog_11_method_10_code 11 = .ok (.aload_n 0, 1) := by decide +kernel
theorem d11_10_12 : decode prog_11_method_10_code 12 = .ok (.getfield 9, 3) := by decide +kernel
theorem d11_10_15 : decode prog_11_method_10_code 15 = .ok (.aload_n 0, 1) := by decide +kernel
theorem d11_10_16 : decode prog_11_method_10_code 16 = .ok (.getfield 29, 3) := by decide +kernel
theorem d11_10_19 : decode prog_11_method_10_code 19 = .ok (.caload, 1) := by decide +kernel
theorem d11_10_20 : decode prog_11_method_10_code 20 = .ok (.iload_n 1, 1) := by decide +kernel
theorem d11_10_21 : decode prog_11_method_10_code 21 = .ok (.if_icmp .eq 5, 3) := by decide +kernel
theorem d11_10_26 : decode prog_11_method_10_code 26 = .ok (.aload_n 0, 1) := by decide +kernel
theorem d11_10_27 : decode prog_11_method_10_code 27 = .ok (.dup, 1) := by decide +kernel
theorem d11_10_28 : decode prog_11_method_10_code 28 = .ok (.getfield 29, 3) := by decide +kernel
theorem d11_10_31 : decode prog_11_method_10_code 31 = .ok (.iconst 1, 1) := by decide +kernel
theorem d11_10_32 : decode prog_11_method_10_code 32 = .ok (.iadd, 1) := by decide +kernel
theorem d11_10_33 : decode prog_11_method_10_code 33 = .ok (.putfield 29, 3) := by decide +kernel
theorem d11_10_36 : decode prog_11_method_10_code 36 = .ok (.iconst 1, 1) := by decide +kernel
theorem d11_10_37 : decode prog_11_method_10_code 37 = .ok (.ireturn, 1) := by decide +kernel
def y11_10 : MethodName := { cls := "PagedValues$Text", name := "take", desc := "(C)Z" }
def c_Text_take (Zd : Nat → Nat) (K : KE) (o : Nat) (a0 : Int32) (st : CS) : Option (Int32 × CS) := (gI K st o 1 3).bind fun x11 => (gI K st o 1 2).bind fun x12 => if x12 ≤ x11 then (some ((0 : Int32), st)) else ((gQ K st o 1 0).bind fun x14 => (gI K st o 1 3).bind fun x15 => x14.bind fun a16z => (rA K st a16z 0 x15).bind fun x17 => if x17 = a0 then ((gI K st o 1 3).bind fun x19 => (some (x19 + (1 : Int32))).bind fun y20 => (sF st o 1 3 (.int y20)).bind fun st21 => some ((1 : Int32), st21)) else (some ((0 : Int32), st)))
set_option maxHeartbeats 4000000 in
set_option maxRecDepth 100000 in
theorem cc_Text_take (l : Launch) (G : Gk) (Zd : Nat → Nat) (K : KE) (o : Nat) (a0 : Int32) (st : CS) (r0 : Int32) (st0 : CS) (hm : c_Text_take Zd K o a0 st = some (r0, st0)) : CT l y11_10 prog_11_method_10_code 2 (some .boolean) G Zd K (0) [.ref o, .int a0] st (hI G Zd r0 st0) := by
  refine goH (d := 0) (y := y11_10) (cc := prog_11_method_10_code) (maxL := 2) (ret := (some .boolean)) (av := [.ref o, .int a0]) (Qc := hI G Zd r0 st0) "PagedValues$Text" rfl (by decide) (c1_c rfl (c1_c rfl c1_n)) (Nat.le_of_ble_eq_true rfl) ?_
  intro p e s m below meth c ls A args Q hQ hx hb hr hlk hml hown hts hin hl hE hw
  have hl : lw ls 2 [(0, .ref o), (1, .int a0)] := hl
  have hZ := hE.2.2.1
  have h := hm
  clear hm
  refine lv_aload_n hx hb d11_10_0 rfl (lv_at hl.1 0 rfl) ?_
  obtain ⟨x11, hr, h⟩ := ob h
  refine xg_i (ci := 1) (C := r_1) (T := f_1) (N := 5) (ref := "PagedValues$Text") hx hb hts (fun w h => List.mem_cons_of_mem _ (ly_1 w h)) hown hE hw rfl 3 (by decide) (hts _ (List.mem_cons_of_mem _ k79)) (fun _ h9 => h9) hr d11_10_1 ?_
  clear hr
  refine lv_aload_n hx hb d11_10_4 rfl (lv_at hl.1 0 rfl) ?_
  obtain ⟨x12, hr, h⟩ := ob h
  refine xg_i (ci := 1) (C := r_1) (T := f_1) (N := 5) (ref := "PagedValues$Text") hx hb hts (fun w h => List.mem_cons_of_mem _ (ly_1 w h)) hown hE hw rfl 2 (by decide) (hts _ (List.mem_cons_of_mem _ k77)) (fun _ h9 => h9) hr d11_10_5 ?_
  clear hr
  refine lv_icmp_ge (tgt := 24) hx hb d11_10_8 rfl (fun c13 => ?_) (fun c13 => ?_)
  ·
    replace h := (if_pos c13).symm.trans h
    refine lv_iconst (v := 0) hx hb d11_10_24 (by decide) ?_
    cases h
    exact finH_z hQ hx hb hr hlk (by decide) hE hw d11_10_25
  ·
    replace h := (if_neg c13).symm.trans h
    refine lv_aload_n hx hb d11_10_11 rfl (lv_at hl.1 0 rfl) ?_
    obtain ⟨x14, hr, h⟩ := ob h
    refine xg_q (ci := 1) (C := r_1) (T := f_1) (N := 5) (ref := "PagedValues$Text") hx hb hts (fun w h => List.mem_cons_of_mem _ (ly_1 w h)) hown hE hw rfl 0 (by decide) (hts _ (List.mem_cons_of_mem _ k75)) (fun _ h9 => h9) hr d11_10_12 ?_
    clear hr
    refine lv_aload_n hx hb d11_10_15 rfl (lv_at hl.1 0 rfl) ?_
    obtain ⟨x15, hr, h⟩ := ob h
    refine xg_i (ci := 1) (C := r_1) (T := f_1) (N := 5) (ref := "PagedValues$Text") hx hb hts (fun w h => List.mem_cons_of_mem _ (ly_1 w h)) hown hE hw rfl 3 (by decide) (hts _ (List.mem_cons_of_mem _ k79)) (fun _ h9 => h9) hr d11_10_16 ?_
    clear hr
    obtain ⟨a16z, hn16, h⟩ := ob h
    have hn16 : x14 = some a16z := hn16
    refine W.eq (g2 := F0 m 19 ls [.int x15, .ref a16z]) (by rw [hn16]; rfl) ?_
    obtain ⟨x17, hr, h⟩ := ob h
    refine xa_c hx hb hE hw (i := x15) hr d11_10_19 ?_
    clear hr
    refine lv_iload_n hx hb d11_10_20 rfl (lv_at hl.1 1 rfl) ?_
    refine lv_icmp_eq (tgt := 26) hx hb d11_10_21 rfl (fun c18 => ?_) (fun c18 => ?_)
    ·
      replace h := (if_pos c18).symm.trans h
      refine lv_aload_n hx hb d11_10_26 rfl (lv_at hl.1 0 rfl) ?_
      refine lv_dup hx hb d11_10_27 rfl ?_
      obtain ⟨x19, hr, h⟩ := ob h
      refine xg_i (ci := 1) (C := r_1) (T := f_1) (N := 5) (ref := "PagedValues$Text") hx hb hts (fun w h => List.mem_cons_of_mem _ (ly_1 w h)) hown hE hw rfl 3 (by decide) (hts _ (List.mem_cons_of_mem _ k79)) (fun _ h9 => h9) hr d11_10_28 ?_
      clear hr
      refine lv_iconst (v := 1) hx hb d11_10_31 (by decide) ?_
      refine lv_iadd hx hb d11_10_32 ?_
      obtain ⟨y20, hr, h⟩ := ob h
      refine lv_topi (fun y9 ey => ?_)
      have e9 := ey.trans (Option.some.inj hr)
      clear ey
      subst y9
      clear hr
      obtain ⟨st21, hr, h⟩ := ob h
      refine xp (ci := 1) (ty := .int) (C := r_1) (T := f_1) (N := 5) (ref := "PagedValues$Text") hx hb hts (fun w h => List.mem_cons_of_mem _ (ly_1 w h)) ft_1 ft_1_ok nm_1 hown hE hw rfl 3 (by decide) (hts _ (List.mem_cons_of_mem _ k79)) (fun _ h9 => h9) rfl hr (by decide +kernel) rfl rfl d11_10_33 (fun H locs hw => ?_)
      clear hr
      refine lv_iconst (v := 1) hx hb d11_10_36 (by decide) ?_
      cases h
      exact finH_z hQ hx hb hr hlk (by decide) hE hw d11_10_37
    ·
      replace h := (if_neg c18).symm.trans h
      refine lv_iconst (v := 0) hx hb d11_10_24 (by decide) ?_
      cases h
      exact finH_z hQ hx hb hr hlk (by decide) hE hw d11_10_25
theorem d11_11_0 : decode prog_11_method_11_code 0 = .ok (.aload_n 0, 1) := by decide +kernel
theorem d11_11_1 : decode prog_11_method_11_code 1 = .ok (.iload_n 1, 1) := by decide +kernel
theorem d11_11_2 : decode prog_11_method_11_code 2 = .ok (.invokevirtual 32, 3) := by decide +kernel
theorem k384 : (Jvm.Cond.code ({ cls := "PagedValues$Text", name := "take", desc := "(C)Z" } : Jvm.MethodName) prog_11_method_10_code (2 : Nat) (Option.some Jvm.ClassFile.FieldType.boolean)) ∈ TB := tk_2 144 rfl rfl
theorem k381 : (Jvm.Cond.methodLink "PagedValues$Text" (32 : Nat) ({ cls := "PagedValues$Text", name := "take", desc := "(C)Z" } : Jvm.MethodName)) ∈ TB := tk_2 141 rfl rfl
theorem k382 : (Jvm.Cond.instanceMethod ({ cls := "PagedValues$Text", name := "take", desc := "(C)Z" } : Jvm.MethodName)) ∈ TB := tk_2 142 rfl rfl
theorem k383 : (Jvm.Cond.selects "PagedValues$Text" ({ cls := "PagedValues$Text", name := "take", desc := "(C)Z" } : Jvm.MethodName) ({ cls := "PagedValues$Text", name := "take", desc := "(C)Z" } : Jvm.MethodName)) ∈ TB := tk_2 143 rfl rfl
theorem d11_11_5 : decode prog_11_method_11_code 5 = .ok (.istore_n 2, 1) := by decide +kernel
theorem d11_11_6 : decode prog_11_method_11_code 6 = .ok (.iload_n 2, 1) := by decide +kernel
theorem d11_11_7 : decode prog_11_method_11_code 7 = .ok (.ifCond .ne 7, 3) := by decide +kernel
theorem d11_11_10 : decode prog_11_method_11_code 10 = .ok (.aload_n 0, 1) := by decide +kernel
theorem d11_11_11 : decode prog_11_method_11_code 11 = .ok (.invokevirtual 36, 3) := by decide +kernel
theorem k333 : (Jvm.Cond.code ({ cls := "PagedValues$Text", name := "fail", desc := "()V" } : Jvm.MethodName) prog_11_method_8_code (1 : Nat) (Option.none : Option Jvm.ClassFile.FieldType)) ∈ TB := tk_2 93 rfl rfl
theorem k385 : (Jvm.Cond.methodLink "PagedValues$Text" (36 : Nat) ({ cls := "PagedValues$Text", name := "fail", desc := "()V" } : Jvm.MethodName)) ∈ TB := tk_2 145 rfl rfl
theorem k331 : (Jvm.Cond.instanceMethod ({ cls := "PagedValues$Text", name := "fail", desc := "()V" } : Jvm.MethodName)) ∈ TB := tk_2 91 rfl rfl
theorem k332 : (Jvm.Cond.selects "PagedValues$Text" ({ cls := "PagedValues$Text", name := "fail", desc := "()V" } : Jvm.MethodName) ({ cls := "PagedValues$Text", name := "fail", desc := "()V" } : Jvm.MethodName)) ∈ TB := tk_2 92 rfl rfl
theorem d11_11_14 : decode prog_11_method_11_code 14 = .ok (.iload_n 2, 1) := by decide +kernel
theorem d11_11_15 : decode prog_11_method_11_code 15 = .ok (.ireturn, 1) := by decide +kernel
def y11_11 : MethodName := { cls := "PagedValues$Text", name := "need", desc := "(C)Z" }
def c_Text_need (Zd : Nat → Nat) (K : KE) (o : Nat) (a0 : Int32) (st : CS) : Option (Int32 × CS) := (isO K st o 1).bind fun _ => (c_Text_take Zd K o a0 st).bind fun r13 => (if r13.1 = (0 : Int32) then ((isO K r13.2 o 1).bind fun _ => (c_Text_fail Zd K o r13.2).bind fun st18 => some st18) else (some r13.2)).bind fun e14 => (bz r13.1).bind fun _ => some (r13.1, e14)
set_option maxHeartbeats 4000000 in
set_option maxRecDepth 100000 in
theorem cc_Text_need (l : Launch) (G : Gk) (Zd : Nat → Nat) (K : KE) (o : Nat) (a0 : Int32) (st : CS) (r0 : Int32) (st0 : CS) (hm : c_Text_need Zd K o a0 st = some (r0, st0)) : CT l y11_11 prog_11_method_11_code 3 (some .boolean) G Zd K (1) [.ref o, .int a0] st (hI G Zd r0 st0) := by
  refine goH (d := 1) (y := y11_11) (cc := prog_11_method_11_code) (maxL := 3) (ret := (some .boolean)) (av := [.ref o, .int a0]) (Qc := hI G Zd r0 st0) "PagedValues$Text" rfl (by decide) (c1_c rfl (c1_c rfl c1_n)) (Nat.le_of_ble_eq_true rfl) ?_
  intro p e s m below meth c ls A args Q hQ hx hb hr hlk hml hown hts hin hl hE hw
  have hl : lw ls 3 [(0, .ref o), (1, .int a0)] := hl
  have hZ := hE.2.2.1
  have h := hm
  clear hm
  refine lv_aload_n hx hb d11_11_0 rfl (lv_at hl.1 0 rfl) ?_
  refine lv_iload_n hx hb d11_11_1 rfl (lv_at hl.1 1 rfl) ?_
  obtain ⟨u9, ho, h⟩ := ob h
  obtain ⟨⟨x11, st12⟩, hc, h⟩ := ob h
  refine hV_i (ci := 1) (As := [.int a0]) (rest := []) ⟨hx, hb, hml, hown, hts⟩ (cc_Text_take l G Zd K o a0 st x11 st12 hc) (kw_V (n := 1) hts k384 k381 k2 k382 k383 (by decide +kernel) ⟨Nat.le_of_ble_eq_true rfl, Nat.le_of_ble_eq_true rfl⟩) hE hw rfl rfl ho rfl hl.1.1 rfl (c1_8 c1_n (Nat.le_of_ble_eq_true rfl)) d11_11_2 (fun H locs cells slots hw => ?_)
  clear hc ho u9
  refine W.eq (g2 := F0 m 5 ls [.int x11]) rfl ?_
  refine xt_istore_n (x := x11) (lv' := [(2, .int x11), (0, .ref o), (1, .int a0)]) hx hb d11_11_5 rfl hl (by decide) rfl (fun ls hl => ?_)
  refine lv_iload_n hx hb d11_11_6 rfl (lv_at hl.1 0 rfl) ?_
  obtain ⟨e14, hX, h⟩ := ob h
  have hj : ∀ (H : Heap) (locs : List Loc) (cells slots : Nat) (ls : Array Slot), lw ls 3 [(0, .ref o), (1, .int a0), (2, .int x11)] → wsH G Zd A s e14 H locs → W p l e (rmH Zd (1) st.1) s m args below meth c H locs cells slots Q (F0 m 14 ls []) := by
    intro H locs cells slots ls hl hw
    refine lv_iload_n hx hb d11_11_14 rfl (lv_at hl.1 2 rfl) ?_
    obtain ⟨u9, hr9, h⟩ := ob h
    have hi := bz_some hr9
    clear hr9 u9
    cases h
    exact finH_z hQ hx hb hr hlk (nar01 hi) hE hw d11_11_15
  clear h
  refine lv_if_ne (tgt := 14) hx hb d11_11_7 rfl (fun c16 => ?_) (fun c16 => ?_)
  ·
    replace h := (if_neg c16).symm.trans hX
    have e9 := Option.some.inj h
    subst e14
    have hl := lw_sub hl (l' := [(0, .ref o), (1, .int a0), (2, .int x11)]) [1, 2, 0] rfl
    exact hj _ _ _ _ _ hl hw
  ·
    replace h := (if_pos c16).symm.trans hX
    refine lv_aload_n hx hb d11_11_10 rfl (lv_at hl.1 1 rfl) ?_
    obtain ⟨u9, ho, h⟩ := ob h
    obtain ⟨st18, hc, h⟩ := ob h
    refine hV_v (ci := 1) (As := []) (rest := []) ⟨hx, hb, hml, hown, hts⟩ (cc_Text_fail l G Zd K o st12 st18 hc) (kw_V (n := 0) hts k333 k385 k2 k331 k332 (by decide +kernel) ⟨Nat.le_of_ble_eq_true rfl, Nat.le_of_ble_eq_true rfl⟩) hE hw rfl rfl ho rfl hl.1.1 rfl (c1_8 c1_n (Nat.le_of_ble_eq_true rfl)) d11_11_11 (fun H locs cells slots hw => ?_)
    clear hc ho u9
    refine W.eq (g2 := F0 m 14 ls []) rfl ?_
    have e9 := Option.some.inj h
    subst e14
    have hl := lw_sub hl (l' := [(0, .ref o), (1, .int a0), (2, .int x11)]) [1, 2, 0] rfl
    exact hj _ _ _ _ _ hl hw
theorem d11_12_34 : decode prog_11_method_12_code 34 = .ok (.return_, 1) := by decide +kernel
theorem d11_12_0 : decode prog_11_method_12_code 0 = .ok (.aload_n 0, 1) := by decide +kernel
theorem d11_12_1 : decode prog_11_method_12_code 1 = .ok (.getfield 29, 3) := by decide +kernel
theorem d11_12_4 : decode prog_11_method_12_code 4 = .ok (.aload_n 0, 1) := by decide +kernel
theorem d11_12_5 : decode prog_11_method_12_code 5 = .ok (.getfield 26, 3) := by decide +kernel
theorem d11_12_8 : decode prog_11_method_12_code 8 = .ok (.if_icmp .ge 26, 3) := by decide +kernel
theorem d11_12_11 : decode prog_11_method_12_code 11 = .ok (.aload_n 0, 1) := by decide +kernel
theorem d11_12_12 : decode prog_11_method_12_code 12 = .ok (.invokevirtual 39, 3) := by decide +kernel
theorem k326 : (Jvm.Cond.code ({ cls := "PagedValues$Text", name := "ahead", desc := "()I" } : Jvm.MethodName) prog_11_method_9_code (1 : Nat) (Option.some Jvm.ClassFile.FieldType.int)) ∈ TB := tk_2 86 rfl rfl
theorem k323 : (Jvm.Cond.methodLink "PagedValues$Text" (39 : Nat) ({ cls := "PagedValues$Text", name := "ahead", desc := "()I" } : Jvm.MethodName)) ∈ TB := tk_2 83 rfl rfl
theorem k324 : (Jvm.Cond.instanceMethod ({ cls := "PagedValues$Text", name := "ahead", desc := "()I" } : Jvm.MethodName)) ∈ TB := tk_2 84 rfl rfl
theorem k325 : (Jvm.Cond.selects "PagedValues$Text" ({ cls := "PagedValues$Text", name := "ahead", desc := "()I" } : Jvm.MethodName) ({ cls := "PagedValues$Text", name := "ahead", desc := "()I" } : Jvm.MethodName)) ∈ TB := tk_2 85 rfl rfl
theorem d11_12_15 : decode prog_11_method_12_code 15 = .ok (.invokestatic 43, 3) := by decide +kernel
theorem d11_17_0 : decode prog_11_method_17_code 0 = .ok (.iload_n 0, 1) := by decide +kernel
theorem d11_17_1 : decode prog_11_method_17_code 1 = .ok (.bipush 32, 2) := by decide +kernel
theorem d11_17_3 : decode prog_11_method_17_code 3 = .ok (.if_icmp .eq 21, 3) := by decide +kernel
theorem d11_17_24 : decode prog_11_method_17_code 24 = .ok (.iconst 1, 1) := by decide +kernel
theorem d11_17_25 : decode prog_11_method_17_code 25 = .ok (.goto 4, 3) := by decide +kernel
theorem d11_17_6 : decode prog_11_method_17_code 6 = .ok (.iload_n 0, 1) := by decide +kernel
theorem d11_17_7 : decode prog_11_method_17_code 7 = .ok (.bipush 9, 2) := by decide +kernel
theorem d11_17_9 : decode prog_11_method_17_code 9 = .ok (.if_icmp .eq 15, 3) := by decide +kernel
theorem d11_17_12 : decode prog_11_method_17_code 12 = .ok (.iload_n 0, 1) := by decide +kernel
theorem d11_17_13 : decode prog_11_method_17_code 13 = .ok (.bipush 10, 2) := by decide +kernel
theorem d11_17_15 : decode prog_11_method_17_code 15 = .ok (.if_icmp .eq 9, 3) := by decide +kernel
theorem d11_17_18 : decode prog_11_method_17_code 18 = .ok (.iload_n 0, 1) := by decide +kernel
theorem d11_17_19 : decode prog_11_method_17_code 19 = .ok (.bipush 13, 2) := by decide +kernel
theorem d11_17_21 : decode prog_11_method_17_code 21 = .ok (.if_icmp .ne 7, 3) := by decide +kernel
theorem d11_17_28 : decode prog_11_method_17_code 28 = .ok (.iconst 0, 1) := by decide +kernel
theorem d11_17_29 : decode prog_11_method_17_code 29 = .ok (.ireturn, 1) := by decide +kernel
def y11_17 : MethodName := { cls := "PagedValues$Text", name := "isBlank", desc := "(I)Z" }
theorem k329 : (Jvm.Cond.code ({ cls := "PagedValues$Text", name := "isBlank", desc := "(I)Z" } : Jvm.MethodName) prog_11_method_17_code (1 : Nat) (Option.some Jvm.ClassFile.FieldType.boolean)) ∈ TB := tk_2 89 rfl rfl
theorem k327 : (Jvm.Cond.methodLink "PagedValues$Text" (43 : Nat) ({ cls := "PagedValues$Text", name := "isBlank", desc := "(I)Z" } : Jvm.MethodName)) ∈ TB := tk_2 87 rfl rfl
theorem k328 : (Jvm.Cond.static ({ cls := "PagedValues$Text", name := "isBlank", desc := "(I)Z" } : Jvm.MethodName)) ∈ TB := tk_2 88 rfl rfl
theorem d11_12_18 : decode prog_11_method_12_code 18 = .ok (.ifCond .eq 16, 3) := by decide +kernel
theorem d11_12_21 : decode prog_11_method_12_code 21 = .ok (.aload_n 0, 1) := by decide +kernel
theorem d11_12_22 : decode prog_11_method_12_code 22 = .ok (.dup, 1) := by decide +kernel
theorem d11_12_23 : decode prog_11_method_12_code 23 = .ok (.getfield 29, 3) := by decide +kernel
theorem d11_12_26 : decode prog_11_method_12_code 26 = .ok (.iconst 1, 1) := by decide +kernel
theorem d11_12_27 : decode prog_11_method_12_code 27 = .ok (.iadd, 1) := by decide +kernel
theorem d11_12_28 : decode prog_11_method_12_code 28 = .ok (.putfield 29, 3) := by decide +kernel
theorem d11_12_31 : decode prog_11_method_12_code 31 = .ok (.goto (-31), 3) := by decide +kernel
def y11_12 : MethodName := { cls := "PagedValues$Text", name := "skipBlanks", desc := "()V" }
def c_Text_isBlank (Zd : Nat → Nat) (K : KE) (a0 : Int32) (st : CS) : Option (Int32) := (if a0 = (32 : Int32) then (some (1 : Int32)) else (if a0 = (9 : Int32) then (some (1 : Int32)) else (if a0 = (10 : Int32) then (some (1 : Int32)) else (if a0 = (13 : Int32) then (some (1 : Int32)) else (some (0 : Int32)))))).bind fun e11 => (bz e11).bind fun _ => some e11
set_option maxHeartbeats 4000000 in
set_option maxRecDepth 100000 in
theorem cc_Text_isBlank (l : Launch) (G : Gk) (Zd : Nat → Nat) (K : KE) (a0 : Int32) (st : CS) (r0 : Int32) (hm : c_Text_isBlank Zd K a0 st = some r0) : CT l y11_17 prog_11_method_17_code 1 (some .boolean) G Zd K (0) [.int a0] st (hI G Zd r0 st) := by
  refine goH (d := 0) (y := y11_17) (cc := prog_11_method_17_code) (maxL := 1) (ret := (some .boolean)) (av := [.int a0]) (Qc := hI G Zd r0 st) "PagedValues$Text" rfl (by decide) (c1_c rfl c1_n) (Nat.le_of_ble_eq_true rfl) ?_
  intro p e s m below meth c ls A args Q hQ hx hb hr hlk hml hown hts hin hl hE hw
  have hl : lw ls 1 [(0, .int a0)] := hl
  have hZ := hE.2.2.1
  have h := hm
  clear hm
  refine lv_iload_n hx hb d11_17_0 rfl (lv_at hl.1 0 rfl) ?_
  refine lv_bipush (v := 32) hx hb d11_17_1 (by decide) ?_
  obtain ⟨e11, hX, h⟩ := ob h
  have hj : ∀ (H : Heap) (locs : List Loc) (cells slots : Nat) (ls : Array Slot), lw ls 1 [(0, .int a0)] → wsH G Zd A s st H locs → W p l e (rmH Zd (0) st.1) s m args below meth c H locs cells slots Q (F0 m 29 ls [.int e11]) := by
    intro H locs cells slots ls hl hw
    obtain ⟨u9, hr9, h⟩ := ob h
    have hi := bz_some hr9
    clear hr9 u9
    cases h
    exact finH_z hQ hx hb hr hlk (nar01 hi) hE hw d11_17_29
  clear h
  refine lv_icmp_eq (tgt := 24) hx hb d11_17_3 rfl (fun c13 => ?_) (fun c13 => ?_)
  ·
    replace h := (if_pos c13).symm.trans hX
    refine lv_iconst (v := 1) hx hb d11_17_24 (by decide) ?_
    refine lv_goto (tgt := 29) hx hb d11_17_25 rfl ?_
    have e9 := Option.some.inj h
    subst e11
    have hl := lw_sub hl (l' := [(0, .int a0)]) [0] rfl
    exact hj _ _ _ _ _ hl hw
  ·
    replace h := (if_neg c13).symm.trans hX
    refine lv_iload_n hx hb d11_17_6 rfl (lv_at hl.1 0 rfl) ?_
    refine lv_bipush (v := 9) hx hb d11_17_7 (by decide) ?_
    refine lv_icmp_eq (tgt := 24) hx hb d11_17_9 rfl (fun c14 => ?_) (fun c14 => ?_)
    ·
      replace h := (if_pos c14).symm.trans h
      refine lv_iconst (v := 1) hx hb d11_17_24 (by decide) ?_
      refine lv_goto (tgt := 29) hx hb d11_17_25 rfl ?_
      have e9 := Option.some.inj h
      subst e11
      have hl := lw_sub hl (l' := [(0, .int a0)]) [0] rfl
      exact hj _ _ _ _ _ hl hw
    ·
      replace h := (if_neg c14).symm.trans h
      refine lv_iload_n hx hb d11_17_12 rfl (lv_at hl.1 0 rfl) ?_
      refine lv_bipush (v := 10) hx hb d11_17_13 (by decide) ?_
      refine lv_icmp_eq (tgt := 24) hx hb d11_17_15 rfl (fun c15 => ?_) (fun c15 => ?_)
      ·
        replace h := (if_pos c15).symm.trans h
        refine lv_iconst (v := 1) hx hb d11_17_24 (by decide) ?_
        refine lv_goto (tgt := 29) hx hb d11_17_25 rfl ?_
        have e9 := Option.some.inj h
        subst e11
        have hl := lw_sub hl (l' := [(0, .int a0)]) [0] rfl
        exact hj _ _ _ _ _ hl hw
      ·
        replace h := (if_neg c15).symm.trans h
        refine lv_iload_n hx hb d11_17_18 rfl (lv_at hl.1 0 rfl) ?_
        refine lv_bipush (v := 13) hx hb d11_17_19 (by decide) ?_
        refine lv_icmp_ne (tgt := 28) hx hb d11_17_21 rfl (fun c16 => ?_) (fun c16 => ?_)
        ·
          replace h := (if_neg c16).symm.trans h
          refine lv_iconst (v := 0) hx hb d11_17_28 (by decide) ?_
          have e9 := Option.some.inj h
          subst e11
          have hl := lw_sub hl (l' := [(0, .int a0)]) [0] rfl
          exact hj _ _ _ _ _ hl hw
        ·
          replace h := (if_pos c16).symm.trans h
          refine lv_iconst (v := 1) hx hb d11_17_24 (by decide) ?_
          refine lv_goto (tgt := 29) hx hb d11_17_25 rfl ?_
          have e9 := Option.some.inj h
          subst e11
          have hl := lw_sub hl (l' := [(0, .int a0)]) [0] rfl
          exact hj _ _ _ _ _ hl hw
def c_Text_skipBlanks_l1 (Zd : Nat → Nat) (K : KE) (o : Nat) : Nat → (CS) → Option (CS)
  | 0, _ => none
  | n9 + 1, e9 => (gI K e9 o 1 3).bind fun x14 => (gI K e9 o 1 2).bind fun x15 => if x15 ≤ x14 then (some e9) else ((isO K e9 o 1).bind fun _ => (c_Text_ahead Zd K o e9).bind fun x17 => (c_Text_isBlank Zd K x17 e9).bind fun x20 => if x20 = (0 : Int32) then (some e9) else ((gI K e9 o 1 3).bind fun x24 => (some (x24 + (1 : Int32))).bind fun y25 => (sF e9 o 1 3 (.int y25)).bind fun st26 => c_Text_skipBlanks_l1 Zd K o n9 st26))
theorem c_Text_skipBlanks_l1_s (Zd : Nat → Nat) (K : KE) (o : Nat) (n9 : Nat) (e9 : CS) : c_Text_skipBlanks_l1 Zd K o (n9 + 1) e9 = ((gI K e9 o 1 3).bind fun x14 => (gI K e9 o 1 2).bind fun x15 => if x15 ≤ x14 then (some e9) else ((isO K e9 o 1).bind fun _ => (c_Text_ahead Zd K o e9).bind fun x17 => (c_Text_isBlank Zd K x17 e9).bind fun x20 => if x20 = (0 : Int32) then (some e9) else ((gI K e9 o 1 3).bind fun x24 => (some (x24 + (1 : Int32))).bind fun y25 => (sF e9 o 1 3 (.int y25)).bind fun st26 => c_Text_skipBlanks_l1 Zd K o n9 st26))) := rfl
def c_Text_skipBlanks (Zd : Nat → Nat) (K : KE) (o : Nat) (st : CS) : Option (CS) := (c_Text_skipBlanks_l1 Zd K o 4096 st).bind fun e11 => some e11
set_option maxHeartbeats 4000000 in
set_option maxRecDepth 100000 in
theorem cc_Text_skipBlanks (l : Launch) (G : Gk) (Zd : Nat → Nat) (K : KE) (o : Nat) (st : CS) (st0 : CS) (hm : c_Text_skipBlanks Zd K o st = some st0) : CT l y11_12 prog_11_method_12_code 1 none G Zd K (1) [.ref o] st (hV G Zd st0) := by
  refine goH (d := 1) (y := y11_12) (cc := prog_11_method_12_code) (maxL := 1) (ret := none) (av := [.ref o]) (Qc := hV G Zd st0) "PagedValues$Text" rfl (by decide) (c1_c rfl c1_n) (Nat.le_of_ble_eq_true rfl) ?_
  intro p e s m below meth c ls A args Q hQ hx hb hr hlk hml hown hts hin hl hE hw
  have hl : lw ls 1 [(0, .ref o)] := hl
  have hZ := hE.2.2.1
  have h := hm
  clear hm
  obtain ⟨e11, hX, hrest⟩ := ob h
  clear h
  have hj : ∀ (v13 : CS), e11 = (v13) → ∀ (H : Heap) (locs : List Loc) (cells slots : Nat) (ls : Array Slot), lw ls 1 [(0, .ref o)] → wsH G Zd A s v13 H locs → W p l e (rmH Zd (1) st.1) s m args below meth c H locs cells slots Q (F0 m 34 ls []) := by
    intro v13 he H locs cells slots ls hl hw
    subst e11
    have h := hrest
    clear hrest
    cases h
    exact finH_v hQ hx hb hr hlk hE hw d11_12_34
  have hloop : ∀ (n9 : Nat) (v12 : CS), c_Text_skipBlanks_l1 Zd K o n9 (v12) = some e11 → ∀ (H : Heap) (locs : List Loc) (cells slots : Nat) (ls : Array Slot), lw ls 1 [(0, .ref o)] → wsH G Zd A s v12 H locs → W p l e (rmH Zd (1) st.1) s m args below meth c H locs cells slots Q (F0 m 0 ls []) := by
    intro n9
    induction n9 with
    | zero =>
      intro v12 h
      cases h
    | succ n9 ih =>
      intro v12 h H locs cells slots ls hl hw
      replace h := (c_Text_skipBlanks_l1_s Zd K o n9 (v12)).symm.trans h
      refine lv_aload_n hx hb d11_12_0 rfl (lv_at hl.1 0 rfl) ?_
      obtain ⟨x14, hr, h⟩ := ob h
      refine xg_i (ci := 1) (C := r_1) (T := f_1) (N := 5) (ref := "PagedValues$Text") hx hb hts (fun w h => List.mem_cons_of_mem _ (ly_1 w h)) hown hE hw rfl 3 (by decide) (hts _ (List.mem_cons_of_mem _ k79)) (fun _ h9 => h9) hr d11_12_1 ?_
      clear hr
      refine lv_aload_n hx hb d11_12_4 rfl (lv_at hl.1 0 rfl) ?_
      obtain ⟨x15, hr, h⟩ := ob h
      refine xg_i (ci := 1) (C := r_1) (T := f_1) (N := 5) (ref := "PagedValues$Text") hx hb hts (fun w h => List.mem_cons_of_mem _ (ly_1 w h)) hown hE hw rfl 2 (by decide) (hts _ (List.mem_cons_of_mem _ k77)) (fun _ h9 => h9) hr d11_12_5 ?_
      clear hr
      refine lv_icmp_ge (tgt := 34) hx hb d11_12_8 rfl (fun c16 => ?_) (fun c16 => ?_)
      ·
        replace h := (if_pos c16).symm.trans h
        have e9 := Option.some.inj h
        subst e11
        have hl := lw_sub hl (l' := [(0, .ref o)]) [0] rfl
        exact hj _ rfl _ _ _ _ _ hl hw
      ·
        replace h := (if_neg c16).symm.trans h
        refine lv_aload_n hx hb d11_12_11 rfl (lv_at hl.1 0 rfl) ?_
        obtain ⟨u9, ho, h⟩ := ob h
        obtain ⟨x17, hc, h⟩ := ob h
        refine hV_i (ci := 1) (As := []) (rest := []) ⟨hx, hb, hml, hown, hts⟩ (cc_Text_ahead l G Zd K o v12 x17 hc) (kw_V (n := 0) hts k326 k323 k2 k324 k325 (by decide +kernel) ⟨Nat.le_of_ble_eq_true rfl, Nat.le_of_ble_eq_true rfl⟩) hE hw rfl rfl ho rfl hl.1.1 rfl (c1_8 c1_n (Nat.le_of_ble_eq_true rfl)) d11_12_12 (fun H locs cells slots hw => ?_)
        clear hc ho u9
        refine W.eq (g2 := F0 m 15 ls [.int x17]) rfl ?_
        obtain ⟨x20, hc, h⟩ := ob h
        refine hS_i (As := [.int x17]) (rest := []) ⟨hx, hb, hml, hown, hts⟩ (cc_Text_isBlank l G Zd K x17 v12 x20 hc) (kw_S (n := 1) hts k329 k327 k2 k328 (by decide +kernel) ⟨Nat.le_of_ble_eq_true rfl, Nat.le_of_ble_eq_true rfl⟩) hE hw rfl hl.1.1 rfl (c1_8 c1_n (Nat.le_of_ble_eq_true rfl)) d11_12_15 (fun H locs cells slots hw => ?_)
        clear hc
        refine W.eq (g2 := F0 m 18 ls [.int x20]) rfl ?_
        refine lv_if_eq (tgt := 34) hx hb d11_12_18 rfl (fun c23 => ?_) (fun c23 => ?_)
        ·
          replace h := (if_pos c23).symm.trans h
          have e9 := Option.some.inj h
          subst e11
          have hl := lw_sub hl (l' := [(0, .ref o)]) [0] rfl
          exact hj _ rfl _ _ _ _ _ hl hw
        ·
          replace h := (if_neg c23).symm.trans h
          refine lv_aload_n hx hb d11_12_21 rfl (lv_at hl.1 0 rfl) ?_
          refine lv_dup hx hb d11_12_22 rfl ?_
          obtain ⟨x24, hr, h⟩ := ob h
          refine xg_i (ci := 1) (C := r_1) (T := f_1) (N := 5) (ref := "PagedValues$Text") hx hb hts (fun w h => List.mem_cons_of_mem _ (ly_1 w h)) hown hE hw rfl 3 (by decide) (hts _ (List.mem_cons_of_mem _ k79)) (fun _ h9 => h9) hr d11_12_23 ?_
          clear hr
          refine lv_iconst (v := 1) hx hb d11_12_26 (by decide) ?_
          refine lv_iadd hx hb d11_12_27 ?_
          obtain ⟨y25, hr, h⟩ := ob h
          refine lv_topi (fun y9 ey => ?_)
          have e9 := ey.trans (Option.some.inj hr)
          clear ey
          subst y9
          clear hr
          obtain ⟨st26, hr, h⟩ := ob h
          refine xp (ci := 1) (ty := .int) (C := r_1) (T := f_1) (N := 5) (ref := "PagedValues$Text") hx hb hts (fun w h => List.mem_cons_of_mem _ (ly_1 w h)) ft_1 ft_1_ok nm_1 hown hE hw rfl 3 (by decide) (hts _ (List.mem_cons_of_mem _ k79)) (fun _ h9 => h9) rfl hr (by decide +kernel) rfl rfl d11_12_28 (fun H locs hw => ?_)
          clear hr
          refine lv_goto (tgt := 0) hx hb d11_12_31 rfl ?_
          have hl := lw_sub hl (l' := [(0, .ref o)]) [0] rfl
          exact ih _ h _ _ _ _ _ hl hw
  have hl := lw_sub hl (l' := [(0, .ref o)]) [0] rfl
  exact hloop _ _ hX _ _ _ _ _ hl hw
theorem d11_13_0 : decode prog_11_method_13_code 0 = .ok (.aload_n 0, 1) := by decide +kernel
theorem d11_13_1 : decode prog_11_method_13_code 1 = .ok (.invokevirtual 39, 3) := by decide +kernel
theorem d11_13_4 : decode prog_11_method_13_code 4 = .ok (.invokestatic 47, 3) := by decide +kernel
theorem d11_18_0 : decode prog_11_method_18_code 0 = .ok (.iload_n 0, 1) := by decide +kernel
theorem d11_18_1 : decode prog_11_method_18_code 1 = .ok (.bipush 48, 2) := by decide +kernel
theorem d11_18_3 : decode prog_11_method_18_code 3 = .ok (.if_icmp .lt 13, 3) := by decide +kernel
theorem d11_18_16 : decode prog_11_method_18_code 16 = .ok (.iconst 0, 1) := by decide +kernel
theorem d11_18_6 : decode prog_11_method_18_code 6 = .ok (.iload_n 0, 1) := by decide +kernel
theorem d11_18_7 : decode prog_11_method_18_code 7 = .ok (.bipush 57, 2) := by decide +kernel
theorem d11_18_9 : decode prog_11_method_18_code 9 = .ok (.if_icmp .gt 7, 3) := by decide +kernel
theorem d11_18_12 : decode prog_11_method_18_code 12 = .ok (.iconst 1, 1) := by decide +kernel
theorem d11_18_13 : decode prog_11_method_18_code 13 = .ok (.goto 4, 3) := by decide +kernel
theorem d11_18_17 : decode prog_11_method_18_code 17 = .ok (.ireturn, 1) := by decide +kernel
def y11_18 : MethodName := { cls := "PagedValues$Text", name := "isDigit", desc := "(I)Z" }
theorem k664 : (Jvm.Cond.code ({ cls := "PagedValues$Text", name := "isDigit", desc := "(I)Z" } : Jvm.MethodName) prog_11_method_18_code (1 : Nat) (Option.some Jvm.ClassFile.FieldType.boolean)) ∈ TB := tk_3 184 rfl rfl
theorem k662 : (Jvm.Cond.methodLink "PagedValues$Text" (47 : Nat) ({ cls := "PagedValues$Text", name := "isDigit", desc := "(I)Z" } : Jvm.MethodName)) ∈ TB := tk_3 182 rfl rfl
theorem k663 : (Jvm.Cond.static ({ cls := "PagedValues$Text", name := "isDigit", desc := "(I)Z" } : Jvm.MethodName)) ∈ TB := tk_3 183 rfl rfl
theorem d11_13_7 : decode prog_11_method_13_code 7 = .ok (.ifCond .ne 9, 3) := by decide +kernel
theorem d11_13_16 : decode prog_11_method_13_code 16 = .ok (.aload_n 0, 1) := by decide +kernel
theorem d11_13_17 : decode prog_11_method_13_code 17 = .ok (.bipush 48, 2) := by decide +kernel
theorem d11_13_19 : decode prog_11_method_13_code 19 = .ok (.invokevirtual 32, 3) := by decide +kernel
theorem d11_13_22 : decode prog_11_method_13_code 22 = .ok (.ifCond .eq 5, 3) := by decide +kernel
theorem d11_13_27 : decode prog_11_method_13_code 27 = .ok (.iconst 0, 1) := by decide +kernel
theorem d11_13_28 : decode prog_11_method_13_code 28 = .ok (.istore_n 2, 1) := by decide +kernel
theorem d11_13_29 : decode prog_11_method_13_code 29 = .ok (.iconst 0, 1) := by decide +kernel
theorem d11_13_30 : decode prog_11_method_13_code 30 = .ok (.istore_n 3, 1) := by decide +kernel
theorem d11_13_75 : decode prog_11_method_13_code 75 = .ok (.iload_n 2, 1) := by decide +kernel
theorem d11_13_76 : decode prog_11_method_13_code 76 = .ok (.ireturn, 1) := by decide +kernel
theorem d11_13_31 : decode prog_11_method_13_code 31 = .ok (.iload_n 3, 1) := by decide +kernel
theorem d11_13_32 : decode prog_11_method_13_code 32 = .ok (.iload_n 1, 1) := by decide +kernel
theorem d11_13_33 : decode prog_11_method_13_code 33 = .ok (.if_icmp .ge 42, 3) := by decide +kernel
theorem d11_13_36 : decode prog_11_method_13_code 36 = .ok (.aload_n 0, 1) := by decide +kernel
theorem d11_13_37 : decode prog_11_method_13_code 37 = .ok (.invokevirtual 39, 3) := by decide +kernel
theorem d11_13_40 : decode prog_11_method_13_code 40 = .ok (.invokestatic 47, 3) := by decide +kernel
theorem d11_13_43 : decode prog_11_method_13_code 43 = .ok (.ifCond .eq 32, 3) := by decide +kernel
theorem d11_13_46 : decode prog_11_method_13_code 46 = .ok (.iload_n 2, 1) := by decide +kernel
theorem d11_13_47 : decode prog_11_method_13_code 47 = .ok (.bipush 10, 2) := by decide +kernel
theorem d11_13_49 : decode prog_11_method_13_code 49 = .ok (.imul, 1) := by decide +kernel
theorem d11_13_50 : decode prog_11_method_13_code 50 = .ok (.aload_n 0, 1) := by decide +kernel
theorem d11_13_51 : decode prog_11_method_13_code 51 = .ok (.invokevirtual 39, 3) := by decide +kernel
theorem d11_13_54 : decode prog_11_method_13_code 54 = .ok (.bipush 48, 2) := by decide +kernel
theorem d11_13_56 : decode prog_11_method_13_code 56 = .ok (.isub, 1) := by decide +kernel
theorem d11_13_57 : decode prog_11_method_13_code 57 = .ok (.iadd, 1) := by decide +kernel
theorem d11_13_58 : decode prog_11_method_13_code 58 = .ok (.istore_n 2, 1) := by decide +kernel
theorem d11_13_59 : decode prog_11_method_13_code 59 = .ok (.aload_n 0, 1) := by decide +kernel
theorem d11_13_60 : decode prog_11_method_13_code 60 = .ok (.dup, 1) := by decide +kernel
theorem d11_13_61 : decode prog_11_method_13_code 61 = .ok (.getfield 29, 3) := by decide +kernel
theorem d11_13_64 : decode prog_11_method_13_code 64 = .ok (.iconst 1, 1) := by decide +kernel
theorem d11_13_65 : decode prog_11_method_13_code 65 = .ok (.iadd, 1) := by decide +kernel
theorem d11_13_66 : decode prog_11_method_13_code 66 = .ok (.putfield 29, 3) := by decide +kernel
theorem d11_13_69 : decode prog_11_method_13_code 69 = .ok (.iinc 3 1, 3) := by decide +kernel
theorem d11_13_72 : decode prog_11_method_13_code 72 = .ok (.goto (-41), 3) := by decide +kernel
theorem d11_13_25 : decode prog_11_method_13_code 25 = .ok (.iconst 0, 1) := by decide +kernel
theorem d11_13_26 : decode prog_11_method_13_code 26 = .ok (.ireturn, 1) := by decide +kernel
theorem d11_13_10 : decode prog_11_method_13_code 10 = .ok (.aload_n 0, 1) := by decide +kernel
theorem d11_13_11 : decode prog_11_method_13_code 11 = .ok (.invokevirtual 36, 3) := by decide +kernel
theorem d11_13_14 : decode prog_11_method_13_code 14 = .ok (.iconst 0, 1) := by decide +kernel
theorem d11_13_15 : decode prog_11_method_13_code 15 = .ok (.ireturn, 1) := by decide +kernel
def y11_13 : MethodName := { cls := "PagedValues$Text", name := "digits", desc := "(I)I" }
def c_Text_isDigit (Zd : Nat → Nat) (K : KE) (a0 : Int32) (st : CS) : Option (Int32) := (if a0 < (48 : Int32) then (some (0 : Int32)) else (if (57 : Int32) < a0 then (some (0 : Int32)) else (some (1 : Int32)))).bind fun e11 => (bz e11).bind fun _ => some e11
set_option maxHeartbeats 4000000 in
set_option maxRecDepth 100000 in
theorem cc_Text_isDigit (l : Launch) (G : Gk) (Zd : Nat → Nat) (K : KE) (a0 : Int32) (st : CS) (r0 : Int32) (hm : c_Text_isDigit Zd K a0 st = some r0) : CT l y11_18 prog_11_method_18_code 1 (some .boolean) G Zd K (0) [.int a0] st (hI G Zd r0 st) := by
  refine goH (d := 0) (y := y11_18) (cc := prog_11_method_18_code) (maxL := 1) (ret := (some .boolean)) (av := [.int a0]) (Qc := hI G Zd r0 st) "PagedValues$Text" rfl (by decide) (c1_c rfl c1_n) (Nat.le_of_ble_eq_true rfl) ?_
  intro p e s m below meth c ls A args Q hQ hx hb hr hlk hml hown hts hin hl hE hw
  have hl : lw ls 1 [(0, .int a0)] := hl
  have hZ := hE.2.2.1
  have h := hm
  clear hm
  refine lv_iload_n hx hb d11_18_0 rfl (lv_at hl.1 0 rfl) ?_
  refine lv_bipush (v := 48) hx hb d11_18_1 (by decide) ?_
  obtain ⟨e11, hX, h⟩ := ob h
  have hj : ∀ (H : Heap) (locs : List Loc) (cells slots : Nat) (ls : Array Slot), lw ls 1 [(0, .int a0)] → wsH G Zd A s st H locs → W p l e (rmH Zd (0) st.1) s m args below meth c H locs cells slots Q (F0 m 17 ls [.int e11]) := by
    intro H locs cells slots ls hl hw
    obtain ⟨u9, hr9, h⟩ := ob h
    have hi := bz_some hr9
    clear hr9 u9
    cases h
    exact finH_z hQ hx hb hr hlk (nar01 hi) hE hw d11_18_17
  clear h
  refine lv_icmp_lt (tgt := 16) hx hb d11_18_3 rfl (fun c13 => ?_) (fun c13 => ?_)
  ·
    replace h := (if_pos c13).symm.trans hX
    refine lv_iconst (v := 0) hx hb d11_18_16 (by decide) ?_
    have e9 := Option.some.inj h
    subst e11
    have hl := lw_sub hl (l' := [(0, .int a0)]) [0] rfl
    exact hj _ _ _ _ _ hl hw
  ·
    replace h := (if_neg c13).symm.trans hX
    refine lv_iload_n hx hb d11_18_6 rfl (lv_at hl.1 0 rfl) ?_
    refine lv_bipush (v := 57) hx hb d11_18_7 (by decide) ?_
    refine lv_icmp_gt (tgt := 16) hx hb d11_18_9 rfl (fun c14 => ?_) (fun c14 => ?_)
    ·
      replace h := (if_pos c14).symm.trans h
      refine lv_iconst (v := 0) hx hb d11_18_16 (by decide) ?_
      have e9 := Option.some.inj h
      subst e11
      have hl := lw_sub hl (l' := [(0, .int a0)]) [0] rfl
      exact hj _ _ _ _ _ hl hw
    ·
      replace h := (if_neg c14).symm.trans h
      refine lv_iconst (v := 1) hx hb d11_18_12 (by decide) ?_
      refine lv_goto (tgt := 17) hx hb d11_18_13 rfl ?_
      have e9 := Option.some.inj h
      subst e11
      have hl := lw_sub hl (l' := [(0, .int a0)]) [0] rfl
      exact hj _ _ _ _ _ hl hw
def c_Text_digits_l1 (Zd : Nat → Nat) (K : KE) (o : Nat) (a0 : Int32) : Nat → (Int32 × Int32 × CS) → Option (Int32 × Int32 × CS)
  | 0, _ => none
  | n9 + 1, e9 => if a0 ≤ e9.2.1 then (some (e9.1, e9.2.1, e9.2.2)) else ((isO K e9.2.2 o 1).bind fun _ => (c_Text_ahead Zd K o e9.2.2).bind fun x30 => (c_Text_isDigit Zd K x30 e9.2.2).bind fun x33 => if x33 = (0 : Int32) then (some (e9.1, e9.2.1, e9.2.2)) else ((some (e9.1 * (10 : Int32))).bind fun y37 => (isO K e9.2.2 o 1).bind fun _ => (c_Text_ahead Zd K o e9.2.2).bind fun x38 => (some (x38 - (48 : Int32))).bind fun y41 => (some (y37 + y41)).bind fun y42 => (gI K e9.2.2 o 1 3).bind fun x43 => (some (x43 + (1 : Int32))).bind fun y44 => (sF e9.2.2 o 1 3 (.int y44)).bind fun st45 => (some (e9.2.1 + 1)).bind fun y46 => c_Text_digits_l1 Zd K o a0 n9 (y42, y46, st45)))
theorem c_Text_digits_l1_s (Zd : Nat → Nat) (K : KE) (o : Nat) (a0 : Int32) (n9 : Nat) (e9 : Int32 × Int32 × CS) : c_Text_digits_l1 Zd K o a0 (n9 + 1) e9 = (if a0 ≤ e9.2.1 then (some (e9.1, e9.2.1, e9.2.2)) else ((isO K e9.2.2 o 1).bind fun _ => (c_Text_ahead Zd K o e9.2.2).bind fun x30 => (c_Text_isDigit Zd K x30 e9.2.2).bind fun x33 => if x33 = (0 : Int32) then (some (e9.1, e9.2.1, e9.2.2)) else ((some (e9.1 * (10 : Int32))).bind fun y37 => (isO K e9.2.2 o 1).bind fun _ => (c_Text_ahead Zd K o e9.2.2).bind fun x38 => (some (x38 - (48 : Int32))).bind fun y41 => (some (y37 + y41)).bind fun y42 => (gI K e9.2.2 o 1 3).bind fun x43 => (some (x43 + (1 : Int32))).bind fun y44 => (sF e9.2.2 o 1 3 (.int y44)).bind fun st45 => (some (e9.2.1 + 1)).bind fun y46 => c_Text_digits_l1 Zd K o a0 n9 (y42, y46, st45)))) := rfl
def c_Text_digits (Zd : Nat → Nat) (K : KE) (o : Nat) (a0 : Int32) (st : CS) : Option (Int32 × CS) := (isO K st o 1).bind fun _ => (c_Text_ahead Zd K o st).bind fun x11 => (c_Text_isDigit Zd K x11 st).bind fun x14 => if x14 = (0 : Int32) then ((isO K st o 1).bind fun _ => (c_Text_fail Zd K o st).bind fun st48 => some ((0 : Int32), st48)) else ((isO K st o 1).bind fun _ => (c_Text_take Zd K o (48 : Int32) st).bind fun r20 => if r20.1 = (0 : Int32) then ((c_Text_digits_l1 Zd K o a0 4096 ((0 : Int32), (0 : Int32), r20.2)).bind fun e22 => some (e22.1, e22.2.2)) else (some ((0 : Int32), r20.2)))
set_option maxHeartbeats 4000000 in
set_option maxRecDepth 100000 in
theorem cc_Text_digits (l : Launch) (G : Gk) (Zd : Nat → Nat) (K : KE) (o : Nat) (a0 : Int32) (st : CS) (r0 : Int32) (st0 : CS) (hm : c_Text_digits Zd K o a0 st = some (r0, st0)) : CT l y11_13 prog_11_method_13_code 4 (some .int) G Zd K (1) [.ref o, .int a0] st (hI G Zd r0 st0) := by
  refine goH (d := 1) (y := y11_13) (cc := prog_11_method_13_code) (maxL := 4) (ret := (some .int)) (av := [.ref o, .int a0]) (Qc := hI G Zd r0 st0) "PagedValues$Text" rfl (by decide) (c1_c rfl (c1_c rfl c1_n)) (Nat.le_of_ble_eq_true rfl) ?_
  intro p e s m below meth c ls A args Q hQ hx hb hr hlk hml hown hts hin hl hE hw
  have hl : lw ls 4 [(0, .ref o), (1, .int a0)] := hl
  have hZ := hE.2.2.1
  have h := hm
  clear hm
  refine lv_aload_n hx hb d11_13_0 rfl (lv_at hl.1 0 rfl) ?_
  obtain ⟨u9, ho, h⟩ := ob h
  obtain ⟨x11, hc, h⟩ := ob h
  refine hV_i (ci := 1) (As := []) (rest := []) ⟨hx, hb, hml, hown, hts⟩ (cc_Text_ahead l G Zd K o st x11 hc) (kw_V (n := 0) hts k326 k323 k2 k324 k325 (by decide +kernel) ⟨Nat.le_of_ble_eq_true rfl, Nat.le_of_ble_eq_true rfl⟩) hE hw rfl rfl ho rfl hl.1.1 rfl (c1_8 c1_n (Nat.le_of_ble_eq_true rfl)) d11_13_1 (fun H locs cells slots hw => ?_)
  clear hc ho u9
  refine W.eq (g2 := F0 m 4 ls [.int x11]) rfl ?_
  obtain ⟨x14, hc, h⟩ := ob h
  refine hS_i (As := [.int x11]) (rest := []) ⟨hx, hb, hml, hown, hts⟩ (cc_Text_isDigit l G Zd K x11 st x14 hc) (kw_S (n := 1) hts k664 k662 k2 k663 (by decide +kernel) ⟨Nat.le_of_ble_eq_true rfl, Nat.le_of_ble_eq_true rfl⟩) hE hw rfl hl.1.1 rfl (c1_8 c1_n (Nat.le_of_ble_eq_true rfl)) d11_13_4 (fun H locs cells slots hw => ?_)
  clear hc
  refine W.eq (g2 := F0 m 7 ls [.int x14]) rfl ?_
  refine lv_if_ne (tgt := 16) hx hb d11_13_7 rfl (fun c17 => ?_) (fun c17 => ?_)
  ·
    replace h := (if_neg c17).symm.trans h
    refine lv_aload_n hx hb d11_13_16 rfl (lv_at hl.1 0 rfl) ?_
    refine lv_bipush (v := 48) hx hb d11_13_17 (by decide) ?_
    obtain ⟨u9, ho, h⟩ := ob h
    obtain ⟨⟨x18, st19⟩, hc, h⟩ := ob h
    refine hV_i (ci := 1) (As := [.int 48]) (rest := []) ⟨hx, hb, hml, hown, hts⟩ (cc_Text_take l G Zd K o (48 : Int32) st x18 st19 hc) (kw_V (n := 1) hts k384 k381 k2 k382 k383 (by decide +kernel) ⟨Nat.le_of_ble_eq_true rfl, Nat.le_of_ble_eq_true rfl⟩) hE hw rfl rfl ho rfl hl.1.1 rfl (c1_8 c1_n (Nat.le_of_ble_eq_true rfl)) d11_13_19 (fun H locs cells slots hw => ?_)
    clear hc ho u9
    refine W.eq (g2 := F0 m 22 ls [.int x18]) rfl ?_
    refine lv_if_eq (tgt := 27) hx hb d11_13_22 rfl (fun c21 => ?_) (fun c21 => ?_)
    ·
      replace h := (if_pos c21).symm.trans h
      refine lv_iconst (v := 0) hx hb d11_13_27 (by decide) ?_
      refine xt_istore_n (x := 0) (lv' := [(2, .int 0), (0, .ref o), (1, .int a0)]) hx hb d11_13_28 rfl hl (by decide) rfl (fun ls hl => ?_)
      refine lv_iconst (v := 0) hx hb d11_13_29 (by decide) ?_
      refine xt_istore_n (x := 0) (lv' := [(3, .int 0), (2, .int 0), (0, .ref o), (1, .int a0)]) hx hb d11_13_30 rfl hl (by decide) rfl (fun ls hl => ?_)
      obtain ⟨e22, hX, hrest⟩ := ob h
      clear h
      have hj : ∀ (v26 : Int32) (v27 : Int32) (v28 : CS), e22 = (v26, v27, v28) → ∀ (H : Heap) (locs : List Loc) (cells slots : Nat) (ls : Array Slot), lw ls 4 [(0, .ref o), (1, .int a0), (2, .int v26), (3, .int v27)] → wsH G Zd A s v28 H locs → W p l e (rmH Zd (1) st.1) s m args below meth c H locs cells slots Q (F0 m 75 ls []) := by
        intro v26 v27 v28 he H locs cells slots ls hl hw
        subst e22
        have h := hrest
        clear hrest
        refine lv_iload_n hx hb d11_13_75 rfl (lv_at hl.1 2 rfl) ?_
        cases h
        exact finH_i hQ hx hb hr hlk hE hw d11_13_76
      have hloop : ∀ (n9 : Nat) (v23 : Int32) (v24 : Int32) (v25 : CS), c_Text_digits_l1 Zd K o a0 n9 (v23, v24, v25) = some e22 → ∀ (H : Heap) (locs : List Loc) (cells slots : Nat) (ls : Array Slot), lw ls 4 [(0, .ref o), (1, .int a0), (2, .int v23), (3, .int v24)] → wsH G Zd A s v25 H locs → W p l e (rmH Zd (1) st.1) s m args below meth c H locs cells slots Q (F0 m 31 ls []) := by
        intro n9
        induction n9 with
        | zero =>
          intro v23 v24 v25 h
          cases h
        | succ n9 ih =>
          intro v23 v24 v25 h H locs cells slots ls hl hw
          replace h := (c_Text_digits_l1_s Zd K o a0 n9 (v23, v24, v25)).symm.trans h
          refine lv_iload_n hx hb d11_13_31 rfl (lv_at hl.1 3 rfl) ?_
          refine lv_iload_n hx hb d11_13_32 rfl (lv_at hl.1 1 rfl) ?_
          refine lv_icmp_ge (tgt := 75) hx hb d11_13_33 rfl (fun c29 => ?_) (fun c29 => ?_)
          ·
            replace h := (if_pos c29).symm.trans h
            have e9 := Option.some.inj h
            subst e22
            have hl := lw_sub hl (l' := [(0, .ref o), (1, .int a0), (2, .int v23), (3, .int v24)]) [0, 1, 2, 3] rfl
            exact hj _ _ _ rfl _ _ _ _ _ hl hw
          ·
            replace h := (if_neg c29).symm.trans h
            refine lv_aload_n hx hb d11_13_36 rfl (lv_at hl.1 0 rfl) ?_
            obtain ⟨u9, ho, h⟩ := ob h
            obtain ⟨x30, hc, h⟩ := ob h
            refine hV_i (ci := 1) (As := []) (rest := []) ⟨hx, hb, hml, hown, hts⟩ (cc_Text_ahead l G Zd K o v25 x30 hc) (kw_V (n := 0) hts k326 k323 k2 k324 k325 (by decide +kernel) ⟨Nat.le_of_ble_eq_true rfl, Nat.le_of_ble_eq_true rfl⟩) hE hw rfl rfl ho rfl hl.1.1 rfl (c1_8 c1_n (Nat.le_of_ble_eq_true rfl)) d11_13_37 (fun H locs cells slots hw => ?_)
            clear hc ho u9
            refine W.eq (g2 := F0 m 40 ls [.int x30]) rfl ?_
            obtain ⟨x33, hc, h⟩ := ob h
            refine hS_i (As := [.int x30]) (rest := []) ⟨hx, hb, hml, hown, hts⟩ (cc_Text_isDigit l G Zd K x30 v25 x33 hc) (kw_S (n := 1) hts k664 k662 k2 k663 (by decide +kernel) ⟨Nat.le_of_ble_eq_true rfl, Nat.le_of_ble_eq_true rfl⟩) hE hw rfl hl.1.1 rfl (c1_8 c1_n (Nat.le_of_ble_eq_true rfl)) d11_13_40 (fun H locs cells slots hw => ?_)
            clear hc
            refine W.eq (g2 := F0 m 43 ls [.int x33]) rfl ?_
            refine lv_if_eq (tgt := 75) hx hb d11_13_43 rfl (fun c36 => ?_) (fun c36 => ?_)
            ·
              replace h := (if_pos c36).symm.trans h
              have e9 := Option.some.inj h
              subst e22
              have hl := lw_sub hl (l' := [(0, .ref o), (1, .int a0), (2, .int v23), (3, .int v24)]) [0, 1, 2, 3] rfl
              exact hj _ _ _ rfl _ _ _ _ _ hl hw
            ·
              replace h := (if_neg c36).symm.trans h
              refine lv_iload_n hx hb d11_13_46 rfl (lv_at hl.1 2 rfl) ?_
              refine lv_bipush (v := 10) hx hb d11_13_47 (by decide) ?_
              refine lv_imul hx hb d11_13_49 ?_
              obtain ⟨y37, hr, h⟩ := ob h
              refine lv_topi (fun y9 ey => ?_)
              have e9 := ey.trans (Option.some.inj hr)
              clear ey
              subst y9
              clear hr
              refine lv_aload_n hx hb d11_13_50 rfl (lv_at hl.1 0 rfl) ?_
              obtain ⟨u9, ho, h⟩ := ob h
              obtain ⟨x38, hc, h⟩ := ob h
              refine hV_i (ci := 1) (As := []) (rest := [.int y37]) ⟨hx, hb, hml, hown, hts⟩ (cc_Text_ahead l G Zd K o v25 x38 hc) (kw_V (n := 0) hts k326 k323 k2 k324 k325 (by decide +kernel) ⟨Nat.le_of_ble_eq_true rfl, Nat.le_of_ble_eq_true rfl⟩) hE hw rfl rfl ho rfl hl.1.1 rfl (c1_8 (c1_c rfl c1_n) (Nat.le_of_ble_eq_true rfl)) d11_13_51 (fun H locs cells slots hw => ?_)
              clear hc ho u9
              refine W.eq (g2 := F0 m 54 ls [.int x38, .int y37]) rfl ?_
              refine lv_bipush (v := 48) hx hb d11_13_54 (by decide) ?_
              refine lv_isub hx hb d11_13_56 ?_
              obtain ⟨y41, hr, h⟩ := ob h
              refine lv_topi (fun y9 ey => ?_)
              have e9 := ey.trans (Option.some.inj hr)
              clear ey
              subst y9
              clear hr
              refine lv_iadd hx hb d11_13_57 ?_
              obtain ⟨y42, hr, h⟩ := ob h
              refine lv_topi (fun y9 ey => ?_)
              have e9 := ey.trans (Option.some.inj hr)
              clear ey
              subst y9
              clear hr
              refine xt_istore_n (x := y42) (lv' := [(2, .int y42), (0, .ref o), (1, .int a0), (3, .int v24)]) hx hb d11_13_58 rfl hl (by decide) rfl (fun ls hl => ?_)
              refine lv_aload_n hx hb d11_13_59 rfl (lv_at hl.1 1 rfl) ?_
              refine lv_dup hx hb d11_13_60 rfl ?_
              obtain ⟨x43, hr, h⟩ := ob h
              refine xg_i (ci := 1) (C := r_1) (T := f_1) (N := 5) (ref := "PagedValues$Text") hx hb hts (fun w h => List.mem_cons_of_mem _ (ly_1 w h)) hown hE hw rfl 3 (by decide) (hts _ (List.mem_cons_of_mem _ k79)) (fun _ h9 => h9) hr d11_13_61 ?_
              clear hr
              refine lv_iconst (v := 1) hx hb d11_13_64 (by decide) ?_
              refine lv_iadd hx hb d11_13_65 ?_
              obtain ⟨y44, hr, h⟩ := ob h
              refine lv_topi (fun y9 ey => ?_)
              have e9 := ey.trans (Option.some.inj hr)
              clear ey
              subst y9
              clear hr
              obtain ⟨st45, hr, h⟩ := ob h
              refine xp (ci := 1) (ty := .int) (C := r_1) (T := f_1) (N := 5) (ref := "PagedValues$Text") hx hb hts (fun w h => List.mem_cons_of_mem _ (ly_1 w h)) ft_1 ft_1_ok nm_1 hown hE hw rfl 3 (by decide) (hts _ (List.mem_cons_of_mem _ k79)) (fun _ h9 => h9) rfl hr (by decide +kernel) rfl rfl d11_13_66 (fun H locs hw => ?_)
              clear hr
              obtain ⟨y46, hr, h⟩ := ob h
              refine xt_iinc (k := 3) (v := y46) (lv' := [(3, .int y46), (2, .int y42), (0, .ref o), (1, .int a0)]) hx hb d11_13_69 hl rfl hr (by decide) rfl (fun ls hl => ?_)
              clear hr
              refine lv_goto (tgt := 31) hx hb d11_13_72 rfl ?_
              have hl := lw_sub hl (l' := [(0, .ref o), (1, .int a0), (2, .int y42), (3, .int y46)]) [2, 3, 1, 0] rfl
              exact ih _ _ _ h _ _ _ _ _ hl hw
      have hl := lw_sub hl (l' := [(0, .ref o), (1, .int a0), (2, .int 0), (3, .int 0)]) [2, 3, 1, 0] rfl
      exact hloop _ _ _ _ hX _ _ _ _ _ hl hw
    ·
      replace h := (if_neg c21).symm.trans h
      refine lv_iconst (v := 0) hx hb d11_13_25 (by decide) ?_
      cases h
      exact finH_i hQ hx hb hr hlk hE hw d11_13_26
  ·
    replace h := (if_pos c17).symm.trans h
    refine lv_aload_n hx hb d11_13_10 rfl (lv_at hl.1 0 rfl) ?_
    obtain ⟨u9, ho, h⟩ := ob h
    obtain ⟨st48, hc, h⟩ := ob h
    refine hV_v (ci := 1) (As := []) (rest := []) ⟨hx, hb, hml, hown, hts⟩ (cc_Text_fail l G Zd K o st st48 hc) (kw_V (n := 0) hts k333 k385 k2 k331 k332 (by decide +kernel) ⟨Nat.le_of_ble_eq_true rfl, Nat.le_of_ble_eq_true rfl⟩) hE hw rfl rfl ho rfl hl.1.1 rfl (c1_8 c1_n (Nat.le_of_ble_eq_true rfl)) d11_13_11 (fun H locs cells slots hw => ?_)
    clear hc ho u9
    refine W.eq (g2 := F0 m 14 ls []) rfl ?_
    refine lv_iconst (v := 0) hx hb d11_13_14 (by decide) ?_
    cases h
    exact finH_i hQ hx hb hr hlk hE hw d11_13_15
theorem d11_14_0 : decode prog_11_method_14_code 0 = .ok (.aload_n 0, 1) := by decide +kernel
theorem d11_14_1 : decode prog_11_method_14_code 1 = .ok (.getfield 18, 3) := by decide +kernel
theorem d11_14_4 : decode prog_11_method_14_code 4 = .ok (.iconst 0, 1) := by decide +kernel
theorem d11_14_5 : decode prog_11_method_14_code 5 = .ok (.invokevirtual 50, 3) := by decide +kernel
theorem k398 : (Jvm.Cond.code ({ cls := "java/lang/StringBuilder", name := "setLength", desc := "(I)V" } : Jvm.MethodName) prog_22_method_89_code (2 : Nat) (Option.none : Option Jvm.ClassFile.FieldType)) ∈ TB := tk_2 158 rfl rfl
theorem k395 : (Jvm.Cond.methodLink "PagedValues$Text" (50 : Nat) ({ cls := "java/lang/StringBuilder", name := "setLength", desc := "(I)V" } : Jvm.MethodName)) ∈ TB := tk_2 155 rfl rfl
theorem k396 : (Jvm.Cond.instanceMethod ({ cls := "java/lang/StringBuilder", name := "setLength", desc := "(I)V" } : Jvm.MethodName)) ∈ TB := tk_2 156 rfl rfl
theorem k397 : (Jvm.Cond.selects "java/lang/StringBuilder" ({ cls := "java/lang/StringBuilder", name := "setLength", desc := "(I)V" } : Jvm.MethodName) ({ cls := "java/lang/StringBuilder", name := "setLength", desc := "(I)V" } : Jvm.MethodName)) ∈ TB := tk_2 157 rfl rfl
theorem d11_14_8 : decode prog_11_method_14_code 8 = .ok (.iconst 0, 1) := by decide +kernel
theorem d11_14_9 : decode prog_11_method_14_code 9 = .ok (.istore_n 1, 1) := by decide +kernel
theorem d11_14_55 : decode prog_11_method_14_code 55 = .ok (.aload_n 0, 1) := by decide +kernel
theorem d11_14_56 : decode prog_11_method_14_code 56 = .ok (.getfield 18, 3) := by decide +kernel
theorem d11_14_59 : decode prog_11_method_14_code 59 = .ok (.invokevirtual 61, 3) := by decide +kernel
theorem k460 : (Jvm.Cond.code ({ cls := "java/lang/StringBuilder", name := "toString", desc := "()Ljava/lang/String;" } : Jvm.MethodName) prog_22_method_42_code (1 : Nat) (Option.some (Jvm.ClassFile.FieldType.object "java/lang/String"))) ∈ TB := tk_2 220 rfl rfl
theorem k457 : (Jvm.Cond.methodLink "PagedValues$Text" (61 : Nat) ({ cls := "java/lang/StringBuilder", name := "toString", desc := "()Ljava/lang/String;" } : Jvm.MethodName)) ∈ TB := tk_2 217 rfl rfl
theorem k458 : (Jvm.Cond.instanceMethod ({ cls := "java/lang/StringBuilder", name := "toString", desc := "()Ljava/lang/String;" } : Jvm.MethodName)) ∈ TB := tk_2 218 rfl rfl
theorem k459 : (Jvm.Cond.selects "java/lang/StringBuilder" ({ cls := "java/lang/StringBuilder", name := "toString", desc := "()Ljava/lang/String;" } : Jvm.MethodName) ({ cls := "java/lang/StringBuilder", name := "toString", desc := "()Ljava/lang/String;" } : Jvm.MethodName)) ∈ TB := tk_2 219 rfl rfl
theorem d11_14_62 : decode prog_11_method_14_code 62 = .ok (.areturn, 1) := by decide +kernel
theorem d11_14_10 : decode prog_11_method_14_code 10 = .ok (.iload_n 1, 1) := by decide +kernel
theorem d11_14_11 : decode prog_11_method_14_code 11 = .ok (.bipush 10, 2) := by decide +kernel
theorem d11_14_13 : decode prog_11_method_14_code 13 = .ok (.if_icmp .ge 42, 3) := by decide +kernel
theorem d11_14_16 : decode prog_11_method_14_code 16 = .ok (.aload_n 0, 1) := by decide +kernel
theorem d11_14_17 : decode prog_11_method_14_code 17 = .ok (.invokevirtual 39, 3) := by decide +kernel
theorem d11_14_20 : decode prog_11_method_14_code 20 = .ok (.invokestatic 54, 3) := by decide +kernel
theorem d11_20_0 : decode prog_11_method_20_code 0 = .ok (.iload_n 0, 1) := by decide +kernel
theorem d11_20_1 : decode prog_11_method_20_code 1 = .ok (.invokestatic 74, 3) := by decide +kernel
theorem d11_19_0 : decode prog_11_method_19_code 0 = .ok (.iload_n 0, 1) := by decide +kernel
theorem d11_19_1 : decode prog_11_method_19_code 1 = .ok (.bipush 97, 2) := by decide +kernel
theorem d11_19_3 : decode prog_11_method_19_code 3 = .ok (.if_icmp .lt 9, 3) := by decide +kernel
theorem d11_19_12 : decode prog_11_method_19_code 12 = .ok (.iload_n 0, 1) := by decide +kernel
theorem d11_19_13 : decode prog_11_method_19_code 13 = .ok (.bipush 65, 2) := by decide +kernel
theorem d11_19_15 : decode prog_11_method_19_code 15 = .ok (.if_icmp .lt 9, 3) := by decide +kernel
theorem d11_19_24 : decode prog_11_method_19_code 24 = .ok (.iload_n 0, 1) := by decide +kernel
theorem d11_19_25 : decode prog_11_method_19_code 25 = .ok (.bipush 95, 2) := by decide +kernel
theorem d11_19_27 : decode prog_11_method_19_code 27 = .ok (.if_icmp .ne 7, 3) := by decide +kernel
theorem d11_19_34 : decode prog_11_method_19_code 34 = .ok (.iconst 0, 1) := by decide +kernel
theorem d11_19_30 : decode prog_11_method_19_code 30 = .ok (.iconst 1, 1) := by decide +kernel
theorem d11_19_31 : decode prog_11_method_19_code 31 = .ok (.goto 4, 3) := by decide +kernel
theorem d11_19_18 : decode prog_11_method_19_code 18 = .ok (.iload_n 0, 1) := by decide +kernel
theorem d11_19_19 : decode prog_11_method_19_code 19 = .ok (.bipush 90, 2) := by decide +kernel
theorem d11_19_21 : decode prog_11_method_19_code 21 = .ok (.if_icmp .le 9, 3) := by decide +kernel
theorem d11_19_6 : decode prog_11_method_19_code 6 = .ok (.iload_n 0, 1) := by decide +kernel
theorem d11_19_7 : decode prog_11_method_19_code 7 = .ok (.bipush 122, 2) := by decide +kernel
theorem d11_19_9 : decode prog_11_method_19_code 9 = .ok (.if_icmp .le 21, 3) := by decide +kernel
theorem d11_19_35 : decode prog_11_method_19_code 35 = .ok (.ireturn, 1) := by decide +kernel
def y11_19 : MethodName := { cls := "PagedValues$Text", name := "isNameStart", desc := "(I)Z" }
theorem k912 : (Jvm.Cond.code ({ cls := "PagedValues$Text", name := "isNameStart", desc := "(I)Z" } : Jvm.MethodName) prog_11_method_19_code (1 : Nat) (Option.some Jvm.ClassFile.FieldType.boolean)) ∈ TB := tk_4 192 rfl rfl
theorem k925 : (Jvm.Cond.methodLink "PagedValues$Text" (74 : Nat) ({ cls := "PagedValues$Text", name := "isNameStart", desc := "(I)Z" } : Jvm.MethodName)) ∈ TB := tk_4 205 rfl rfl
theorem k911 : (Jvm.Cond.static ({ cls := "PagedValues$Text", name := "isNameStart", desc := "(I)Z" } : Jvm.MethodName)) ∈ TB := tk_4 191 rfl rfl
theorem d11_20_4 : decode prog_11_method_20_code 4 = .ok (.ifCond .ne 10, 3) := by decide +kernel
theorem d11_20_14 : decode prog_11_method_20_code 14 = .ok (.iconst 1, 1) := by decide +kernel
theorem d11_20_15 : decode prog_11_method_20_code 15 = .ok (.goto 4, 3) := by decide +kernel
