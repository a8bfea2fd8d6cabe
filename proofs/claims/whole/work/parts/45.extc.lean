def c_Value_write (Zd : Nat → Nat) (K : KE) : Nat → Option Nat → Option Nat → Int32 → CS → Option (CS)
  | 0 => fun _ _ _ _ => none
  | d9 + 1 => c_Value_write_b Zd K (c_Value_write Zd K d9)
theorem cc_Value_write (l : Launch) (G : Gk) (Zd : Nat → Nat) (K : KE) : ∀ (d9 : Nat) (a0 : Option Nat) (a1 : Option Nat) (a2 : Int32) (st : CS) (st0 : CS) , c_Value_write Zd K d9 a0 a1 a2 st = some st0 → CT l y12_13 prog_12_method_13_code 3 none G Zd K (8 * d9) [va_rf a0, va_rf a1, .int a2] st (hV G Zd st0) := by
  intro d9
  induction d9 with
  | zero =>
    intro  a0 a1 a2 st st0 hm
    have h9 : (none : Option (CS)) = some st0 := hm
    cases h9
  | succ d9 ih =>
    intro  a0 a1 a2 st st0 hm
    rw [Nat.mul_succ]
    exact cc_Value_write_b l G Zd K (c_Value_write Zd K d9) (8 * d9) ih a0 a1 a2 st st0 hm
theorem d13_2_0 : decode prog_13_method_2_code 0 = .ok (.aload_n 0, 1) := by decide +kernel
theorem d13_2_1 : decode prog_13_method_2_code 1 = .ok (.iconst 0, 1) := by decide +kernel
theorem d13_2_2 : decode prog_13_method_2_code 2 = .ok (.putfield 9, 3) := by decide +kernel
theorem k100 : (Jvm.Cond.fieldLink "PagedValues$ValueParser" (9 : Nat) "PagedValues$ValueParser" "values" "I") ∈ TB := tk_1 100 rfl rfl
theorem d13_2_5 : decode prog_13_method_2_code 5 = .ok (.aload_n 1, 1) := by decide +kernel
theorem d13_2_6 : decode prog_13_method_2_code 6 = .ok (.invokevirtual 15, 3) := by decide +kernel
theorem k314 : (Jvm.Cond.code ({ cls := "PagedValues$Text", name := "begin", desc := "()V" } : Jvm.MethodName) prog_11_method_4_code (1 : Nat) (Option.none : Option Jvm.ClassFile.FieldType)) ∈ TB := tk_2 74 rfl rfl
theorem k311 : (Jvm.Cond.methodLink "PagedValues$ValueParser" (15 : Nat) ({ cls := "PagedValues$Text", name := "begin", desc := "()V" } : Jvm.MethodName)) ∈ TB := tk_2 71 rfl rfl
theorem k312 : (Jvm.Cond.instanceMethod ({ cls := "PagedValues$Text", name := "begin", desc := "()V" } : Jvm.MethodName)) ∈ TB := tk_2 72 rfl rfl
theorem k313 : (Jvm.Cond.selects "PagedValues$Text" ({ cls := "PagedValues$Text", name := "begin", desc := "()V" } : Jvm.MethodName) ({ cls := "PagedValues$Text", name := "begin", desc := "()V" } : Jvm.MethodName)) ∈ TB := tk_2 73 rfl rfl
theorem d13_2_9 : decode prog_13_method_2_code 9 = .ok (.aload_n 0, 1) := by decide +kernel
theorem d13_2_10 : decode prog_13_method_2_code 10 = .ok (.aload_n 1, 1) := by decide +kernel
theorem d13_2_11 : decode prog_13_method_2_code 11 = .ok (.iconst 0, 1) := by decide +kernel
theorem d13_2_12 : decode prog_13_method_2_code 12 = .ok (.invokevirtual 20, 3) := by decide +kernel
theorem d13_3_0 : decode prog_13_method_3_code 0 = .ok (.aload_n 1, 1) := by decide +kernel
theorem d13_3_1 : decode prog_13_method_3_code 1 = .ok (.invokevirtual 24, 3) := by decide +kernel
theorem k322 : (Jvm.Cond.code ({ cls := "PagedValues$Text", name := "skipBlanks", desc := "()V" } : Jvm.MethodName) prog_11_method_12_code (1 : Nat) (Option.none : Option Jvm.ClassFile.FieldType)) ∈ TB := tk_2 82 rfl rfl
theorem k319 : (Jvm.Cond.methodLink "PagedValues$ValueParser" (24 : Nat) ({ cls := "PagedValues$Text", name := "skipBlanks", desc := "()V" } : Jvm.MethodName)) ∈ TB := tk_2 79 rfl rfl
theorem k320 : (Jvm.Cond.instanceMethod ({ cls := "PagedValues$Text", name := "skipBlanks", desc := "()V" } : Jvm.MethodName)) ∈ TB := tk_2 80 rfl rfl
theorem k321 : (Jvm.Cond.selects "PagedValues$Text" ({ cls := "PagedValues$Text", name := "skipBlanks", desc := "()V" } : Jvm.MethodName) ({ cls := "PagedValues$Text", name := "skipBlanks", desc := "()V" } : Jvm.MethodName)) ∈ TB := tk_2 81 rfl rfl
theorem d13_3_4 : decode prog_13_method_3_code 4 = .ok (.aload_n 0, 1) := by decide +kernel
theorem d13_3_5 : decode prog_13_method_3_code 5 = .ok (.getfield 9, 3) := by decide +kernel
theorem d13_3_8 : decode prog_13_method_3_code 8 = .ok (.bipush 24, 2) := by decide +kernel
theorem d13_3_10 : decode prog_13_method_3_code 10 = .ok (.if_icmp .lt 9, 3) := by decide +kernel
theorem d13_3_19 : decode prog_13_method_3_code 19 = .ok (.aload_n 0, 1) := by decide +kernel
theorem d13_3_20 : decode prog_13_method_3_code 20 = .ok (.dup, 1) := by decide +kernel
theorem d13_3_21 : decode prog_13_method_3_code 21 = .ok (.getfield 9, 3) := by decide +kernel
theorem d13_3_24 : decode prog_13_method_3_code 24 = .ok (.iconst 1, 1) := by decide +kernel
theorem d13_3_25 : decode prog_13_method_3_code 25 = .ok (.iadd, 1) := by decide +kernel
theorem d13_3_26 : decode prog_13_method_3_code 26 = .ok (.putfield 9, 3) := by decide +kernel
theorem d13_3_29 : decode prog_13_method_3_code 29 = .ok (.aload_n 1, 1) := by decide +kernel
theorem d13_3_30 : decode prog_13_method_3_code 30 = .ok (.invokevirtual 37, 3) := by decide +kernel
theorem k334 : (Jvm.Cond.methodLink "PagedValues$ValueParser" (37 : Nat) ({ cls := "PagedValues$Text", name := "ahead", desc := "()I" } : Jvm.MethodName)) ∈ TB := tk_2 94 rfl rfl
theorem d13_3_33 : decode prog_13_method_3_code 33 = .ok (.lookupswitch 118 #[(34, 79), (91, 59), (102, 107), (110, 85), (116, 96), (123, 69)], 59) := by decide +kernel
theorem d13_3_112 : decode prog_13_method_3_code 112 = .ok (.aload_n 0, 1) := by decide +kernel
theorem d13_3_113 : decode prog_13_method_3_code 113 = .ok (.aload_n 1, 1) := by decide +kernel
theorem d13_3_114 : decode prog_13_method_3_code 114 = .ok (.invokevirtual 54, 3) := by decide +kernel
theorem d13_6_0 : decode prog_13_method_6_code 0 = .ok (.aload_n 1, 1) := by decide +kernel
theorem d13_6_1 : decode prog_13_method_6_code 1 = .ok (.bipush 34, 2) := by decide +kernel
theorem d13_6_3 : decode prog_13_method_6_code 3 = .ok (.iconst 1, 1) := by decide +kernel
theorem d13_6_4 : decode prog_13_method_6_code 4 = .ok (.invokevirtual 105, 3) := by decide +kernel
theorem k394 : (Jvm.Cond.code ({ cls := "PagedValues$Text", name := "quoted", desc := "(CZ)Ljava/lang/String;" } : Jvm.MethodName) prog_11_method_15_code (4 : Nat) (Option.some (Jvm.ClassFile.FieldType.object "java/lang/String"))) ∈ TB := tk_2 154 rfl rfl
theorem k391 : (Jvm.Cond.methodLink "PagedValues$ValueParser" (105 : Nat) ({ cls := "PagedValues$Text", name := "quoted", desc := "(CZ)Ljava/lang/String;" } : Jvm.MethodName)) ∈ TB := tk_2 151 rfl rfl
theorem k392 : (Jvm.Cond.instanceMethod ({ cls := "PagedValues$Text", name := "quoted", desc := "(CZ)Ljava/lang/String;" } : Jvm.MethodName)) ∈ TB := tk_2 152 rfl rfl
theorem k393 : (Jvm.Cond.selects "PagedValues$Text" ({ cls := "PagedValues$Text", name := "quoted", desc := "(CZ)Ljava/lang/String;" } : Jvm.MethodName) ({ cls := "PagedValues$Text", name := "quoted", desc := "(CZ)Ljava/lang/String;" } : Jvm.MethodName)) ∈ TB := tk_2 153 rfl rfl
theorem d13_6_7 : decode prog_13_method_6_code 7 = .ok (.astore_n 2, 1) := by decide +kernel
theorem d13_6_8 : decode prog_13_method_6_code 8 = .ok (.aload_n 1, 1) := by decide +kernel
theorem d13_6_9 : decode prog_13_method_6_code 9 = .ok (.invokevirtual 34, 3) := by decide +kernel
theorem k580 : (Jvm.Cond.code ({ cls := "PagedValues$Text", name := "isRight", desc := "()Z" } : Jvm.MethodName) prog_11_method_5_code (1 : Nat) (Option.some Jvm.ClassFile.FieldType.boolean)) ∈ TB := tk_3 100 rfl rfl
theorem k577 : (Jvm.Cond.methodLink "PagedValues$ValueParser" (34 : Nat) ({ cls := "PagedValues$Text", name := "isRight", desc := "()Z" } : Jvm.MethodName)) ∈ TB := tk_3 97 rfl rfl
theorem k578 : (Jvm.Cond.instanceMethod ({ cls := "PagedValues$Text", name := "isRight", desc := "()Z" } : Jvm.MethodName)) ∈ TB := tk_3 98 rfl rfl
theorem k579 : (Jvm.Cond.selects "PagedValues$Text" ({ cls := "PagedValues$Text", name := "isRight", desc := "()Z" } : Jvm.MethodName) ({ cls := "PagedValues$Text", name := "isRight", desc := "()Z" } : Jvm.MethodName)) ∈ TB := tk_3 99 rfl rfl
theorem d13_6_12 : decode prog_13_method_6_code 12 = .ok (.ifCond .eq 18, 3) := by decide +kernel
theorem d13_6_30 : decode prog_13_method_6_code 30 = .ok (.aconst_null, 1) := by decide +kernel
theorem d13_6_15 : decode prog_13_method_6_code 15 = .ok (.new 80, 3) := by decide +kernel
theorem k341 : (Jvm.Cond.classLink "PagedValues$ValueParser" (80 : Nat) "PagedValues$Value") ∈ TB := tk_2 101 rfl rfl
theorem d13_6_18 : decode prog_13_method_6_code 18 = .ok (.dup, 1) := by decide +kernel
theorem d13_6_19 : decode prog_13_method_6_code 19 = .ok (.getstatic 120, 3) := by decide +kernel
theorem k616 : (Jvm.Cond.fieldLink "PagedValues$ValueParser" (120 : Nat) "PagedValues$Kind" "STRING" "LPagedValues$Kind;") ∈ TB := tk_3 136 rfl rfl
theorem d13_6_22 : decode prog_13_method_6_code 22 = .ok (.iconst 0, 1) := by decide +kernel
theorem d13_6_23 : decode prog_13_method_6_code 23 = .ok (.aload_n 2, 1) := by decide +kernel
theorem d13_6_24 : decode prog_13_method_6_code 24 = .ok (.invokespecial 84, 3) := by decide +kernel
theorem k344 : (Jvm.Cond.methodLink "PagedValues$ValueParser" (84 : Nat) ({ cls := "PagedValues$Value", name := "<init>", desc := "(LPagedValues$Kind;ILjava/lang/String;)V" } : Jvm.MethodName)) ∈ TB := tk_2 104 rfl rfl
theorem d13_6_27 : decode prog_13_method_6_code 27 = .ok (.goto 4, 3) := by decide +kernel
theorem d13_6_31 : decode prog_13_method_6_code 31 = .ok (.areturn, 1) := by decide +kernel
def y13_6 : MethodName := { cls := "PagedValues$ValueParser", name := "string", desc := "(LPagedValues$Text;)LPagedValues$Value;" }
theorem k615 : (Jvm.Cond.code ({ cls := "PagedValues$ValueParser", name := "string", desc := "(LPagedValues$Text;)LPagedValues$Value;" } : Jvm.MethodName) prog_13_method_6_code (3 : Nat) (Option.some (Jvm.ClassFile.FieldType.object "PagedValues$Value"))) ∈ TB := tk_3 135 rfl rfl
theorem k612 : (Jvm.Cond.methodLink "PagedValues$ValueParser" (54 : Nat) ({ cls := "PagedValues$ValueParser", name := "string", desc := "(LPagedValues$Text;)LPagedValues$Value;" } : Jvm.MethodName)) ∈ TB := tk_3 132 rfl rfl
theorem k614 : (Jvm.Cond.instanceMethod ({ cls := "PagedValues$ValueParser", name := "string", desc := "(LPagedValues$Text;)LPagedValues$Value;" } : Jvm.MethodName)) ∈ TB := tk_3 134 rfl rfl
theorem ks4 : Cond.selects y13_6.cls y13_6 y13_6 ∈ TB := List.mem_filter.mpr ⟨List.mem_append_left _ (List.mem_of_getElem? (i := 4) (by decide +kernel)), rfl⟩
theorem d13_3_117 : decode prog_13_method_3_code 117 = .ok (.areturn, 1) := by decide +kernel
theorem d13_3_92 : decode prog_13_method_3_code 92 = .ok (.aload_n 0, 1) := by decide +kernel
theorem d13_3_93 : decode prog_13_method_3_code 93 = .ok (.aload_n 1, 1) := by decide +kernel
theorem d13_3_94 : decode prog_13_method_3_code 94 = .ok (.iload_n 2, 1) := by decide +kernel
theorem d13_3_95 : decode prog_13_method_3_code 95 = .ok (.getstatic 41, 3) := by decide +kernel
theorem k335 : (Jvm.Cond.fieldLink "PagedValues$ValueParser" (41 : Nat) "PagedValues$Kind" "ARRAY" "LPagedValues$Kind;") ∈ TB := tk_2 95 rfl rfl
theorem d13_3_98 : decode prog_13_method_3_code 98 = .ok (.invokevirtual 47, 3) := by decide +kernel
theorem d13_4_0 : decode prog_13_method_4_code 0 = .ok (.iload_n 2, 1) := by decide +kernel
theorem d13_4_1 : decode prog_13_method_4_code 1 = .ok (.iconst 4, 1) := by decide +kernel
theorem d13_4_2 : decode prog_13_method_4_code 2 = .ok (.if_icmp .lt 9, 3) := by decide +kernel
theorem d13_4_11 : decode prog_13_method_4_code 11 = .ok (.aload_n 3, 1) := by decide +kernel
theorem d13_4_12 : decode prog_13_method_4_code 12 = .ok (.getstatic 41, 3) := by decide +kernel
theorem d13_4_15 : decode prog_13_method_4_code 15 = .ok (.if_acmp .ne 8, 3) := by decide +kernel
theorem d13_4_23 : decode prog_13_method_4_code 23 = .ok (.bipush 125, 2) := by decide +kernel
theorem d13_4_18 : decode prog_13_method_4_code 18 = .ok (.bipush 93, 2) := by decide +kernel
theorem d13_4_20 : decode prog_13_method_4_code 20 = .ok (.goto 5, 3) := by decide +kernel
theorem d13_4_25 : decode prog_13_method_4_code 25 = .ok (.istore 4, 2) := by decide +kernel
theorem d13_4_27 : decode prog_13_method_4_code 27 = .ok (.new 80, 3) := by decide +kernel
theorem d13_4_30 : decode prog_13_method_4_code 30 = .ok (.dup, 1) := by decide +kernel
theorem d13_4_31 : decode prog_13_method_4_code 31 = .ok (.aload_n 3, 1) := by decide +kernel
theorem d13_4_32 : decode prog_13_method_4_code 32 = .ok (.iconst 0, 1) := by decide +kernel
theorem d13_4_33 : decode prog_13_method_4_code 33 = .ok (.ldc 82, 2) := by decide +kernel
theorem d13_4_35 : decode prog_13_method_4_code 35 = .ok (.invokespecial 84, 3) := by decide +kernel
theorem d13_4_38 : decode prog_13_method_4_code 38 = .ok (.astore 5, 2) := by decide +kernel
theorem d13_4_40 : decode prog_13_method_4_code 40 = .ok (.aload_n 1, 1) := by decide +kernel
theorem d13_4_41 : decode prog_13_method_4_code 41 = .ok (.aload_n 3, 1) := by decide +kernel
theorem d13_4_42 : decode prog_13_method_4_code 42 = .ok (.getstatic 41, 3) := by decide +kernel
theorem d13_4_45 : decode prog_13_method_4_code 45 = .ok (.if_acmp .ne 8, 3) := by decide +kernel
theorem d13_4_53 : decode prog_13_method_4_code 53 = .ok (.bipush 123, 2) := by decide +kernel
theorem d13_4_48 : decode prog_13_method_4_code 48 = .ok (.bipush 91, 2) := by decide +kernel
theorem d13_4_50 : decode prog_13_method_4_code 50 = .ok (.goto 5, 3) := by decide +kernel
theorem d13_4_55 : decode prog_13_method_4_code 55 = .ok (.invokevirtual 87, 3) := by decide +kernel
theorem k377 : (Jvm.Cond.methodLink "PagedValues$ValueParser" (87 : Nat) ({ cls := "PagedValues$Text", name := "need", desc := "(C)Z" } : Jvm.MethodName)) ∈ TB := tk_2 137 rfl rfl
theorem d13_4_58 : decode prog_13_method_4_code 58 = .ok (.pop, 1) := by decide +kernel
theorem d13_4_59 : decode prog_13_method_4_code 59 = .ok (.aload_n 1, 1) := by decide +kernel
theorem d13_4_60 : decode prog_13_method_4_code 60 = .ok (.invokevirtual 24, 3) := by decide +kernel
theorem d13_4_63 : decode prog_13_method_4_code 63 = .ok (.aload_n 1, 1) := by decide +kernel
theorem d13_4_64 : decode prog_13_method_4_code 64 = .ok (.iload 4, 2) := by decide +kernel
theorem d13_4_66 : decode prog_13_method_4_code 66 = .ok (.invokevirtual 91, 3) := by decide +kernel
theorem k386 : (Jvm.Cond.methodLink "PagedValues$ValueParser" (91 : Nat) ({ cls := "PagedValues$Text", name := "take", desc := "(C)Z" } : Jvm.MethodName)) ∈ TB := tk_2 146 rfl rfl
theorem d13_4_69 : decode prog_13_method_4_code 69 = .ok (.ifCond .eq 6, 3) := by decide +kernel
theorem d13_4_75 : decode prog_13_method_4_code 75 = .ok (.iconst 0, 1) := by decide +kernel
theorem d13_4_76 : decode prog_13_method_4_code 76 = .ok (.istore 6, 2) := by decide +kernel
theorem d13_4_162 : decode prog_13_method_4_code 162 = .ok (.aload_n 1, 1) := by decide +kernel
theorem d13_4_163 : decode prog_13_method_4_code 163 = .ok (.invokevirtual 31, 3) := by decide +kernel
theorem k330 : (Jvm.Cond.methodLink "PagedValues$ValueParser" (31 : Nat) ({ cls := "PagedValues$Text", name := "fail", desc := "()V" } : Jvm.MethodName)) ∈ TB := tk_2 90 rfl rfl
theorem d13_4_166 : decode prog_13_method_4_code 166 = .ok (.aconst_null, 1) := by decide +kernel
theorem d13_4_167 : decode prog_13_method_4_code 167 = .ok (.areturn, 1) := by decide +kernel
theorem d13_4_78 : decode prog_13_method_4_code 78 = .ok (.iload 6, 2) := by decide +kernel
theorem d13_4_80 : decode prog_13_method_4_code 80 = .ok (.bipush 24, 2) := by decide +kernel
theorem d13_4_82 : decode prog_13_method_4_code 82 = .ok (.if_icmp .ge 80, 3) := by decide +kernel
theorem d13_4_85 : decode prog_13_method_4_code 85 = .ok (.aload_n 3, 1) := by decide +kernel
theorem d13_4_86 : decode prog_13_method_4_code 86 = .ok (.getstatic 41, 3) := by decide +kernel
theorem d13_4_89 : decode prog_13_method_4_code 89 = .ok (.if_acmp .ne 14, 3) := by decide +kernel
theorem d13_4_103 : decode prog_13_method_4_code 103 = .ok (.aload_n 0, 1) := by decide +kernel
theorem d13_4_104 : decode prog_13_method_4_code 104 = .ok (.aload_n 1, 1) := by decide +kernel
theorem d13_4_105 : decode prog_13_method_4_code 105 = .ok (.iload_n 2, 1) := by decide +kernel
theorem d13_4_106 : decode prog_13_method_4_code 106 = .ok (.iconst 1, 1) := by decide +kernel
theorem d13_4_107 : decode prog_13_method_4_code 107 = .ok (.iadd, 1) := by decide +kernel
theorem d13_4_108 : decode prog_13_method_4_code 108 = .ok (.aload 5, 2) := by decide +kernel
theorem d13_4_110 : decode prog_13_method_4_code 110 = .ok (.invokevirtual 94, 3) := by decide +kernel
theorem d13_5_0 : decode prog_13_method_5_code 0 = .ok (.aload_n 1, 1) := by decide +kernel
theorem d13_5_1 : decode prog_13_method_5_code 1 = .ok (.invokevirtual 24, 3) := by decide +kernel
theorem d13_5_4 : decode prog_13_method_5_code 4 = .ok (.aload_n 1, 1) := by decide +kernel
theorem d13_5_5 : decode prog_13_method_5_code 5 = .ok (.getfield 102, 3) := by decide +kernel
theorem kn80 : (Jvm.Cond.fieldLinkNest "PagedValues$ValueParser" (102 : Nat) "PagedValues$Text" "place" "I" "PagedValues") ∈ NW := tn_1 80 rfl rfl
theorem d13_5_8 : decode prog_13_method_5_code 8 = .ok (.istore 4, 2) := by decide +kernel
theorem d13_5_10 : decode prog_13_method_5_code 10 = .ok (.aload_n 1, 1) := by decide +kernel
theorem d13_5_11 : decode prog_13_method_5_code 11 = .ok (.bipush 34, 2) := by decide +kernel
theorem d13_5_13 : decode prog_13_method_5_code 13 = .ok (.iconst 1, 1) := by decide +kernel
theorem d13_5_14 : decode prog_13_method_5_code 14 = .ok (.invokevirtual 105, 3) := by decide +kernel
theorem d13_5_17 : decode prog_13_method_5_code 17 = .ok (.astore 5, 2) := by decide +kernel
theorem d13_5_19 : decode prog_13_method_5_code 19 = .ok (.aload_n 1, 1) := by decide +kernel
theorem d13_5_20 : decode prog_13_method_5_code 20 = .ok (.invokevirtual 34, 3) := by decide +kernel
theorem d13_5_23 : decode prog_13_method_5_code 23 = .ok (.ifCond .ne 5, 3) := by decide +kernel
theorem d13_5_28 : decode prog_13_method_5_code 28 = .ok (.aload_n 3, 1) := by decide +kernel
theorem d13_5_29 : decode prog_13_method_5_code 29 = .ok (.aload 5, 2) := by decide +kernel
theorem d13_5_31 : decode prog_13_method_5_code 31 = .ok (.invokevirtual 109, 3) := by decide +kernel
theorem k584 : (Jvm.Cond.code ({ cls := "PagedValues$Value", name := "member", desc := "(Ljava/lang/String;)LPagedValues$Value;" } : Jvm.MethodName) prog_12_method_2_code (3 : Nat) (Option.some (Jvm.ClassFile.FieldType.object "PagedValues$Value"))) ∈ TB := tk_3 104 rfl rfl
theorem k581 : (Jvm.Cond.methodLink "PagedValues$ValueParser" (109 : Nat) ({ cls := "PagedValues$Value", name := "member", desc := "(Ljava/lang/String;)LPagedValues$Value;" } : Jvm.MethodName)) ∈ TB := tk_3 101 rfl rfl
theorem k582 : (Jvm.Cond.instanceMethod ({ cls := "PagedValues$Value", name := "member", desc := "(Ljava/lang/String;)LPagedValues$Value;" } : Jvm.MethodName)) ∈ TB := tk_3 102 rfl rfl
theorem k583 : (Jvm.Cond.selects "PagedValues$Value" ({ cls := "PagedValues$Value", name := "member", desc := "(Ljava/lang/String;)LPagedValues$Value;" } : Jvm.MethodName) ({ cls := "PagedValues$Value", name := "member", desc := "(Ljava/lang/String;)LPagedValues$Value;" } : Jvm.MethodName)) ∈ TB := tk_3 103 rfl rfl
theorem d13_5_34 : decode prog_13_method_5_code 34 = .ok (.ifnull 11, 3) := by decide +kernel
theorem d13_5_45 : decode prog_13_method_5_code 45 = .ok (.aload_n 1, 1) := by decide +kernel
theorem d13_5_46 : decode prog_13_method_5_code 46 = .ok (.invokevirtual 24, 3) := by decide +kernel
theorem d13_5_49 : decode prog_13_method_5_code 49 = .ok (.aload_n 1, 1) := by decide +kernel
theorem d13_5_50 : decode prog_13_method_5_code 50 = .ok (.bipush 58, 2) := by decide +kernel
theorem d13_5_52 : decode prog_13_method_5_code 52 = .ok (.invokevirtual 87, 3) := by decide +kernel
theorem d13_5_55 : decode prog_13_method_5_code 55 = .ok (.ifCond .ne 5, 3) := by decide +kernel
theorem d13_5_60 : decode prog_13_method_5_code 60 = .ok (.aload_n 0, 1) := by decide +kernel
theorem d13_5_61 : decode prog_13_method_5_code 61 = .ok (.aload_n 1, 1) := by decide +kernel
theorem d13_5_62 : decode prog_13_method_5_code 62 = .ok (.iload_n 2, 1) := by decide +kernel
theorem d13_5_63 : decode prog_13_method_5_code 63 = .ok (.invokevirtual 20, 3) := by decide +kernel
theorem k318 : (Jvm.Cond.code ({ cls := "PagedValues$ValueParser", name := "value", desc := "(LPagedValues$Text;I)LPagedValues$Value;" } : Jvm.MethodName) prog_13_method_3_code (3 : Nat) (Option.some (Jvm.ClassFile.FieldType.object "PagedValues$Value"))) ∈ TB := tk_2 78 rfl rfl
def y13_3 : MethodName := { cls := "PagedValues$ValueParser", name := "value", desc := "(LPagedValues$Text;I)LPagedValues$Value;" }
theorem k315 : (Jvm.Cond.methodLink "PagedValues$ValueParser" (20 : Nat) ({ cls := "PagedValues$ValueParser", name := "value", desc := "(LPagedValues$Text;I)LPagedValues$Value;" } : Jvm.MethodName)) ∈ TB := tk_2 75 rfl rfl
theorem k317 : (Jvm.Cond.instanceMethod ({ cls := "PagedValues$ValueParser", name := "value", desc := "(LPagedValues$Text;I)LPagedValues$Value;" } : Jvm.MethodName)) ∈ TB := tk_2 77 rfl rfl
theorem ks0 : Cond.selects y13_3.cls y13_3 y13_3 ∈ TB := List.mem_filter.mpr ⟨List.mem_append_left _ (List.mem_of_getElem? (i := 0) (by decide +kernel)), rfl⟩
theorem d13_5_66 : decode prog_13_method_5_code 66 = .ok (.astore 6, 2) := by decide +kernel
theorem d13_5_68 : decode prog_13_method_5_code 68 = .ok (.aload 6, 2) := by decide +kernel
theorem d13_5_70 : decode prog_13_method_5_code 70 = .ok (.ifnull 10, 3) := by decide +kernel
theorem d13_5_73 : decode prog_13_method_5_code 73 = .ok (.aload 6, 2) := by decide +kernel
theorem d13_5_75 : decode prog_13_method_5_code 75 = .ok (.aload 5, 2) := by decide +kernel
theorem d13_5_77 : decode prog_13_method_5_code 77 = .ok (.putfield 116, 3) := by decide +kernel
theorem kn356 : (Jvm.Cond.fieldLinkNest "PagedValues$ValueParser" (116 : Nat) "PagedValues$Value" "name" "Ljava/lang/String;" "PagedValues") ∈ NW := tn_2 116 rfl rfl
theorem d13_5_80 : decode prog_13_method_5_code 80 = .ok (.aload 6, 2) := by decide +kernel
theorem d13_5_82 : decode prog_13_method_5_code 82 = .ok (.areturn, 1) := by decide +kernel
theorem d13_5_58 : decode prog_13_method_5_code 58 = .ok (.aconst_null, 1) := by decide +kernel
theorem d13_5_59 : decode prog_13_method_5_code 59 = .ok (.areturn, 1) := by decide +kernel
theorem d13_5_37 : decode prog_13_method_5_code 37 = .ok (.aload_n 1, 1) := by decide +kernel
theorem d13_5_38 : decode prog_13_method_5_code 38 = .ok (.iload 4, 2) := by decide +kernel
theorem d13_5_40 : decode prog_13_method_5_code 40 = .ok (.invokevirtual 112, 3) := by decide +kernel
theorem k598 : (Jvm.Cond.code ({ cls := "PagedValues$Text", name := "failAt", desc := "(I)V" } : Jvm.MethodName) prog_11_method_7_code (2 : Nat) (Option.none : Option Jvm.ClassFile.FieldType)) ∈ TB := tk_3 118 rfl rfl
theorem k595 : (Jvm.Cond.methodLink "PagedValues$ValueParser" (112 : Nat) ({ cls := "PagedValues$Text", name := "failAt", desc := "(I)V" } : Jvm.MethodName)) ∈ TB := tk_3 115 rfl rfl
theorem k596 : (Jvm.Cond.instanceMethod ({ cls := "PagedValues$Text", name := "failAt", desc := "(I)V" } : Jvm.MethodName)) ∈ TB := tk_3 116 rfl rfl
theorem k597 : (Jvm.Cond.selects "PagedValues$Text" ({ cls := "PagedValues$Text", name := "failAt", desc := "(I)V" } : Jvm.MethodName) ({ cls := "PagedValues$Text", name := "failAt", desc := "(I)V" } : Jvm.MethodName)) ∈ TB := tk_3 117 rfl rfl
theorem d13_5_43 : decode prog_13_method_5_code 43 = .ok (.aconst_null, 1) := by decide +kernel
theorem d13_5_44 : decode prog_13_method_5_code 44 = .ok (.areturn, 1) := by decide +kernel
theorem d13_5_26 : decode prog_13_method_5_code 26 = .ok (.aconst_null, 1) := by decide +kernel
theorem d13_5_27 : decode prog_13_method_5_code 27 = .ok (.areturn, 1) := by decide +kernel
def y13_5 : MethodName := { cls := "PagedValues$ValueParser", name := "member", desc := "(LPagedValues$Text;ILPagedValues$Value;)LPagedValues$Value;" }
theorem k390 : (Jvm.Cond.code ({ cls := "PagedValues$ValueParser", name := "member", desc := "(LPagedValues$Text;ILPagedValues$Value;)LPagedValues$Value;" } : Jvm.MethodName) prog_13_method_5_code (7 : Nat) (Option.some (Jvm.ClassFile.FieldType.object "PagedValues$Value"))) ∈ TB := tk_2 150 rfl rfl
theorem k387 : (Jvm.Cond.methodLink "PagedValues$ValueParser" (94 : Nat) ({ cls := "PagedValues$ValueParser", name := "member", desc := "(LPagedValues$Text;ILPagedValues$Value;)LPagedValues$Value;" } : Jvm.MethodName)) ∈ TB := tk_2 147 rfl rfl
theorem k389 : (Jvm.Cond.instanceMethod ({ cls := "PagedValues$ValueParser", name := "member", desc := "(LPagedValues$Text;ILPagedValues$Value;)LPagedValues$Value;" } : Jvm.MethodName)) ∈ TB := tk_2 149 rfl rfl
theorem ks2 : Cond.selects y13_5.cls y13_5 y13_5 ∈ TB := List.mem_filter.mpr ⟨List.mem_append_left _ (List.mem_of_getElem? (i := 2) (by decide +kernel)), rfl⟩
theorem d13_4_92 : decode prog_13_method_4_code 92 = .ok (.aload_n 0, 1) := by decide +kernel
theorem d13_4_93 : decode prog_13_method_4_code 93 = .ok (.aload_n 1, 1) := by decide +kernel
theorem d13_4_94 : decode prog_13_method_4_code 94 = .ok (.iload_n 2, 1) := by decide +kernel
theorem d13_4_95 : decode prog_13_method_4_code 95 = .ok (.iconst 1, 1) := by decide +kernel
theorem d13_4_96 : decode prog_13_method_4_code 96 = .ok (.iadd, 1) := by decide +kernel
theorem d13_4_97 : decode prog_13_method_4_code 97 = .ok (.invokevirtual 20, 3) := by decide +kernel
theorem d13_4_100 : decode prog_13_method_4_code 100 = .ok (.goto 13, 3) := by decide +kernel
theorem d13_4_113 : decode prog_13_method_4_code 113 = .ok (.astore 7, 2) := by decide +kernel
theorem d13_4_115 : decode prog_13_method_4_code 115 = .ok (.aload 7, 2) := by decide +kernel
theorem d13_4_117 : decode prog_13_method_4_code 117 = .ok (.ifnonnull 5, 3) := by decide +kernel
theorem d13_4_120 : decode prog_13_method_4_code 120 = .ok (.aconst_null, 1) := by decide +kernel
theorem d13_4_121 : decode prog_13_method_4_code 121 = .ok (.areturn, 1) := by decide +kernel
theorem d13_4_122 : decode prog_13_method_4_code 122 = .ok (.aload 5, 2) := by decide +kernel
theorem d13_4_124 : decode prog_13_method_4_code 124 = .ok (.aload 7, 2) := by decide +kernel
theorem d13_4_126 : decode prog_13_method_4_code 126 = .ok (.invokevirtual 98, 3) := by decide +kernel
theorem k602 : (Jvm.Cond.code ({ cls := "PagedValues$Value", name := "append", desc := "(LPagedValues$Value;)V" } : Jvm.MethodName) prog_12_method_6_code (2 : Nat) (Option.none : Option Jvm.ClassFile.FieldType)) ∈ TB := tk_3 122 rfl rfl
theorem k599 : (Jvm.Cond.methodLink "PagedValues$ValueParser" (98 : Nat) ({ cls := "PagedValues$Value", name := "append", desc := "(LPagedValues$Value;)V" } : Jvm.MethodName)) ∈ TB := tk_3 119 rfl rfl
theorem k600 : (Jvm.Cond.instanceMethod ({ cls := "PagedValues$Value", name := "append", desc := "(LPagedValues$Value;)V" } : Jvm.MethodName)) ∈ TB := tk_3 120 rfl rfl
theorem k601 : (Jvm.Cond.selects "PagedValues$Value" ({ cls := "PagedValues$Value", name := "append", desc := "(LPagedValues$Value;)V" } : Jvm.MethodName) ({ cls := "PagedValues$Value", name := "append", desc := "(LPagedValues$Value;)V" } : Jvm.MethodName)) ∈ TB := tk_3 121 rfl rfl
theorem d13_4_129 : decode prog_13_method_4_code 129 = .ok (.aload_n 1, 1) := by decide +kernel
theorem d13_4_130 : decode prog_13_method_4_code 130 = .ok (.invokevirtual 24, 3) := by decide +kernel
theorem d13_4_133 : decode prog_13_method_4_code 133 = .ok (.aload_n 1, 1) := by decide +kernel
theorem d13_4_134 : decode prog_13_method_4_code 134 = .ok (.iload 4, 2) := by decide +kernel
theorem d13_4_136 : decode prog_13_method_4_code 136 = .ok (.invokevirtual 91, 3) := by decide +kernel
theorem d13_4_139 : decode prog_13_method_4_code 139 = .ok (.ifCond .eq 6, 3) := by decide +kernel
theorem d13_4_145 : decode prog_13_method_4_code 145 = .ok (.aload_n 1, 1) := by decide +kernel
theorem d13_4_146 : decode prog_13_method_4_code 146 = .ok (.bipush 44, 2) := by decide +kernel
theorem d13_4_148 : decode prog_13_method_4_code 148 = .ok (.invokevirtual 87, 3) := by decide +kernel
theorem d13_4_151 : decode prog_13_method_4_code 151 = .ok (.ifCond .ne 5, 3) := by decide +kernel
theorem d13_4_156 : decode prog_13_method_4_code 156 = .ok (.iinc 6 1, 3) := by decide +kernel
theorem d13_4_159 : decode prog_13_method_4_code 159 = .ok (.goto (-81), 3) := by decide +kernel
theorem d13_4_154 : decode prog_13_method_4_code 154 = .ok (.aconst_null, 1) := by decide +kernel
theorem d13_4_155 : decode prog_13_method_4_code 155 = .ok (.areturn, 1) := by decide +kernel
theorem d13_4_142 : decode prog_13_method_4_code 142 = .ok (.aload 5, 2) := by decide +kernel
theorem d13_4_144 : decode prog_13_method_4_code 144 = .ok (.areturn, 1) := by decide +kernel
theorem d13_4_72 : decode prog_13_method_4_code 72 = .ok (.aload 5, 2) := by decide +kernel
theorem d13_4_74 : decode prog_13_method_4_code 74 = .ok (.areturn, 1) := by decide +kernel
theorem d13_4_5 : decode prog_13_method_4_code 5 = .ok (.aload_n 1, 1) := by decide +kernel
theorem d13_4_6 : decode prog_13_method_4_code 6 = .ok (.invokevirtual 31, 3) := by decide +kernel
theorem d13_4_9 : decode prog_13_method_4_code 9 = .ok (.aconst_null, 1) := by decide +kernel
theorem d13_4_10 : decode prog_13_method_4_code 10 = .ok (.areturn, 1) := by decide +kernel
def y13_4 : MethodName := { cls := "PagedValues$ValueParser", name := "container", desc := "(LPagedValues$Text;ILPagedValues$Kind;)LPagedValues$Value;" }
theorem k340 : (Jvm.Cond.code ({ cls := "PagedValues$ValueParser", name := "container", desc := "(LPagedValues$Text;ILPagedValues$Kind;)LPagedValues$Value;" } : Jvm.MethodName) prog_13_method_4_code (8 : Nat) (Option.some (Jvm.ClassFile.FieldType.object "PagedValues$Value"))) ∈ TB := tk_2 100 rfl rfl
theorem k337 : (Jvm.Cond.methodLink "PagedValues$ValueParser" (47 : Nat) ({ cls := "PagedValues$ValueParser", name := "container", desc := "(LPagedValues$Text;ILPagedValues$Kind;)LPagedValues$Value;" } : Jvm.MethodName)) ∈ TB := tk_2 97 rfl rfl
theorem k339 : (Jvm.Cond.instanceMethod ({ cls := "PagedValues$ValueParser", name := "container", desc := "(LPagedValues$Text;ILPagedValues$Kind;)LPagedValues$Value;" } : Jvm.MethodName)) ∈ TB := tk_2 99 rfl rfl
theorem ks1 : Cond.selects y13_4.cls y13_4 y13_4 ∈ TB := List.mem_filter.mpr ⟨List.mem_append_left _ (List.mem_of_getElem? (i := 1) (by decide +kernel)), rfl⟩
theorem d13_3_101 : decode prog_13_method_3_code 101 = .ok (.areturn, 1) := by decide +kernel
theorem d13_3_140 : decode prog_13_method_3_code 140 = .ok (.aload_n 0, 1) := by decide +kernel
theorem d13_3_141 : decode prog_13_method_3_code 141 = .ok (.aload_n 1, 1) := by decide +kernel
theorem d13_3_142 : decode prog_13_method_3_code 142 = .ok (.ldc 72, 2) := by decide +kernel
theorem d13_3_144 : decode prog_13_method_3_code 144 = .ok (.getstatic 74, 3) := by decide +kernel
theorem k652 : (Jvm.Cond.fieldLink "PagedValues$ValueParser" (74 : Nat) "PagedValues$Kind" "FALSE" "LPagedValues$Kind;") ∈ TB := tk_3 172 rfl rfl
theorem d13_3_147 : decode prog_13_method_3_code 147 = .ok (.invokevirtual 63, 3) := by decide +kernel
theorem d13_7_0 : decode prog_13_method_7_code 0 = .ok (.iconst 0, 1) := by decide +kernel
theorem d13_7_1 : decode prog_13_method_7_code 1 = .ok (.istore 4, 2) := by decide +kernel
theorem d13_7_33 : decode prog_13_method_7_code 33 = .ok (.new 80, 3) := by decide +kernel
theorem d13_7_36 : decode prog_13_method_7_code 36 = .ok (.dup, 1) := by decide +kernel
theorem d13_7_37 : decode prog_13_method_7_code 37 = .ok (.aload_n 3, 1) := by decide +kernel
theorem d13_7_38 : decode prog_13_method_7_code 38 = .ok (.iconst 0, 1) := by decide +kernel
theorem d13_7_39 : decode prog_13_method_7_code 39 = .ok (.ldc 82, 2) := by decide +kernel
theorem d13_7_41 : decode prog_13_method_7_code 41 = .ok (.invokespecial 84, 3) := by decide +kernel
theorem d13_7_44 : decode prog_13_method_7_code 44 = .ok (.areturn, 1) := by decide +kernel
theorem d13_7_3 : decode prog_13_method_7_code 3 = .ok (.iload 4, 2) := by decide +kernel
theorem d13_7_5 : decode prog_13_method_7_code 5 = .ok (.aload_n 2, 1) := by decide +kernel
theorem d13_7_6 : decode prog_13_method_7_code 6 = .ok (.invokevirtual 123, 3) := by decide +kernel
theorem k625 : (Jvm.Cond.methodLink "PagedValues$ValueParser" (123 : Nat) ({ cls := "java/lang/String", name := "length", desc := "()I" } : Jvm.MethodName)) ∈ TB := tk_3 145 rfl rfl
theorem d13_7_9 : decode prog_13_method_7_code 9 = .ok (.if_icmp .ge 24, 3) := by decide +kernel
theorem d13_7_12 : decode prog_13_method_7_code 12 = .ok (.aload_n 1, 1) := by decide +kernel
theorem d13_7_13 : decode prog_13_method_7_code 13 = .ok (.aload_n 2, 1) := by decide +kernel
theorem d13_7_14 : decode prog_13_method_7_code 14 = .ok (.iload 4, 2) := by decide +kernel
theorem d13_7_16 : decode prog_13_method_7_code 16 = .ok (.invokevirtual 128, 3) := by decide +kernel
theorem k633 : (Jvm.Cond.methodLink "PagedValues$ValueParser" (128 : Nat) ({ cls := "java/lang/String", name := "charAt", desc := "(I)C" } : Jvm.MethodName)) ∈ TB := tk_3 153 rfl rfl
theorem d13_7_19 : decode prog_13_method_7_code 19 = .ok (.invokevirtual 87, 3) := by decide +kernel
theorem d13_7_22 : decode prog_13_method_7_code 22 = .ok (.ifCond .ne 5, 3) := by decide +kernel
theorem d13_7_27 : decode prog_13_method_7_code 27 = .ok (.iinc 4 1, 3) := by decide +kernel
theorem d13_7_30 : decode prog_13_method_7_code 30 = .ok (.goto (-27), 3) := by decide +kernel
theorem d13_7_25 : decode prog_13_method_7_code 25 = .ok (.aconst_null, 1) := by decide +kernel
theorem d13_7_26 : decode prog_13_method_7_code 26 = .ok (.areturn, 1) := by decide +kernel
def y13_7 : MethodName := { cls := "PagedValues$ValueParser", name := "word", desc := "(LPagedValues$Text;Ljava/lang/String;LPagedValues$Kind;)LPagedValues$Value;" }
theorem k624 : (Jvm.Cond.code ({ cls := "PagedValues$ValueParser", name := "word", desc := "(LPagedValues$Text;Ljava/lang/String;LPagedValues$Kind;)LPagedValues$Value;" } : Jvm.MethodName) prog_13_method_7_code (5 : Nat) (Option.some (Jvm.ClassFile.FieldType.object "PagedValues$Value"))) ∈ TB := tk_3 144 rfl rfl
theorem k621 : (Jvm.Cond.methodLink "PagedValues$ValueParser" (63 : Nat) ({ cls := "PagedValues$ValueParser", name := "word", desc := "(LPagedValues$Text;Ljava/lang/String;LPagedValues$Kind;)LPagedValues$Value;" } : Jvm.MethodName)) ∈ TB := tk_3 141 rfl rfl
theorem k623 : (Jvm.Cond.instanceMethod ({ cls := "PagedValues$ValueParser", name := "word", desc := "(LPagedValues$Text;Ljava/lang/String;LPagedValues$Kind;)LPagedValues$Value;" } : Jvm.MethodName)) ∈ TB := tk_3 143 rfl rfl
theorem ks5 : Cond.selects y13_7.cls y13_7 y13_7 ∈ TB := List.mem_filter.mpr ⟨List.mem_append_left _ (List.mem_of_getElem? (i := 5) (by decide +kernel)), rfl⟩
theorem d13_3_150 : decode prog_13_method_3_code 150 = .ok (.areturn, 1) := by decide +kernel
theorem d13_3_118 : decode prog_13_method_3_code 118 = .ok (.aload_n 0, 1) := by decide +kernel
theorem d13_3_119 : decode prog_13_method_3_code 119 = .ok (.aload_n 1, 1) := by decide +kernel
theorem d13_3_120 : decode prog_13_method_3_code 120 = .ok (.ldc 58, 2) := by decide +kernel
theorem d13_3_122 : decode prog_13_method_3_code 122 = .ok (.getstatic 60, 3) := by decide +kernel
theorem k619 : (Jvm.Cond.fieldLink "PagedValues$ValueParser" (60 : Nat) "PagedValues$Kind" "NULL" "LPagedValues$Kind;") ∈ TB := tk_3 139 rfl rfl
theorem d13_3_125 : decode prog_13_method_3_code 125 = .ok (.invokevirtual 63, 3) := by decide +kernel
theorem d13_3_128 : decode prog_13_method_3_code 128 = .ok (.areturn, 1) := by decide +kernel
theorem d13_3_129 : decode prog_13_method_3_code 129 = .ok (.aload_n 0, 1) := by decide +kernel
theorem d13_3_130 : decode prog_13_method_3_code 130 = .ok (.aload_n 1, 1) := by decide +kernel
theorem d13_3_131 : decode prog_13_method_3_code 131 = .ok (.ldc 67, 2) := by decide +kernel
theorem d13_3_133 : decode prog_13_method_3_code 133 = .ok (.getstatic 69, 3) := by decide +kernel
theorem k649 : (Jvm.Cond.fieldLink "PagedValues$ValueParser" (69 : Nat) "PagedValues$Kind" "TRUE" "LPagedValues$Kind;") ∈ TB := tk_3 169 rfl rfl
theorem d13_3_136 : decode prog_13_method_3_code 136 = .ok (.invokevirtual 63, 3) := by decide +kernel
theorem d13_3_139 : decode prog_13_method_3_code 139 = .ok (.areturn, 1) := by decide +kernel
theorem d13_3_102 : decode prog_13_method_3_code 102 = .ok (.aload_n 0, 1) := by decide +kernel
theorem d13_3_103 : decode prog_13_method_3_code 103 = .ok (.aload_n 1, 1) := by decide +kernel
theorem d13_3_104 : decode prog_13_method_3_code 104 = .ok (.iload_n 2, 1) := by decide +kernel
theorem d13_3_105 : decode prog_13_method_3_code 105 = .ok (.getstatic 51, 3) := by decide +kernel
theorem k611 : (Jvm.Cond.fieldLink "PagedValues$ValueParser" (51 : Nat) "PagedValues$Kind" "OBJECT" "LPagedValues$Kind;") ∈ TB := tk_3 131 rfl rfl
theorem d13_3_108 : decode prog_13_method_3_code 108 = .ok (.invokevirtual 47, 3) := by decide +kernel
theorem d13_3_111 : decode prog_13_method_3_code 111 = .ok (.areturn, 1) := by decide +kernel
theorem d13_3_151 : decode prog_13_method_3_code 151 = .ok (.aload_n 0, 1) := by decide +kernel
theorem d13_3_152 : decode prog_13_method_3_code 152 = .ok (.aload_n 1, 1) := by decide +kernel
theorem d13_3_153 : decode prog_13_method_3_code 153 = .ok (.invokevirtual 77, 3) := by decide +kernel
theorem d13_8_0 : decode prog_13_method_8_code 0 = .ok (.aload_n 1, 1) := by decide +kernel
theorem d13_8_1 : decode prog_13_method_8_code 1 = .ok (.bipush 45, 2) := by decide +kernel
theorem d13_8_3 : decode prog_13_method_8_code 3 = .ok (.invokevirtual 91, 3) := by decide +kernel
theorem d13_8_6 : decode prog_13_method_8_code 6 = .ok (.istore_n 2, 1) := by decide +kernel
theorem d13_8_7 : decode prog_13_method_8_code 7 = .ok (.aload_n 1, 1) := by decide +kernel
theorem d13_8_8 : decode prog_13_method_8_code 8 = .ok (.bipush 6, 2) := by decide +kernel
theorem d13_8_10 : decode prog_13_method_8_code 10 = .ok (.invokevirtual 132, 3) := by decide +kernel
theorem k661 : (Jvm.Cond.code ({ cls := "PagedValues$Text", name := "digits", desc := "(I)I" } : Jvm.MethodName) prog_11_method_13_code (4 : Nat) (Option.some Jvm.ClassFile.FieldType.int)) ∈ TB := tk_3 181 rfl rfl
theorem k658 : (Jvm.Cond.methodLink "PagedValues$ValueParser" (132 : Nat) ({ cls := "PagedValues$Text", name := "digits", desc := "(I)I" } : Jvm.MethodName)) ∈ TB := tk_3 178 rfl rfl
theorem k659 : (Jvm.Cond.instanceMethod ({ cls := "PagedValues$Text", name := "digits", desc := "(I)I" } : Jvm.MethodName)) ∈ TB := tk_3 179 rfl rfl
theorem k660 : (Jvm.Cond.selects "PagedValues$Text" ({ cls := "PagedValues$Text", name := "digits", desc := "(I)I" } : Jvm.MethodName) ({ cls := "PagedValues$Text", name := "digits", desc := "(I)I" } : Jvm.MethodName)) ∈ TB := tk_3 180 rfl rfl
theorem d13_8_13 : decode prog_13_method_8_code 13 = .ok (.istore_n 3, 1) := by decide +kernel
theorem d13_8_14 : decode prog_13_method_8_code 14 = .ok (.aload_n 1, 1) := by decide +kernel
theorem d13_8_15 : decode prog_13_method_8_code 15 = .ok (.invokevirtual 34, 3) := by decide +kernel
theorem d13_8_18 : decode prog_13_method_8_code 18 = .ok (.ifCond .eq 28, 3) := by decide +kernel
theorem d13_8_46 : decode prog_13_method_8_code 46 = .ok (.aconst_null, 1) := by decide +kernel
theorem d13_8_21 : decode prog_13_method_8_code 21 = .ok (.new 80, 3) := by decide +kernel
theorem d13_8_24 : decode prog_13_method_8_code 24 = .ok (.dup, 1) := by decide +kernel
theorem d13_8_25 : decode prog_13_method_8_code 25 = .ok (.getstatic 136, 3) := by decide +kernel
theorem k665 : (Jvm.Cond.fieldLink "PagedValues$ValueParser" (136 : Nat) "PagedValues$Kind" "NUMBER" "LPagedValues$Kind;") ∈ TB := tk_3 185 rfl rfl
theorem d13_8_28 : decode prog_13_method_8_code 28 = .ok (.iload_n 2, 1) := by decide +kernel
theorem d13_8_29 : decode prog_13_method_8_code 29 = .ok (.ifCond .eq 8, 3) := by decide +kernel
theorem d13_8_37 : decode prog_13_method_8_code 37 = .ok (.iload_n 3, 1) := by decide +kernel
theorem d13_8_32 : decode prog_13_method_8_code 32 = .ok (.iload_n 3, 1) := by decide +kernel
theorem d13_8_33 : decode prog_13_method_8_code 33 = .ok (.ineg, 1) := by decide +kernel
theorem d13_8_34 : decode prog_13_method_8_code 34 = .ok (.goto 4, 3) := by decide +kernel
theorem d13_8_38 : decode prog_13_method_8_code 38 = .ok (.ldc 82, 2) := by decide +kernel
theorem d13_8_40 : decode prog_13_method_8_code 40 = .ok (.invokespecial 84, 3) := by decide +kernel
theorem d13_8_43 : decode prog_13_method_8_code 43 = .ok (.goto 4, 3) := by decide +kernel
theorem d13_8_47 : decode prog_13_method_8_code 47 = .ok (.areturn, 1) := by decide +kernel
def y13_8 : MethodName := { cls := "PagedValues$ValueParser", name := "number", desc := "(LPagedValues$Text;)LPagedValues$Value;" }
theorem k657 : (Jvm.Cond.code ({ cls := "PagedValues$ValueParser", name := "number", desc := "(LPagedValues$Text;)LPagedValues$Value;" } : Jvm.MethodName) prog_13_method_8_code (4 : Nat) (Option.some (Jvm.ClassFile.FieldType.object "PagedValues$Value"))) ∈ TB := tk_3 177 rfl rfl
theorem k654 : (Jvm.Cond.methodLink "PagedValues$ValueParser" (77 : Nat) ({ cls := "PagedValues$ValueParser", name := "number", desc := "(LPagedValues$Text;)LPagedValues$Value;" } : Jvm.MethodName)) ∈ TB := tk_3 174 rfl rfl
theorem k656 : (Jvm.Cond.instanceMethod ({ cls := "PagedValues$ValueParser", name := "number", desc := "(LPagedValues$Text;)LPagedValues$Value;" } : Jvm.MethodName)) ∈ TB := tk_3 176 rfl rfl
theorem ks6 : Cond.selects y13_8.cls y13_8 y13_8 ∈ TB := List.mem_filter.mpr ⟨List.mem_append_left _ (List.mem_of_getElem? (i := 6) (by decide +kernel)), rfl⟩
theorem d13_3_156 : decode prog_13_method_3_code 156 = .ok (.areturn, 1) := by decide +kernel
theorem d13_3_13 : decode prog_13_method_3_code 13 = .ok (.aload_n 1, 1) := by decide +kernel
theorem d13_3_14 : decode prog_13_method_3_code 14 = .ok (.invokevirtual 31, 3) := by decide +kernel
theorem d13_3_17 : decode prog_13_method_3_code 17 = .ok (.aconst_null, 1) := by decide +kernel
theorem d13_3_18 : decode prog_13_method_3_code 18 = .ok (.areturn, 1) := by decide +kernel
theorem d13_2_15 : decode prog_13_method_2_code 15 = .ok (.astore_n 2, 1) := by decide +kernel
theorem d13_2_16 : decode prog_13_method_2_code 16 = .ok (.aload_n 1, 1) := by decide +kernel
theorem d13_2_17 : decode prog_13_method_2_code 17 = .ok (.invokevirtual 24, 3) := by decide +kernel
theorem d13_2_20 : decode prog_13_method_2_code 20 = .ok (.aload_n 1, 1) := by decide +kernel
theorem d13_2_21 : decode prog_13_method_2_code 21 = .ok (.invokevirtual 27, 3) := by decide +kernel
theorem k670 : (Jvm.Cond.code ({ cls := "PagedValues$Text", name := "atEnd", desc := "()Z" } : Jvm.MethodName) prog_11_method_6_code (1 : Nat) (Option.some Jvm.ClassFile.FieldType.boolean)) ∈ TB := tk_3 190 rfl rfl
theorem k667 : (Jvm.Cond.methodLink "PagedValues$ValueParser" (27 : Nat) ({ cls := "PagedValues$Text", name := "atEnd", desc := "()Z" } : Jvm.MethodName)) ∈ TB := tk_3 187 rfl rfl
theorem k668 : (Jvm.Cond.instanceMethod ({ cls := "PagedValues$Text", name := "atEnd", desc := "()Z" } : Jvm.MethodName)) ∈ TB := tk_3 188 rfl rfl
theorem k669 : (Jvm.Cond.selects "PagedValues$Text" ({ cls := "PagedValues$Text", name := "atEnd", desc := "()Z" } : Jvm.MethodName) ({ cls := "PagedValues$Text", name := "atEnd", desc := "()Z" } : Jvm.MethodName)) ∈ TB := tk_3 189 rfl rfl
theorem d13_2_24 : decode prog_13_method_2_code 24 = .ok (.ifCond .ne 7, 3) := by decide +kernel
theorem d13_2_27 : decode prog_13_method_2_code 27 = .ok (.aload_n 1, 1) := by decide +kernel
theorem d13_2_28 : decode prog_13_method_2_code 28 = .ok (.invokevirtual 31, 3) := by decide +kernel
theorem d13_2_31 : decode prog_13_method_2_code 31 = .ok (.aload_n 1, 1) := by decide +kernel
theorem d13_2_32 : decode prog_13_method_2_code 32 = .ok (.invokevirtual 34, 3) := by decide +kernel
theorem d13_2_35 : decode prog_13_method_2_code 35 = .ok (.ifCond .eq 7, 3) := by decide +kernel
theorem d13_2_42 : decode prog_13_method_2_code 42 = .ok (.aconst_null, 1) := by decide +kernel
theorem d13_2_38 : decode prog_13_method_2_code 38 = .ok (.aload_n 2, 1) := by decide +kernel
theorem d13_2_39 : decode prog_13_method_2_code 39 = .ok (.goto 4, 3) := by decide +kernel
theorem d13_2_43 : decode prog_13_method_2_code 43 = .ok (.areturn, 1) := by decide +kernel
def y13_2 : MethodName := { cls := "PagedValues$ValueParser", name := "parse", desc := "(LPagedValues$Text;)LPagedValues$Value;" }
def c_ValueParser_string (Zd : Nat → Nat) (K : KE) (o : Nat) (a0 : Option Nat) (st : CS) : Option (Option Nat × CS) := a0.bind fun a11z => (isO K st a11z 1).bind fun _ => (c_Text_quoted Zd K a11z (34 : Int32) (1 : Int32) st).bind fun r14 => (isO K r14.2 a11z 1).bind fun _ => (c_Text_isRight Zd K a11z r14.2).bind fun x15 => (if x15 = (0 : Int32) then (some (none, r14.2)) else ((some r14.2.1.1).bind fun a22z => (nOc Zd r14.2 11 6 [.null, .int 0, .null, .null, .null, .null]).bind fun st23 => (c_Value_init Zd K a22z (some (Zd 12)) (0 : Int32) r14.1 st23).bind fun st25 => some (some a22z, st25))).bind fun e18 => some (e18.1, e18.2)
set_option maxHeartbeats 4000000 in
set_option maxRecDepth 100000 in
theorem cc_ValueParser_string (l : Launch) (G : Gk) (Zd : Nat → Nat) (K : KE) (o : Nat) (a0 : Option Nat) (st : CS) (r0 : Option Nat) (st0 : CS) (hm : c_ValueParser_string Zd K o a0 st = some (r0, st0)) : CT l y13_6 prog_13_method_6_code 3 (some (.object "PagedValues$Value")) G Zd K (8) [.ref o, va_rf a0] st (hQ G Zd r0 st0) := by
  refine goH (d := 8) (y := y13_6) (cc := prog_13_method_6_code) (maxL := 3) (ret := (some (.object "PagedValues$Value"))) (av := [.ref o, va_rf a0]) (Qc := hQ G Zd r0 st0) "PagedValues$ValueParser" rfl (by decide) (c1_c rfl (c1_c (rf_cat _) c1_n)) (Nat.le_of_ble_eq_true rfl) ?_
  intro p e s m below meth c ls A args Q hQ hx hb hr hlk hml hown hts hin hl hE hw
  have hl : lw ls 3 [(0, .ref o), (1, va_rf a0)] := hl
  have hZ := hE.2.2.1
  have h := hm
  clear hm
  refine xq_aload_n (r := a0) hx hb d13_6_0 rfl (lv_at hl.1 1 rfl) ?_
  refine lv_bipush (v := 34) hx hb d13_6_1 (by decide) ?_
  refine lv_iconst (v := 1) hx hb d13_6_3 (by decide) ?_
  obtain ⟨a11z, hn11, h⟩ := ob h
  have hn11 : a0 = some a11z := hn11
  refine W.eq (g2 := F0 m 4 ls [.int 1, .int 34, .ref a11z]) (by rw [hn11]; rfl) ?_
  obtain ⟨u9, ho, h⟩ := ob h
  obtain ⟨⟨x12, st13⟩, hc, h⟩ := ob h
  refine hV_q (ci := 1) (As := [.int 34, .int 1]) (rest := []) ⟨hx, hb, hml, hown, hts⟩ (cc_Text_quoted l G Zd K a11z (34 : Int32) (1 : Int32) st x12 st13 hc) (kw_V (n := 2) hts k394 k391 k2 k392 k393 (by decide +kernel) ⟨Nat.le_of_ble_eq_true rfl, Nat.le_of_ble_eq_true rfl⟩) hE hw rfl rfl ho rfl hl.1.1 rfl (c1_8 c1_n (Nat.le_of_ble_eq_true rfl)) d13_6_4 (fun H locs cells slots hw => ?_)
  clear hc ho u9
  refine W.eq (g2 := F0 m 7 ls [va_rf x12]) rfl ?_
  refine xt_astore_n (r := x12) (lv' := [(2, va_rf x12), (0, .ref o), (1, va_rf a0)]) hx hb d13_6_7 rfl hl (by decide) rfl (fun ls hl => ?_)
  refine xq_aload_n (r := a0) hx hb d13_6_8 rfl (lv_at hl.1 2 rfl) ?_
  refine W.eq (g2 := F0 m 9 ls [.ref a11z]) (by rw [hn11]; rfl) ?_
  obtain ⟨u9, ho, h⟩ := ob h
  obtain ⟨x15, hc, h⟩ := ob h
  refine hV_i (ci := 1) (As := []) (rest := []) ⟨hx, hb, hml, hown, hts⟩ (cc_Text_isRight l G Zd K a11z st13 x15 hc) (kw_V (n := 0) hts k580 k577 k2 k578 k579 (by decide +kernel) ⟨Nat.le_of_ble_eq_true rfl, Nat.le_of_ble_eq_true rfl⟩) hE hw rfl rfl ho rfl hl.1.1 rfl (c1_8 c1_n (Nat.le_of_ble_eq_true rfl)) d13_6_9 (fun H locs cells slots hw => ?_)
  clear hc ho u9
  refine W.eq (g2 := F0 m 12 ls [.int x15]) rfl ?_
  obtain ⟨e18, hX, h⟩ := ob h
  obtain ⟨v19, v20⟩ := e18
  have hj : ∀ (H : Heap) (locs : List Loc) (cells slots : Nat) (ls : Array Slot), lw ls 3 [(0, .ref o), (1, va_rf a0), (2, va_rf x12)] → wsH G Zd A s v20 H locs → W p l e (rmH Zd (8) st.1) s m args below meth c H locs cells slots Q (F0 m 31 ls [va_rf v19]) := by
    intro H locs cells slots ls hl hw
    cases h
    exact finH_q hQ hx hb hr hlk rfl (Or.inl ⟨_, rfl⟩) hE hw d13_6_31
  clear h
  refine lv_if_eq (tgt := 30) hx hb d13_6_12 rfl (fun c21 => ?_) (fun c21 => ?_)
  ·
    replace h := (if_pos c21).symm.trans hX
    refine lv_null hx hb d13_6_30 ?_
    have e9_0 := Option.some.inj h
    obtain ⟨q9, e9_1⟩ := Prod.mk.inj e9_0
    clear e9_0
    subst v19
    subst v20
    have hl := lw_sub hl (l' := [(0, .ref o), (1, va_rf a0), (2, va_rf x12)]) [1, 2, 0] rfl
    exact hj _ _ _ _ _ hl hw
  ·
    replace h := (if_neg c21).symm.trans hX
    obtain ⟨a22z, hr, h⟩ := ob h
    obtain ⟨st23, hr2, h⟩ := ob h
    refine xn (ci := 11) (fs := [.null, .int 0, .null, .null, .null, .null]) (C := r_11) (T := f_11) (N := 6) hx hb hts (fun w h => List.mem_cons_of_mem _ (ly_11 w h)) ft_11 ft_11_ok hown (hts _ (List.mem_cons_of_mem _ k341)) (hts _ (List.mem_cons_of_mem _ k342)) (hts _ (List.mem_cons_of_mem _ k18)) hE hw rfl (fun j hj => by rcases (show j = 0 ∨ j = 1 ∨ j = 2 ∨ j = 3 ∨ j = 4 ∨ j = 5 by omega) with rfl | rfl | rfl | rfl | rfl | rfl <;> rfl) hr hr2 d13_6_15 (fun H cells slots hw => ?_)
    clear hr hr2
    refine lv_dup hx hb d13_6_18 rfl ?_
    refine va_gets (ref := "PagedValues$Kind") hx hb (hZ.2.1.1.1 4 (by decide)).1 hw.2.2.2 hown (hts _ (List.mem_cons_of_mem _ k616)) (fun _ h9 => h9) d13_6_19 ?_
    refine W.eq (g2 := F0 m 22 ls [.ref (Zd 12), .ref a22z, .ref a22z]) rfl ?_
    refine lv_iconst (v := 0) hx hb d13_6_22 (by decide) ?_
    refine xq_aload_n (r := x12) hx hb d13_6_23 rfl (lv_at hl.1 0 rfl) ?_
    obtain ⟨st25, hc, h⟩ := ob h
    refine hI_v (As := [.ref (Zd 12), .int 0, va_rf x12]) (rest := [.ref a22z]) ⟨hx, hb, hml, hown, hts⟩ (cc_Value_init l G Zd K a22z (some (Zd 12)) (0 : Int32) x12 st23 st25 hc) (kw_I (n := 3) hts k346 k344 k18 k345 rfl (by decide +kernel) ⟨Nat.le_of_ble_eq_true rfl, Nat.le_of_ble_eq_true rfl⟩) hE hw rfl hl.1.1 rfl (c1_8 (c1_c rfl c1_n) (Nat.le_of_ble_eq_true rfl)) d13_6_24 (fun H locs cells slots hw => ?_)
    clear hc
    refine W.eq (g2 := F0 m 27 ls [.ref a22z]) rfl ?_
    refine lv_goto (tgt := 31) hx hb d13_6_27 rfl ?_
    have e9_0 := Option.some.inj h
    obtain ⟨q9, e9_1⟩ := Prod.mk.inj e9_0
    clear e9_0
    subst v19
    subst v20
    have hl := lw_sub hl (l' := [(0, .ref o), (1, va_rf a0), (2, va_rf x12)]) [1, 2, 0] rfl
    exact hj _ _ _ _ _ hl hw
def c_ValueParser_member (Zd : Nat → Nat) (K : KE) (fv : Nat → Option Nat → Int32 → CS → Option (Option Nat × CS)) (o : Nat) (a0 : Option Nat) (a1 : Int32) (a2 : Option Nat) (st : CS) : Option (Option Nat × CS) := a0.bind fun a11z => (isO K st a11z 1).bind fun _ => (c_Text_skipBlanks Zd K a11z st).bind fun st13 => (gI K st13 a11z 1 3).bind fun x15 => (isO K st13 a11z 1).bind fun _ => (c_Text_quoted Zd K a11z (34 : Int32) (1 : Int32) st13).bind fun r18 => (isO K r18.2 a11z 1).bind fun _ => (c_Text_isRight Zd K a11z r18.2).bind fun x19 => if x19 = (0 : Int32) then (some (none, r18.2)) else (a2.bind fun a23z => (isO K r18.2 a23z 11).bind fun _ => (c_Value_member Zd K a23z r18.1 r18.2).bind fun x24 => nl x24 ((isO K r18.2 a11z 1).bind fun _ => (c_Text_skipBlanks Zd K a11z r18.2).bind fun st29 => (isO K st29 a11z 1).bind fun _ => (c_Text_need Zd K a11z (58 : Int32) st29).bind fun r33 => if r33.1 = (0 : Int32) then (some (none, r33.2)) else ((isO K r33.2 o 3).bind fun _ => (fv o a0 a1 r33.2).bind fun r37 => (nl r37.1 (some r37.2) (fun a40z => (sF r37.2 a40z 11 3 (va_rf r18.1)).bind fun st41 => some st41)).bind fun e38 => some (r37.1, e38))) (fun a27z => (isO K r18.2 a11z 1).bind fun _ => (c_Text_failAt Zd K a11z x15 r18.2).bind fun st43 => some (none, st43)))
set_option maxHeartbeats 4000000 in
set_option maxRecDepth 100000 in
theorem cc_ValueParser_member (l : Launch) (G : Gk) (Zd : Nat → Nat) (K : KE) (fv : Nat → Option Nat → Int32 → CS → Option (Option Nat × CS)) (Dv : Nat) (hv : ∀ (o : Nat) (b0 : Option Nat) (b1 : Int32) (st : CS) (r0 : Option Nat) (st0 : CS), fv o b0 b1 st = some (r0, st0) → CT l y13_3 prog_13_method_3_code 3 (some (.object "PagedValues$Value")) G Zd K Dv [.ref o, va_rf b0, .int b1] st (hQ G Zd r0 st0)) (o : Nat) (a0 : Option Nat) (a1 : Int32) (a2 : Option Nat) (st : CS) (r0 : Option Nat) (st0 : CS) (hm : c_ValueParser_member Zd K fv o a0 a1 a2 st = some (r0, st0)) : CT l y13_5 prog_13_method_5_code 7 (some (.object "PagedValues$Value")) G Zd K (Dv + 8) [.ref o, va_rf a0, .int a1, va_rf a2] st (hQ G Zd r0 st0) := by
  refine goH (d := Dv + 8) (y := y13_5) (cc := prog_13_method_5_code) (maxL := 7) (ret := (some (.object "PagedValues$Value"))) (av := [.ref o, va_rf a0, .int a1, va_rf a2]) (Qc := hQ G Zd r0 st0) "PagedValues$ValueParser" rfl (by decide) (c1_c rfl (c1_c (rf_cat _) (c1_c rfl (c1_c (rf_cat _) c1_n)))) (Nat.le_of_ble_eq_true rfl) ?_
  intro p e s m below meth c ls A args Q hQ hx hb hr hlk hml hown hts hin hl hE hw
  have hl : lw ls 7 [(0, .ref o), (1, va_rf a0), (2, .int a1), (3, va_rf a2)] := hl
  have hZ := hE.2.2.1
  have h := hm
  clear hm
  refine xq_aload_n (r := a0) hx hb d13_5_0 rfl (lv_at hl.1 1 rfl) ?_
  obtain ⟨a11z, hn11, h⟩ := ob h
  have hn11 : a0 = some a11z := hn11
  refine W.eq (g2 := F0 m 1 ls [.ref a11z]) (by rw [hn11]; rfl) ?_
  obtain ⟨u9, ho, h⟩ := ob h
  obtain ⟨st13, hc, h⟩ := ob h
  refine hV_v (ci := 1) (As := []) (rest := []) ⟨hx, hb, hml, hown, hts⟩ (cc_Text_skipBlanks l G Zd K a11z st st13 hc) (kw_V (n := 0) hts k322 k319 k2 k320 k321 (by decide +kernel) ⟨(show 1 + 1 ≤ Dv + 8 by omega), (show 8 + (1 + 11) + 64 * (1) ≤ 64 * (Dv + 8) by omega)⟩) hE hw rfl rfl ho rfl hl.1.1 rfl (c1_8 c1_n (Nat.le_of_ble_eq_true rfl)) d13_5_1 (fun H locs cells slots hw => ?_)
  clear hc ho u9
  refine W.eq (g2 := F0 m 4 ls []) rfl ?_
  refine xq_aload_n (r := a0) hx hb d13_5_4 rfl (lv_at hl.1 1 rfl) ?_
  refine W.eq (g2 := F0 m 5 ls [.ref a11z]) (by rw [hn11]; rfl) ?_
  obtain ⟨x15, hr, h⟩ := ob h
  refine xgN_i (ci := 1) (C := r_1) (T := f_1) (N := 5) (ref := "PagedValues$Text") hx hb hts (fun w h => List.mem_cons_of_mem _ (ly_1 w h)) hown hE hw rfl 3 (by decide) (va_Nw.use rfl (hZ.1.1 _ kn80)) (fun _ h9 => h9) hr d13_5_5 ?_
  clear hr
  refine xt_istore (x := x15) (lv' := [(4, .int x15), (0, .ref o), (1, va_rf a0), (2, .int a1), (3, va_rf a2)]) hx hb d13_5_8 hl (by decide) rfl (fun ls hl => ?_)
  refine xq_aload_n (r := a0) hx hb d13_5_10 rfl (lv_at hl.1 2 rfl) ?_
  refine lv_bipush (v := 34) hx hb d13_5_11 (by decide) ?_
  refine lv_iconst (v := 1) hx hb d13_5_13 (by decide) ?_
  refine W.eq (g2 := F0 m 14 ls [.int 1, .int 34, .ref a11z]) (by rw [hn11]; rfl) ?_
  obtain ⟨u9, ho, h⟩ := ob h
  obtain ⟨⟨x16, st17⟩, hc, h⟩ := ob h
  refine hV_q (ci := 1) (As := [.int 34, .int 1]) (rest := []) ⟨hx, hb, hml, hown, hts⟩ (cc_Text_quoted l G Zd K a11z (34 : Int32) (1 : Int32) st13 x16 st17 hc) (kw_V (n := 2) hts k394 k391 k2 k392 k393 (by decide +kernel) ⟨(show 7 + 1 ≤ Dv + 8 by omega), (show 8 + (4 + 11) + 64 * (7) ≤ 64 * (Dv + 8) by omega)⟩) hE hw rfl rfl ho rfl hl.1.1 rfl (c1_8 c1_n (Nat.le_of_ble_eq_true rfl)) d13_5_14 (fun H locs cells slots hw => ?_)
  clear hc ho u9
  refine W.eq (g2 := F0 m 17 ls [va_rf x16]) rfl ?_
  refine xt_astore (r := x16) (lv' := [(5, va_rf x16), (4, .int x15), (0, .ref o), (1, va_rf a0), (2, .int a1), (3, va_rf a2)]) hx hb d13_5_17 hl (by decide) rfl (fun ls hl => ?_)
  refine xq_aload_n (r := a0) hx hb d13_5_19 rfl (lv_at hl.1 3 rfl) ?_
  refine W.eq (g2 := F0 m 20 ls [.ref a11z]) (by rw [hn11]; rfl) ?_
  obtain ⟨u9, ho, h⟩ := ob h
  obtain ⟨x19, hc, h⟩ := ob h
  refine hV_i (ci := 1) (As := []) (rest := []) ⟨hx, hb, hml, hown, hts⟩ (cc_Text_isRight l G Zd K a11z st17 x19 hc) (kw_V (n := 0) hts k580 k577 k2 k578 k579 (by decide +kernel) ⟨(show 0 + 1 ≤ Dv + 8 by omega), (show 8 + (1 + 11) + 64 * (0) ≤ 64 * (Dv + 8) by omega)⟩) hE hw rfl rfl ho rfl hl.1.1 rfl (c1_8 c1_n (Nat.le_of_ble_eq_true rfl)) d13_5_20 (fun H locs cells slots hw => ?_)
  clear hc ho u9
  refine W.eq (g2 := F0 m 23 ls [.int x19]) rfl ?_
  refine lv_if_ne (tgt := 28) hx hb d13_5_23 rfl (fun c22 => ?_) (fun c22 => ?_)
  ·
    replace h := (if_neg c22).symm.trans h
    refine xq_aload_n (r := a2) hx hb d13_5_28 rfl (lv_at hl.1 5 rfl) ?_
    refine xq_aload (r := x16) hx hb d13_5_29 (lv_at hl.1 0 rfl) ?_
    obtain ⟨a23z, hn23, h⟩ := ob h
    have hn23 : a2 = some a23z := hn23
    refine W.eq (g2 := F0 m 31 ls [va_rf x16, .ref a23z]) (by rw [hn23]; rfl) ?_
    obtain ⟨u9, ho, h⟩ := ob h
    obtain ⟨x24, hc, h⟩ := ob h
    refine hV_q (ci := 11) (As := [va_rf x16]) (rest := []) ⟨hx, hb, hml, hown, hts⟩ (cc_Value_member l G Zd K a23z x16 st17 x24 hc) (kw_V (n := 1) hts k584 k581 k18 k582 k583 (by decide +kernel) ⟨(show 2 + 1 ≤ Dv + 8 by omega), (show 8 + (3 + 11) + 64 * (2) ≤ 64 * (Dv + 8) by omega)⟩) hE hw rfl rfl ho rfl hl.1.1 rfl (c1_8 c1_n (Nat.le_of_ble_eq_true rfl)) d13_5_31 (fun H locs cells slots hw => ?_)
    clear hc ho u9
    refine W.eq (g2 := F0 m 34 ls [va_rf x24]) rfl ?_
    rcases nl_case h with ⟨hn27, h⟩ | ⟨a27z, hn27, h⟩
    ·
      have hn27 : x24 = none := hn27
      refine W.eq (g2 := F0 m 34 ls [.null]) (by rw [hn27]; rfl) ?_
      refine lv_ifnullN (tgt := 45) hx hb d13_5_34 rfl ?_
      refine xq_aload_n (r := a0) hx hb d13_5_45 rfl (lv_at hl.1 3 rfl) ?_
      refine W.eq (g2 := F0 m 46 ls [.ref a11z]) (by rw [hn11]; rfl) ?_
      obtain ⟨u9, ho, h⟩ := ob h
      obtain ⟨st29, hc, h⟩ := ob h
      refine hV_v (ci := 1) (As := []) (rest := []) ⟨hx, hb, hml, hown, hts⟩ (cc_Text_skipBlanks l G Zd K a11z st17 st29 hc) (kw_V (n := 0) hts k322 k319 k2 k320 k321 (by decide +kernel) ⟨(show 1 + 1 ≤ Dv + 8 by omega), (show 8 + (1 + 11) + 64 * (1) ≤ 64 * (Dv + 8) by omega)⟩) hE hw rfl rfl ho rfl hl.1.1 rfl (c1_8 c1_n (Nat.le_of_ble_eq_true rfl)) d13_5_46 (fun H locs cells slots hw => ?_)
      clear hc ho u9
      refine W.eq (g2 := F0 m 49 ls []) rfl ?_
      refine xq_aload_n (r := a0) hx hb d13_5_49 rfl (lv_at hl.1 3 rfl) ?_
      refine lv_bipush (v := 58) hx hb d13_5_50 (by decide) ?_
      refine W.eq (g2 := F0 m 52 ls [.int 58, .ref a11z]) (by rw [hn11]; rfl) ?_
      obtain ⟨u9, ho, h⟩ := ob h
      obtain ⟨⟨x31, st32⟩, hc, h⟩ := ob h
      refine hV_i (ci := 1) (As := [.int 58]) (rest := []) ⟨hx, hb, hml, hown, hts⟩ (cc_Text_need l G Zd K a11z (58 : Int32) st29 x31 st32 hc) (kw_V (n := 1) hts k380 k377 k2 k378 k379 (by decide +kernel) ⟨(show 1 + 1 ≤ Dv + 8 by omega), (show 8 + (3 + 11) + 64 * (1) ≤ 64 * (Dv + 8) by omega)⟩) hE hw rfl rfl ho rfl hl.1.1 rfl (c1_8 c1_n (Nat.le_of_ble_eq_true rfl)) d13_5_52 (fun H locs cells slots hw => ?_)
      clear hc ho u9
      refine W.eq (g2 := F0 m 55 ls [.int x31]) rfl ?_
      refine lv_if_ne (tgt := 60) hx hb d13_5_55 rfl (fun c34 => ?_) (fun c34 => ?_)
      ·
        replace h := (if_neg c34).symm.trans h
        refine lv_aload_n hx hb d13_5_60 rfl (lv_at hl.1 2 rfl) ?_
        refine xq_aload_n (r := a0) hx hb d13_5_61 rfl (lv_at hl.1 3 rfl) ?_
        refine lv_iload_n hx hb d13_5_62 rfl (lv_at hl.1 4 rfl) ?_
        obtain ⟨u9, ho, h⟩ := ob h
        obtain ⟨⟨x35, st36⟩, hc, h⟩ := ob h
        refine hV_q (ci := 3) (As := [va_rf a0, .int a1]) (rest := []) ⟨hx, hb, hml, hown, hts⟩ (hv o a0 a1 st32 x35 st36 hc) (kw_V (n := 2) hts k318 k315 k7 k317 ks0 (by decide +kernel) ⟨(show Dv + 1 ≤ Dv + 8 by omega), (show 8 + (3 + 11) + 64 * (Dv) ≤ 64 * (Dv + 8) by omega)⟩) hE hw rfl rfl ho rfl hl.1.1 rfl (c1_8 c1_n (Nat.le_of_ble_eq_true rfl)) d13_5_63 (fun H locs cells slots hw => ?_)
        clear hc ho u9
        refine W.eq (g2 := F0 m 66 ls [va_rf x35]) rfl ?_
        refine xt_astore (r := x35) (lv' := [(6, va_rf x35), (5, va_rf x16), (4, .int x15), (0, .ref o), (1, va_rf a0), (2, .int a1), (3, va_rf a2)]) hx hb d13_5_66 hl (by decide) rfl (fun ls hl => ?_)
        refine xq_aload (r := x35) hx hb d13_5_68 (lv_at hl.1 0 rfl) ?_
        obtain ⟨e38, hX, h⟩ := ob h
        have hj : ∀ (H : Heap) (locs : List Loc) (cells slots : Nat) (ls : Array Slot), lw ls 7 [(0, .ref o), (1, va_rf a0), (2, .int a1), (3, va_rf a2), (4, .int x15), (5, va_rf x16), (6, va_rf x35)] → wsH G Zd A s e38 H locs → W p l e (rmH Zd (Dv + 8) st.1) s m args below meth c H locs cells slots Q (F0 m 80 ls []) := by
          intro H locs cells slots ls hl hw
          refine xq_aload (r := x35) hx hb d13_5_80 (lv_at hl.1 6 rfl) ?_
          cases h
          exact finH_q hQ hx hb hr hlk rfl (Or.inl ⟨_, rfl⟩) hE hw d13_5_82
        clear h
        rcases nl_case hX with ⟨hn40, h⟩ | ⟨a40z, hn40, h⟩
        ·
          have hn40 : x35 = none := hn40
          refine W.eq (g2 := F0 m 70 ls [.null]) (by rw [hn40]; rfl) ?_
          refine lv_ifnullN (tgt := 80) hx hb d13_5_70 rfl ?_
          have e9 := Option.some.inj h
          subst e38
          have hl := lw_sub hl (l' := [(0, .ref o), (1, va_rf a0), (2, .int a1), (3, va_rf a2), (4, .int x15), (5, va_rf x16), (6, va_rf x35)]) [3, 4, 5, 6, 2, 1, 0] rfl
          exact hj _ _ _ _ _ hl hw
        ·
          have hn40 : x35 = some a40z := hn40
          refine W.eq (g2 := F0 m 70 ls [.ref a40z]) (by rw [hn40]; rfl) ?_
          refine lv_ifnull hx hb d13_5_70 ?_
          refine xq_aload (r := x35) hx hb d13_5_73 (lv_at hl.1 0 rfl) ?_
          refine xq_aload (r := x16) hx hb d13_5_75 (lv_at hl.1 1 rfl) ?_
          refine W.eq (g2 := F0 m 77 ls [va_rf x16, .ref a40z]) (by rw [hn40]; rfl) ?_
          obtain ⟨st41, hr, h⟩ := ob h
          refine xpN (ci := 11) (ty := (ft_11 3)) (C := r_11) (T := f_11) (N := 6) (ref := "PagedValues$Value") hx hb hts (fun w h => List.mem_cons_of_mem _ (ly_11 w h)) ft_11 ft_11_ok nm_11 hown hE hw rfl 3 (by decide) (va_Nw.use rfl (hZ.1.1 _ kn356)) (fun _ h9 => h9) rfl hr (by decide +kernel) (rf_narO _) (rf_fitO _) d13_5_77 (fun H locs hw => ?_)
          clear hr
          have e9 := Option.some.inj h
          subst e38
          have hl := lw_sub hl (l' := [(0, .ref o), (1, va_rf a0), (2, .int a1), (3, va_rf a2), (4, .int x15), (5, va_rf x16), (6, va_rf x35)]) [3, 4, 5, 6, 2, 1, 0] rfl
          exact hj _ _ _ _ _ hl hw
      ·
        replace h := (if_pos c34).symm.trans h
        refine lv_null hx hb d13_5_58 ?_
        cases h
        exact finH_q hQ hx hb hr hlk rfl (Or.inl ⟨_, rfl⟩) hE hw d13_5_59
    ·
      have hn27 : x24 = some a27z := hn27
      refine W.eq (g2 := F0 m 34 ls [.ref a27z]) (by rw [hn27]; rfl) ?_
      refine lv_ifnull hx hb d13_5_34 ?_
      refine xq_aload_n (r := a0) hx hb d13_5_37 rfl (lv_at hl.1 3 rfl) ?_
      refine lv_iload hx hb d13_5_38 (lv_at hl.1 1 rfl) ?_
      refine W.eq (g2 := F0 m 40 ls [.int x15, .ref a11z]) (by rw [hn11]; rfl) ?_
      obtain ⟨u9, ho, h⟩ := ob h
      obtain ⟨st43, hc, h⟩ := ob h
      refine hV_v (ci := 1) (As := [.int x15]) (rest := []) ⟨hx, hb, hml, hown, hts⟩ (cc_Text_failAt l G Zd K a11z x15 st17 st43 hc) (kw_V (n := 1) hts k598 k595 k2 k596 k597 (by decide +kernel) ⟨(show 0 + 1 ≤ Dv + 8 by omega), (show 8 + (2 + 11) + 64 * (0) ≤ 64 * (Dv + 8) by omega)⟩) hE hw rfl rfl ho rfl hl.1.1 rfl (c1_8 c1_n (Nat.le_of_ble_eq_true rfl)) d13_5_40 (fun H locs cells slots hw => ?_)
      clear hc ho u9
      refine W.eq (g2 := F0 m 43 ls []) rfl ?_
      refine lv_null hx hb d13_5_43 ?_
      cases h
      exact finH_q hQ hx hb hr hlk rfl (Or.inl ⟨_, rfl⟩) hE hw d13_5_44
  ·
    replace h := (if_pos c22).symm.trans h
    refine lv_null hx hb d13_5_26 ?_
    cases h
    exact finH_q hQ hx hb hr hlk rfl (Or.inl ⟨_, rfl⟩) hE hw d13_5_27
def c_ValueParser_container_l1 (Zd : Nat → Nat) (K : KE) (fv : Nat → Option Nat → Int32 → CS → Option (Option Nat × CS)) (o : Nat) (a0 : Option Nat) (a1 : Int32) (a2 : Option Nat) (e12 : Int32) (a14z : Nat) (a21z : Nat) : Nat → (Int32 × CS) → Option ((Option Nat × CS) ⊕ (Int32 × CS))
  | 0, _ => none
  | n9 + 1, e9 => if (24 : Int32) ≤ e9.1 then (some (.inr (e9.1, e9.2))) else ((if a2 = some (Zd 13) then ((some (a1 + (1 : Int32))).bind fun y65 => (isO K e9.2 o 3).bind fun _ => (fv o a0 y65 e9.2).bind fun r68 => some (r68.1, r68.2)) else ((some (a1 + (1 : Int32))).bind fun y61 => (isO K e9.2 o 3).bind fun _ => (c_ValueParser_member Zd K fv o a0 y61 (some a14z) e9.2).bind fun r64 => some (r64.1, r64.2))).bind fun e41 => nl e41.1 (some (.inl (none, e41.2))) (fun a44z => (isO K e41.2 a14z 11).bind fun _ => (c_Value_append Zd K a14z e41.1 e41.2).bind fun st46 => (isO K st46 a21z 1).bind fun _ => (c_Text_skipBlanks Zd K a21z st46).bind fun st49 => (isO K st49 a21z 1).bind fun _ => (c_Text_take Zd K a21z e12 st49).bind fun r53 => if r53.1 = (0 : Int32) then ((isO K r53.2 a21z 1).bind fun _ => (c_Text_need Zd K a21z (44 : Int32) r53.2).bind fun r57 => if r57.1 = (0 : Int32) then (some (.inl (none, r57.2))) else ((some (e9.1 + 1)).bind fun y59 => c_ValueParser_container_l1 Zd K fv o a0 a1 a2 e12 a14z a21z n9 (y59, r57.2))) else (some (.inl (some a14z, r53.2)))))
theorem c_ValueParser_container_l1_s (Zd : Nat → Nat) (K : KE) (fv : Nat → Option Nat → Int32 → CS → Option (Option Nat × CS)) (o : Nat) (a0 : Option Nat) (a1 : Int32) (a2 : Option Nat) (e12 : Int32) (a14z : Nat) (a21z : Nat) (n9 : Nat) (e9 : Int32 × CS) : c_ValueParser_container_l1 Zd K fv o a0 a1 a2 e12 a14z a21z (n9 + 1) e9 = (if (24 : Int32) ≤ e9.1 then (some (.inr (e9.1, e9.2))) else ((if a2 = some (Zd 13) then ((some (a1 + (1 : Int32))).bind fun y65 => (isO K e9.2 o 3).bind fun _ => (fv o a0 y65 e9.2).bind fun r68 => some (r68.1, r68.2)) else ((some (a1 + (1 : Int32))).bind fun y61 => (isO K e9.2 o 3).bind fun _ => (c_ValueParser_member Zd K fv o a0 y61 (some a14z) e9.2).bind fun r64 => some (r64.1, r64.2))).bind fun e41 => nl e41.1 (some (.inl (none, e41.2))) (fun a44z => (isO K e41.2 a14z 11).bind fun _ => (c_Value_append Zd K a14z e41.1 e41.2).bind fun st46 => (isO K st46 a21z 1).bind fun _ => (c_Text_skipBlanks Zd K a21z st46).bind fun st49 => (isO K st49 a21z 1).bind fun _ => (c_Text_take Zd K a21z e12 st49).bind fun r53 => if r53.1 = (0 : Int32) then ((isO K r53.2 a21z 1).bind fun _ => (c_Text_need Zd K a21z (44 : Int32) r53.2).bind fun r57 => if r57.1 = (0 : Int32) then (some (.inl (none, r57.2))) else ((some (e9.1 + 1)).bind fun y59 => c_ValueParser_container_l1 Zd K fv o a0 a1 a2 e12 a14z a21z n9 (y59, r57.2))) else (some (.inl (some a14z, r53.2)))))) := rfl
def c_ValueParser_container (Zd : Nat → Nat) (K : KE) (fv : Nat → Option Nat → Int32 → CS → Option (Option Nat × CS)) (o : Nat) (a0 : Option Nat) (a1 : Int32) (a2 : Option Nat) (st : CS) : Option (Option Nat × CS) := if a1 < (4 : Int32) then ((if a2 = some (Zd 13) then (some (93 : Int32)) else (some (125 : Int32))).bind fun e12 => (some st.1.1).bind fun a14z => (nOc Zd st 11 6 [.null, .int 0, .null, .null, .null, .null]).bind fun st15 => (c_Value_init Zd K a14z a2 (0 : Int32) (some (Zd 0)) st15).bind fun st17 => (if a2 = some (Zd 13) then (some (91 : Int32)) else (some (123 : Int32))).bind fun e19 => a0.bind fun a21z => (isO K st17 a21z 1).bind fun _ => (c_Text_need Zd K a21z e19 st17).bind fun r24 => (isO K r24.2 a21z 1).bind fun _ => (c_Text_skipBlanks Zd K a21z r24.2).bind fun st26 => (isO K st26 a21z 1).bind fun _ => (c_Text_take Zd K a21z e12 st26).bind fun r30 => if r30.1 = (0 : Int32) then ((c_ValueParser_container_l1 Zd K fv o a0 a1 a2 e12 a14z a21z 4096 ((0 : Int32), r30.2)).bind fun e32 => match e32 with | .inl o9 => some o9 | .inr e8 => (isO K e8.2 a21z 1).bind fun _ => (c_Text_fail Zd K a21z e8.2).bind fun st38 => some (none, st38)) else (some (some a14z, r30.2))) else (a0.bind fun a71z => (isO K st a71z 1).bind fun _ => (c_Text_fail Zd K a71z st).bind fun st73 => some (none, st73))
set_option maxHeartbeats 4000000 in
set_option maxRecDepth 100000 in
theorem cc_ValueParser_container (l : Launch) (G : Gk) (Zd : Nat → Nat) (K : KE) (fv : Nat → Option Nat → Int32 → CS → Option (Option Nat × CS)) (Dv : Nat) (hv : ∀ (o : Nat) (b0 : Option Nat) (b1 : Int32) (st : CS) (r0 : Option Nat) (st0 : CS), fv o b0 b1 st = some (r0, st0) → CT l y13_3 prog_13_method_3_code 3 (some (.object "PagedValues$Value")) G Zd K Dv [.ref o, va_rf b0, .int b1] st (hQ G Zd r0 st0)) (o : Nat) (a0 : Option Nat) (a1 : Int32) (a2 : Option Nat) (st : CS) (r0 : Option Nat) (st0 : CS) (hm : c_ValueParser_container Zd K fv o a0 a1 a2 st = some (r0, st0)) : CT l y13_4 prog_13_method_4_code 8 (some (.object "PagedValues$Value")) G Zd K (Dv + 9) [.ref o, va_rf a0, .int a1, va_rf a2] st (hQ G Zd r0 st0) := by
  refine goH (d := Dv + 9) (y := y13_4) (cc := prog_13_method_4_code) (maxL := 8) (ret := (some (.object "PagedValues$Value"))) (av := [.ref o, va_rf a0, .int a1, va_rf a2]) (Qc := hQ G Zd r0 st0) "PagedValues$ValueParser" rfl (by decide) (c1_c rfl (c1_c (rf_cat _) (c1_c rfl (c1_c (rf_cat _) c1_n)))) (Nat.le_of_ble_eq_true rfl) ?_
  intro p e s m below meth c ls A args Q hQ hx hb hr hlk hml hown hts hin hl hE hw
  have hl : lw ls 8 [(0, .ref o), (1, va_rf a0), (2, .int a1), (3, va_rf a2)] := hl
  have hZ := hE.2.2.1
  have h := hm
  clear hm
  refine lv_iload_n hx hb d13_4_0 rfl (lv_at hl.1 2 rfl) ?_
  refine lv_iconst (v := 4) hx hb d13_4_1 (by decide) ?_
  refine lv_icmp_lt (tgt := 11) hx hb d13_4_2 rfl (fun c11 => ?_) (fun c11 => ?_)
  ·
    replace h := (if_pos c11).symm.trans h
    refine xq_aload_n (r := a2) hx hb d13_4_11 rfl (lv_at hl.1 3 rfl) ?_
    refine va_gets (ref := "PagedValues$Kind") hx hb (hZ.2.1.1.1 5 (by decide)).1 hw.2.2.2 hown (hts _ (List.mem_cons_of_mem _ k335)) (fun _ h9 => h9) d13_4_12 ?_
    refine W.eq (g2 := F0 m 15 ls [.ref (Zd 13), va_rf a2]) rfl ?_
    obtain ⟨e12, hX, h⟩ := ob h
    have hj : ∀ (H : Heap) (locs : List Loc) (cells slots : Nat) (ls : Array Slot), lw ls 8 [(0, .ref o), (1, va_rf a0), (2, .int a1), (3, va_rf a2)] → wsH G Zd A s st H locs → W p l e (rmH Zd (Dv + 9) st.1) s m args below meth c H locs cells slots Q (F0 m 25 ls [.int e12]) := by
      intro H locs cells slots ls hl hw
      refine xt_istore (x := e12) (lv' := [(4, .int e12), (0, .ref o), (1, va_rf a0), (2, .int a1), (3, va_rf a2)]) hx hb d13_4_25 hl (by decide) rfl (fun ls hl => ?_)
      obtain ⟨a14z, hr, h⟩ := ob h
      obtain ⟨st15, hr2, h⟩ := ob h
      refine xn (ci := 11) (fs := [.null, .int 0, .null, .null, .null, .null]) (C := r_11) (T := f_11) (N := 6) hx hb hts (fun w h => List.mem_cons_of_mem _ (ly_11 w h)) ft_11 ft_11_ok hown (hts _ (List.mem_cons_of_mem _ k341)) (hts _ (List.mem_cons_of_mem _ k342)) (hts _ (List.mem_cons_of_mem _ k18)) hE hw rfl (fun j hj => by rcases (show j = 0 ∨ j = 1 ∨ j = 2 ∨ j = 3 ∨ j = 4 ∨ j = 5 by omega) with rfl | rfl | rfl | rfl | rfl | rfl <;> rfl) hr hr2 d13_4_27 (fun H cells slots hw => ?_)
      clear hr hr2
      refine lv_dup hx hb d13_4_30 rfl ?_
      refine xq_aload_n (r := a2) hx hb d13_4_31 rfl (lv_at hl.1 4 rfl) ?_
      refine lv_iconst (v := 0) hx hb d13_4_32 (by decide) ?_
      refine va_ldcS hx hb hown (hZ.2.2.1 ("PagedValues$ValueParser", 82, "", 0) (List.mem_of_getElem? (i := 1) rfl)) d13_4_33 ?_
      refine W.eq (g2 := F0 m 35 ls [.ref (Zd 0), .int 0, va_rf a2, .ref a14z, .ref a14z]) rfl ?_
      obtain ⟨st17, hc, h⟩ := ob h
      refine hI_v (As := [va_rf a2, .int 0, .ref (Zd 0)]) (rest := [.ref a14z]) ⟨hx, hb, hml, hown, hts⟩ (cc_Value_init l G Zd K a14z a2 (0 : Int32) (some (Zd 0)) st15 st17 hc) (kw_I (n := 3) hts k346 k344 k18 k345 rfl (by decide +kernel) ⟨(show 1 + 1 ≤ Dv + 9 by omega), (show 8 + (4 + 11) + 64 * (1) ≤ 64 * (Dv + 9) by omega)⟩) hE hw rfl hl.1.1 rfl (c1_8 (c1_c rfl c1_n) (Nat.le_of_ble_eq_true rfl)) d13_4_35 (fun H locs cells slots hw => ?_)
      clear hc
      refine W.eq (g2 := F0 m 38 ls [.ref a14z]) rfl ?_
      refine xt_astore (r := some a14z) (lv' := [(5, .ref a14z), (4, .int e12), (0, .ref o), (1, va_rf a0), (2, .int a1), (3, va_rf a2)]) hx hb d13_4_38 hl (by decide) rfl (fun ls hl => ?_)
      refine xq_aload_n (r := a0) hx hb d13_4_40 rfl (lv_at hl.1 3 rfl) ?_
      refine xq_aload_n (r := a2) hx hb d13_4_41 rfl (lv_at hl.1 5 rfl) ?_
      refine va_gets (ref := "PagedValues$Kind") hx hb (hZ.2.1.1.1 5 (by decide)).1 hw.2.2.2 hown (hts _ (List.mem_cons_of_mem _ k335)) (fun _ h9 => h9) d13_4_42 ?_
      refine W.eq (g2 := F0 m 45 ls [.ref (Zd 13), va_rf a2, va_rf a0]) rfl ?_
      obtain ⟨e19, hX, h⟩ := ob h
      have hj : ∀ (H : Heap) (locs : List Loc) (cells slots : Nat) (ls : Array Slot), lw ls 8 [(0, .ref o), (1, va_rf a0), (2, .int a1), (3, va_rf a2), (4, .int e12), (5, .ref a14z)] → wsH G Zd A s st17 H locs → W p l e (rmH Zd (Dv + 9) st.1) s m args below meth c H locs cells slots Q (F0 m 55 ls [.int e19, va_rf a0]) := by
        intro H locs cells slots ls hl hw
        obtain ⟨a21z, hn21, h⟩ := ob h
        have hn21 : a0 = some a21z := hn21
        refine W.eq (g2 := F0 m 55 ls [.int e19, .ref a21z]) (by rw [hn21]; rfl) ?_
        obtain ⟨u9, ho, h⟩ := ob h
        obtain ⟨⟨x22, st23⟩, hc, h⟩ := ob h
        refine hV_i (ci := 1) (As := [.int e19]) (rest := []) ⟨hx, hb, hml, hown, hts⟩ (cc_Text_need l G Zd K a21z e19 st17 x22 st23 hc) (kw_V (n := 1) hts k380 k377 k2 k378 k379 (by decide +kernel) ⟨(show 1 + 1 ≤ Dv + 9 by omega), (show 8 + (3 + 11) + 64 * (1) ≤ 64 * (Dv + 9) by omega)⟩) hE hw rfl rfl ho rfl hl.1.1 rfl (c1_8 c1_n (Nat.le_of_ble_eq_true rfl)) d13_4_55 (fun H locs cells slots hw => ?_)
        clear hc ho u9
        refine W.eq (g2 := F0 m 58 ls [.int x22]) rfl ?_
        refine lv_pop hx hb d13_4_58 rfl ?_
        refine xq_aload_n (r := a0) hx hb d13_4_59 rfl (lv_at hl.1 1 rfl) ?_
        refine W.eq (g2 := F0 m 60 ls [.ref a21z]) (by rw [hn21]; rfl) ?_
        obtain ⟨u9, ho, h⟩ := ob h
        obtain ⟨st26, hc, h⟩ := ob h
        refine hV_v (ci := 1) (As := []) (rest := []) ⟨hx, hb, hml, hown, hts⟩ (cc_Text_skipBlanks l G Zd K a21z st23 st26 hc) (kw_V (n := 0) hts k322 k319 k2 k320 k321 (by decide +kernel) ⟨(show 1 + 1 ≤ Dv + 9 by omega), (show 8 + (1 + 11) + 64 * (1) ≤ 64 * (Dv + 9) by omega)⟩) hE hw rfl rfl ho rfl hl.1.1 rfl (c1_8 c1_n (Nat.le_of_ble_eq_true rfl)) d13_4_60 (fun H locs cells slots hw => ?_)
        clear hc ho u9
        refine W.eq (g2 := F0 m 63 ls []) rfl ?_
        refine xq_aload_n (r := a0) hx hb d13_4_63 rfl (lv_at hl.1 1 rfl) ?_
        refine lv_iload hx hb d13_4_64 (lv_at hl.1 4 rfl) ?_
        refine W.eq (g2 := F0 m 66 ls [.int e12, .ref a21z]) (by rw [hn21]; rfl) ?_
        obtain ⟨u9, ho, h⟩ := ob h
        obtain ⟨⟨x28, st29⟩, hc, h⟩ := ob h
        refine hV_i (ci := 1) (As := [.int e12]) (rest := []) ⟨hx, hb, hml, hown, hts⟩ (cc_Text_take l G Zd K a21z e12 st26 x28 st29 hc) (kw_V (n := 1) hts k384 k386 k2 k382 k383 (by decide +kernel) ⟨(show 0 + 1 ≤ Dv + 9 by omega), (show 8 + (2 + 11) + 64 * (0) ≤ 64 * (Dv + 9) by omega)⟩) hE hw rfl rfl ho rfl hl.1.1 rfl (c1_8 c1_n (Nat.le_of_ble_eq_true rfl)) d13_4_66 (fun H locs cells slots hw => ?_)
        clear hc ho u9
        refine W.eq (g2 := F0 m 69 ls [.int x28]) rfl ?_
        refine lv_if_eq (tgt := 75) hx hb d13_4_69 rfl (fun c31 => ?_) (fun c31 => ?_)
        ·
          replace h := (if_pos c31).symm.trans h
          refine lv_iconst (v := 0) hx hb d13_4_75 (by decide) ?_
          refine xt_istore (x := 0) (lv' := [(6, .int 0), (0, .ref o), (1, va_rf a0), (2, .int a1), (3, va_rf a2), (4, .int e12), (5, .ref a14z)]) hx hb d13_4_76 hl (by decide) rfl (fun ls hl => ?_)
          obtain ⟨e32, hX, hrest⟩ := ob h
          clear h
          have hj : ∀ (v35 : Int32) (v36 : CS), e32 = .inr (v35, v36) → ∀ (H : Heap) (locs : List Loc) (cells slots : Nat) (ls : Array Slot), lw ls 8 [(0, .ref o), (1, va_rf a0), (2, .int a1), (3, va_rf a2), (4, .int e12), (5, .ref a14z), (6, .int v35)] → wsH G Zd A s v36 H locs → W p l e (rmH Zd (Dv + 9) st.1) s m args below meth c H locs cells slots Q (F0 m 162 ls []) := by
            intro v35 v36 he H locs cells slots ls hl hw
            subst e32
            have h := hrest
            clear hrest
            refine xq_aload_n (r := a0) hx hb d13_4_162 rfl (lv_at hl.1 1 rfl) ?_
            refine W.eq (g2 := F0 m 163 ls [.ref a21z]) (by rw [hn21]; rfl) ?_
            obtain ⟨u9, ho, h⟩ := ob h
            obtain ⟨st38, hc, h⟩ := ob h
            refine hV_v (ci := 1) (As := []) (rest := []) ⟨hx, hb, hml, hown, hts⟩ (cc_Text_fail l G Zd K a21z v36 st38 hc) (kw_V (n := 0) hts k333 k330 k2 k331 k332 (by decide +kernel) ⟨(show 0 + 1 ≤ Dv + 9 by omega), (show 8 + (1 + 11) + 64 * (0) ≤ 64 * (Dv + 9) by omega)⟩) hE hw rfl rfl ho rfl hl.1.1 rfl (c1_8 c1_n (Nat.le_of_ble_eq_true rfl)) d13_4_163 (fun H locs cells slots hw => ?_)
            clear hc ho u9
            refine W.eq (g2 := F0 m 166 ls []) rfl ?_
            refine lv_null hx hb d13_4_166 ?_
            cases h
            exact finH_q hQ hx hb hr hlk rfl (Or.inl ⟨_, rfl⟩) hE hw d13_4_167
          have hloop : ∀ (n9 : Nat) (v33 : Int32) (v34 : CS), c_ValueParser_container_l1 Zd K fv o a0 a1 a2 e12 a14z a21z n9 (v33, v34) = some e32 → ∀ (H : Heap) (locs : List Loc) (cells slots : Nat) (ls : Array Slot), lw ls 8 [(0, .ref o), (1, va_rf a0), (2, .int a1), (3, va_rf a2), (4, .int e12), (5, .ref a14z), (6, .int v33)] → wsH G Zd A s v34 H locs → W p l e (rmH Zd (Dv + 9) st.1) s m args below meth c H locs cells slots Q (F0 m 78 ls []) := by
            intro n9
            induction n9 with
            | zero =>
              intro v33 v34 h
              cases h
            | succ n9 ih =>
              intro v33 v34 h H locs cells slots ls hl hw
              replace h := (c_ValueParser_container_l1_s Zd K fv o a0 a1 a2 e12 a14z a21z n9 (v33, v34)).symm.trans h
              refine lv_iload hx hb d13_4_78 (lv_at hl.1 6 rfl) ?_
              refine lv_bipush (v := 24) hx hb d13_4_80 (by decide) ?_
              refine lv_icmp_ge (tgt := 162) hx hb d13_4_82 rfl (fun c40 => ?_) (fun c40 => ?_)
              ·
                replace h := (if_pos c40).symm.trans h
                have e9 := Option.some.inj h
                subst e32
                have hl := lw_sub hl (l' := [(0, .ref o), (1, va_rf a0), (2, .int a1), (3, va_rf a2), (4, .int e12), (5, .ref a14z), (6, .int v33)]) [0, 1, 2, 3, 4, 5, 6] rfl
                exact hj _ _ rfl _ _ _ _ _ hl hw
              ·
                replace h := (if_neg c40).symm.trans h
                refine xq_aload_n (r := a2) hx hb d13_4_85 rfl (lv_at hl.1 3 rfl) ?_
                refine va_gets (ref := "PagedValues$Kind") hx hb (hZ.2.1.1.1 5 (by decide)).1 hw.2.2.2 hown (hts _ (List.mem_cons_of_mem _ k335)) (fun _ h9 => h9) d13_4_86 ?_
                refine W.eq (g2 := F0 m 89 ls [.ref (Zd 13), va_rf a2]) rfl ?_
                obtain ⟨e41, hX, h⟩ := ob h
                obtain ⟨v42, v43⟩ := e41
                have hj : ∀ (H : Heap) (locs : List Loc) (cells slots : Nat) (ls : Array Slot), lw ls 8 [(0, .ref o), (1, va_rf a0), (2, .int a1), (3, va_rf a2), (4, .int e12), (5, .ref a14z), (6, .int v33)] → wsH G Zd A s v43 H locs → W p l e (rmH Zd (Dv + 9) st.1) s m args below meth c H locs cells slots Q (F0 m 113 ls [va_rf v42]) := by
                  intro H locs cells slots ls hl hw
                  refine xt_astore (r := v42) (lv' := [(7, va_rf v42), (0, .ref o), (1, va_rf a0), (2, .int a1), (3, va_rf a2), (4, .int e12), (5, .ref a14z), (6, .int v33)]) hx hb d13_4_113 hl (by decide) rfl (fun ls hl => ?_)
                  refine xq_aload (r := v42) hx hb d13_4_115 (lv_at hl.1 0 rfl) ?_
                  rcases nl_case h with ⟨hn44, h⟩ | ⟨a44z, hn44, h⟩
                  ·
                    have hn44 : v42 = none := hn44
                    refine W.eq (g2 := F0 m 117 ls [.null]) (by rw [hn44]; rfl) ?_
                    refine lv_ifnonnullN hx hb d13_4_117 ?_
                    refine lv_null hx hb d13_4_120 ?_
                    cases h
                    cases hrest
                    exact finH_q hQ hx hb hr hlk rfl (Or.inl ⟨_, rfl⟩) hE hw d13_4_121
                  ·
                    have hn44 : v42 = some a44z := hn44
                    refine W.eq (g2 := F0 m 117 ls [.ref a44z]) (by rw [hn44]; rfl) ?_
                    refine lv_ifnonnull (tgt := 122) hx hb d13_4_117 rfl ?_
                    refine lv_aload hx hb d13_4_122 (lv_at hl.1 6 rfl) ?_
                    refine xq_aload (r := v42) hx hb d13_4_124 (lv_at hl.1 0 rfl) ?_
                    obtain ⟨u9, ho, h⟩ := ob h
                    obtain ⟨st46, hc, h⟩ := ob h
                    refine hV_v (ci := 11) (As := [va_rf v42]) (rest := []) ⟨hx, hb, hml, hown, hts⟩ (cc_Value_append l G Zd K a14z v42 v43 st46 hc) (kw_V (n := 1) hts k602 k599 k18 k600 k601 (by decide +kernel) ⟨(show 1 + 1 ≤ Dv + 9 by omega), (show 8 + (2 + 11) + 64 * (1) ≤ 64 * (Dv + 9) by omega)⟩) hE hw rfl rfl ho rfl hl.1.1 rfl (c1_8 c1_n (Nat.le_of_ble_eq_true rfl)) d13_4_126 (fun H locs cells slots hw => ?_)
                    clear hc ho u9
                    refine W.eq (g2 := F0 m 129 ls []) rfl ?_
                    refine xq_aload_n (r := a0) hx hb d13_4_129 rfl (lv_at hl.1 2 rfl) ?_
                    refine W.eq (g2 := F0 m 130 ls [.ref a21z]) (by rw [hn21]; rfl) ?_
                    obtain ⟨u9, ho, h⟩ := ob h
                    obtain ⟨st49, hc, h⟩ := ob h
                    refine hV_v (ci := 1) (As := []) (rest := []) ⟨hx, hb, hml, hown, hts⟩ (cc_Text_skipBlanks l G Zd K a21z st46 st49 hc) (kw_V (n := 0) hts k322 k319 k2 k320 k321 (by decide +kernel) ⟨(show 1 + 1 ≤ Dv + 9 by omega), (show 8 + (1 + 11) + 64 * (1) ≤ 64 * (Dv + 9) by omega)⟩) hE hw rfl rfl ho rfl hl.1.1 rfl (c1_8 c1_n (Nat.le_of_ble_eq_true rfl)) d13_4_130 (fun H locs cells slots hw => ?_)
                    clear hc ho u9
                    refine W.eq (g2 := F0 m 133 ls []) rfl ?_
                    refine xq_aload_n (r := a0) hx hb d13_4_133 rfl (lv_at hl.1 2 rfl) ?_
                    refine lv_iload hx hb d13_4_134 (lv_at hl.1 5 rfl) ?_
                    refine W.eq (g2 := F0 m 136 ls [.int e12, .ref a21z]) (by rw [hn21]; rfl) ?_
                    obtain ⟨u9, ho, h⟩ := ob h
                    obtain ⟨⟨x51, st52⟩, hc, h⟩ := ob h
                    refine hV_i (ci := 1) (As := [.int e12]) (rest := []) ⟨hx, hb, hml, hown, hts⟩ (cc_Text_take l G Zd K a21z e12 st49 x51 st52 hc) (kw_V (n := 1) hts k384 k386 k2 k382 k383 (by decide +kernel) ⟨(show 0 + 1 ≤ Dv + 9 by omega), (show 8 + (2 + 11) + 64 * (0) ≤ 64 * (Dv + 9) by omega)⟩) hE hw rfl rfl ho rfl hl.1.1 rfl (c1_8 c1_n (Nat.le_of_ble_eq_true rfl)) d13_4_136 (fun H locs cells slots hw => ?_)
                    clear hc ho u9
                    refine W.eq (g2 := F0 m 139 ls [.int x51]) rfl ?_
                    refine lv_if_eq (tgt := 145) hx hb d13_4_139 rfl (fun c54 => ?_) (fun c54 => ?_)
                    ·
                      replace h := (if_pos c54).symm.trans h
                      refine xq_aload_n (r := a0) hx hb d13_4_145 rfl (lv_at hl.1 2 rfl) ?_
                      refine lv_bipush (v := 44) hx hb d13_4_146 (by decide) ?_
                      refine W.eq (g2 := F0 m 148 ls [.int 44, .ref a21z]) (by rw [hn21]; rfl) ?_
                      obtain ⟨u9, ho, h⟩ := ob h
                      obtain ⟨⟨x55, st56⟩, hc, h⟩ := ob h
                      refine hV_i (ci := 1) (As := [.int 44]) (rest := []) ⟨hx, hb, hml, hown, hts⟩ (cc_Text_need l G Zd K a21z (44 : Int32) st52 x55 st56 hc) (kw_V (n := 1) hts k380 k377 k2 k378 k379 (by decide +kernel) ⟨(show 1 + 1 ≤ Dv + 9 by omega), (show 8 + (3 + 11) + 64 * (1) ≤ 64 * (Dv + 9) by omega)⟩) hE hw rfl rfl ho rfl hl.1.1 rfl (c1_8 c1_n (Nat.le_of_ble_eq_true rfl)) d13_4_148 (fun H locs cells slots hw => ?_)
                      clear hc ho u9
                      refine W.eq (g2 := F0 m 151 ls [.int x55]) rfl ?_
                      refine lv_if_ne (tgt := 156) hx hb d13_4_151 rfl (fun c58 => ?_) (fun c58 => ?_)
                      ·
                        replace h := (if_neg c58).symm.trans h
                        obtain ⟨y59, hr, h⟩ := ob h
                        refine xt_iinc (k := 7) (v := y59) (lv' := [(6, .int y59), (7, va_rf v42), (0, .ref o), (1, va_rf a0), (2, .int a1), (3, va_rf a2), (4, .int e12), (5, .ref a14z)]) hx hb d13_4_156 hl rfl hr (by decide) rfl (fun ls hl => ?_)
                        clear hr
                        refine lv_goto (tgt := 78) hx hb d13_4_159 rfl ?_
                        have hl := lw_sub hl (l' := [(0, .ref o), (1, va_rf a0), (2, .int a1), (3, va_rf a2), (4, .int e12), (5, .ref a14z), (6, .int y59)]) [2, 3, 4, 5, 6, 7, 0] rfl
                        exact ih _ _ h _ _ _ _ _ hl hw
                      ·
                        replace h := (if_pos c58).symm.trans h
                        refine lv_null hx hb d13_4_154 ?_
                        cases h
                        cases hrest
                        exact finH_q hQ hx hb hr hlk rfl (Or.inl ⟨_, rfl⟩) hE hw d13_4_155
                    ·
                      replace h := (if_neg c54).symm.trans h
                      refine lv_aload hx hb d13_4_142 (lv_at hl.1 6 rfl) ?_
                      cases h
                      cases hrest
                      exact finH_q hQ hx hb hr hlk rfl (Or.inl ⟨_, rfl⟩) hE hw d13_4_144
                clear h
                refine lv_acmp_ne (rx := a2) (ry := some (Zd 13)) (tgt := 103) hx hb d13_4_89 rfl (fun c60 => ?_) (fun c60 => ?_)
                ·
                  replace h := (if_neg c60).symm.trans hX
                  refine lv_aload_n hx hb d13_4_103 rfl (lv_at hl.1 0 rfl) ?_
                  refine xq_aload_n (r := a0) hx hb d13_4_104 rfl (lv_at hl.1 1 rfl) ?_
                  refine lv_iload_n hx hb d13_4_105 rfl (lv_at hl.1 2 rfl) ?_
                  refine lv_iconst (v := 1) hx hb d13_4_106 (by decide) ?_
                  refine lv_iadd hx hb d13_4_107 ?_
                  obtain ⟨y61, hr, h⟩ := ob h
                  refine lv_topi (fun y9 ey => ?_)
                  have e9 := ey.trans (Option.some.inj hr)
                  clear ey
                  subst y9
                  clear hr
                  refine lv_aload hx hb d13_4_108 (lv_at hl.1 5 rfl) ?_
                  obtain ⟨u9, ho, h⟩ := ob h
                  obtain ⟨⟨x62, st63⟩, hc, h⟩ := ob h
                  refine hV_q (ci := 3) (As := [va_rf a0, .int y61, .ref a14z]) (rest := []) ⟨hx, hb, hml, hown, hts⟩ (cc_ValueParser_member l G Zd K fv Dv hv o a0 y61 (some a14z) v34 x62 st63 hc) (kw_V (n := 3) hts k390 k387 k7 k389 ks2 (by decide +kernel) ⟨(show Dv + 8 + 1 ≤ Dv + 9 by omega), (show 8 + (7 + 11) + 64 * (Dv + 8) ≤ 64 * (Dv + 9) by omega)⟩) hE hw rfl rfl ho rfl hl.1.1 rfl (c1_8 c1_n (Nat.le_of_ble_eq_true rfl)) d13_4_110 (fun H locs cells slots hw => ?_)
                  clear hc ho u9
                  refine W.eq (g2 := F0 m 113 ls [va_rf x62]) rfl ?_
                  have e9_0 := Option.some.inj h
                  obtain ⟨q9, e9_1⟩ := Prod.mk.inj e9_0
                  clear e9_0
                  subst v42
                  subst v43
                  have hl := lw_sub hl (l' := [(0, .ref o), (1, va_rf a0), (2, .int a1), (3, va_rf a2), (4, .int e12), (5, .ref a14z), (6, .int v33)]) [0, 1, 2, 3, 4, 5, 6] rfl
                  exact hj _ _ _ _ _ hl hw
                ·
                  replace h := (if_pos c60).symm.trans hX
                  refine lv_aload_n hx hb d13_4_92 rfl (lv_at hl.1 0 rfl) ?_
                  refine xq_aload_n (r := a0) hx hb d13_4_93 rfl (lv_at hl.1 1 rfl) ?_
                  refine lv_iload_n hx hb d13_4_94 rfl (lv_at hl.1 2 rfl) ?_
                  refine lv_iconst (v := 1) hx hb d13_4_95 (by decide) ?_
                  refine lv_iadd hx hb d13_4_96 ?_
                  obtain ⟨y65, hr, h⟩ := ob h
                  refine lv_topi (fun y9 ey => ?_)
                  have e9 := ey.trans (Option.some.inj hr)
                  clear ey
                  subst y9
                  clear hr
                  obtain ⟨u9, ho, h⟩ := ob h
                  obtain ⟨⟨x66, st67⟩, hc, h⟩ := ob h
                  refine hV_q (ci := 3) (As := [va_rf a0, .int y65]) (rest := []) ⟨hx, hb, hml, hown, hts⟩ (hv o a0 y65 v34 x66 st67 hc) (kw_V (n := 2) hts k318 k315 k7 k317 ks0 (by decide +kernel) ⟨(show Dv + 1 ≤ Dv + 9 by omega), (show 8 + (3 + 11) + 64 * (Dv) ≤ 64 * (Dv + 9) by omega)⟩) hE hw rfl rfl ho rfl hl.1.1 rfl (c1_8 c1_n (Nat.le_of_ble_eq_true rfl)) d13_4_97 (fun H locs cells slots hw => ?_)
                  clear hc ho u9
                  refine W.eq (g2 := F0 m 100 ls [va_rf x66]) rfl ?_
                  refine lv_goto (tgt := 113) hx hb d13_4_100 rfl ?_
                  have e9_0 := Option.some.inj h
                  obtain ⟨q9, e9_1⟩ := Prod.mk.inj e9_0
                  clear e9_0
                  subst v42
                  subst v43
                  have hl := lw_sub hl (l' := [(0, .ref o), (1, va_rf a0), (2, .int a1), (3, va_rf a2), (4, .int e12), (5, .ref a14z), (6, .int v33)]) [0, 1, 2, 3, 4, 5, 6] rfl
                  exact hj _ _ _ _ _ hl hw
          have hl := lw_sub hl (l' := [(0, .ref o), (1, va_rf a0), (2, .int a1), (3, va_rf a2), (4, .int e12), (5, .ref a14z), (6, .int 0)]) [1, 2, 3, 4, 5, 6, 0] rfl
          exact hloop _ _ _ hX _ _ _ _ _ hl hw
        ·
          replace h := (if_neg c31).symm.trans h
          refine lv_aload hx hb d13_4_72 (lv_at hl.1 5 rfl) ?_
          cases h
          exact finH_q hQ hx hb hr hlk rfl (Or.inl ⟨_, rfl⟩) hE hw d13_4_74
      clear h
      refine lv_acmp_ne (rx := a2) (ry := some (Zd 13)) (tgt := 53) hx hb d13_4_45 rfl (fun c69 => ?_) (fun c69 => ?_)
      ·
        replace h := (if_neg c69).symm.trans hX
        refine lv_bipush (v := 123) hx hb d13_4_53 (by decide) ?_
        have e9 := Option.some.inj h
        subst e19
        have hl := lw_sub hl (l' := [(0, .ref o), (1, va_rf a0), (2, .int a1), (3, va_rf a2), (4, .int e12), (5, .ref a14z)]) [2, 3, 4, 5, 1, 0] rfl
        exact hj _ _ _ _ _ hl hw
      ·
        replace h := (if_pos c69).symm.trans hX
        refine lv_bipush (v := 91) hx hb d13_4_48 (by decide) ?_
        refine lv_goto (tgt := 55) hx hb d13_4_50 rfl ?_
        have e9 := Option.some.inj h
        subst e19
        have hl := lw_sub hl (l' := [(0, .ref o), (1, va_rf a0), (2, .int a1), (3, va_rf a2), (4, .int e12), (5, .ref a14z)]) [2, 3, 4, 5, 1, 0] rfl
        exact hj _ _ _ _ _ hl hw
    clear h
    refine lv_acmp_ne (rx := a2) (ry := some (Zd 13)) (tgt := 23) hx hb d13_4_15 rfl (fun c70 => ?_) (fun c70 => ?_)
    ·
      replace h := (if_neg c70).symm.trans hX
      refine lv_bipush (v := 125) hx hb d13_4_23 (by decide) ?_
      have e9 := Option.some.inj h
      subst e12
      have hl := lw_sub hl (l' := [(0, .ref o), (1, va_rf a0), (2, .int a1), (3, va_rf a2)]) [0, 1, 2, 3] rfl
      exact hj _ _ _ _ _ hl hw
    ·
      replace h := (if_pos c70).symm.trans hX
      refine lv_bipush (v := 93) hx hb d13_4_18 (by decide) ?_
      refine lv_goto (tgt := 25) hx hb d13_4_20 rfl ?_
      have e9 := Option.some.inj h
      subst e12
      have hl := lw_sub hl (l' := [(0, .ref o), (1, va_rf a0), (2, .int a1), (3, va_rf a2)]) [0, 1, 2, 3] rfl
      exact hj _ _ _ _ _ hl hw
  ·
    replace h := (if_neg c11).symm.trans h
    refine xq_aload_n (r := a0) hx hb d13_4_5 rfl (lv_at hl.1 1 rfl) ?_
    obtain ⟨a71z, hn71, h⟩ := ob h
    have hn71 : a0 = some a71z := hn71
    refine W.eq (g2 := F0 m 6 ls [.ref a71z]) (by rw [hn71]; rfl) ?_
    obtain ⟨u9, ho, h⟩ := ob h
    obtain ⟨st73, hc, h⟩ := ob h
    refine hV_v (ci := 1) (As := []) (rest := []) ⟨hx, hb, hml, hown, hts⟩ (cc_Text_fail l G Zd K a71z st st73 hc) (kw_V (n := 0) hts k333 k330 k2 k331 k332 (by decide +kernel) ⟨(show 0 + 1 ≤ Dv + 9 by omega), (show 8 + (1 + 11) + 64 * (0) ≤ 64 * (Dv + 9) by omega)⟩) hE hw rfl rfl ho rfl hl.1.1 rfl (c1_8 c1_n (Nat.le_of_ble_eq_true rfl)) d13_4_6 (fun H locs cells slots hw => ?_)
    clear hc ho u9
    refine W.eq (g2 := F0 m 9 ls []) rfl ?_
    refine lv_null hx hb d13_4_9 ?_
    cases h
    exact finH_q hQ hx hb hr hlk rfl (Or.inl ⟨_, rfl⟩) hE hw d13_4_10
def c_ValueParser_word_l1 (Zd : Nat → Nat) (K : KE) (a0 : Option Nat) (a1 : Option Nat) : Nat → (Int32 × CS) → Option ((Option Nat × CS) ⊕ (Int32 × CS))
  | 0, _ => none
  | n9 + 1, e9 => a1.bind fun a21z => (isO K e9.2 a21z 12).bind fun _ => (c_String_length Zd K a21z e9.2).bind fun x22 => if x22 ≤ e9.1 then (some (.inr (e9.1, e9.2))) else ((isO K e9.2 a21z 12).bind fun _ => (c_String_charAt Zd K a21z e9.1 e9.2).bind fun x26 => a0.bind fun a29z => (isO K e9.2 a29z 1).bind fun _ => (c_Text_need Zd K a29z x26 e9.2).bind fun r32 => if r32.1 = (0 : Int32) then (some (.inl (none, r32.2))) else ((some (e9.1 + 1)).bind fun y34 => c_ValueParser_word_l1 Zd K a0 a1 n9 (y34, r32.2)))
theorem c_ValueParser_word_l1_s (Zd : Nat → Nat) (K : KE) (a0 : Option Nat) (a1 : Option Nat) (n9 : Nat) (e9 : Int32 × CS) : c_ValueParser_word_l1 Zd K a0 a1 (n9 + 1) e9 = (a1.bind fun a21z => (isO K e9.2 a21z 12).bind fun _ => (c_String_length Zd K a21z e9.2).bind fun x22 => if x22 ≤ e9.1 then (some (.inr (e9.1, e9.2))) else ((isO K e9.2 a21z 12).bind fun _ => (c_String_charAt Zd K a21z e9.1 e9.2).bind fun x26 => a0.bind fun a29z => (isO K e9.2 a29z 1).bind fun _ => (c_Text_need Zd K a29z x26 e9.2).bind fun r32 => if r32.1 = (0 : Int32) then (some (.inl (none, r32.2))) else ((some (e9.1 + 1)).bind fun y34 => c_ValueParser_word_l1 Zd K a0 a1 n9 (y34, r32.2)))) := rfl
def c_ValueParser_word (Zd : Nat → Nat) (K : KE) (o : Nat) (a0 : Option Nat) (a1 : Option Nat) (a2 : Option Nat) (st : CS) : Option (Option Nat × CS) := (c_ValueParser_word_l1 Zd K a0 a1 4096 ((0 : Int32), st)).bind fun e11 => match e11 with | .inl o9 => some o9 | .inr e8 => (some e8.2.1.1).bind fun a16z => (nOc Zd e8.2 11 6 [.null, .int 0, .null, .null, .null, .null]).bind fun st17 => (c_Value_init Zd K a16z a2 (0 : Int32) (some (Zd 0)) st17).bind fun st19 => some (some a16z, st19)
set_option maxHeartbeats 4000000 in
set_option maxRecDepth 100000 in
theorem cc_ValueParser_word (l : Launch) (G : Gk) (Zd : Nat → Nat) (K : KE) (o : Nat) (a0 : Option Nat) (a1 : Option Nat) (a2 : Option Nat) (st : CS) (r0 : Option Nat) (st0 : CS) (hm : c_ValueParser_word Zd K o a0 a1 a2 st = some (r0, st0)) : CT l y13_7 prog_13_method_7_code 5 (some (.object "PagedValues$Value")) G Zd K (4) [.ref o, va_rf a0, va_rf a1, va_rf a2] st (hQ G Zd r0 st0) := by
  refine goH (d := 4) (y := y13_7) (cc := prog_13_method_7_code) (maxL := 5) (ret := (some (.object "PagedValues$Value"))) (av := [.ref o, va_rf a0, va_rf a1, va_rf a2]) (Qc := hQ G Zd r0 st0) "PagedValues$ValueParser" rfl (by decide) (c1_c rfl (c1_c (rf_cat _) (c1_c (rf_cat _) (c1_c (rf_cat _) c1_n)))) (Nat.le_of_ble_eq_true rfl) ?_
  intro p e s m below meth c ls A args Q hQ hx hb hr hlk hml hown hts hin hl hE hw
  have hl : lw ls 5 [(0, .ref o), (1, va_rf a0), (2, va_rf a1), (3, va_rf a2)] := hl
  have hZ := hE.2.2.1
  have h := hm
  clear hm
  refine lv_iconst (v := 0) hx hb d13_7_0 (by decide) ?_
  refine xt_istore (x := 0) (lv' := [(4, .int 0), (0, .ref o), (1, va_rf a0), (2, va_rf a1), (3, va_rf a2)]) hx hb d13_7_1 hl (by decide) rfl (fun ls hl => ?_)
  obtain ⟨e11, hX, hrest⟩ := ob h
  clear h
  have hj : ∀ (v14 : Int32) (v15 : CS), e11 = .inr (v14, v15) → ∀ (H : Heap) (locs : List Loc) (cells slots : Nat) (ls : Array Slot), lw ls 5 [(0, .ref o), (1, va_rf a0), (2, va_rf a1), (3, va_rf a2), (4, .int v14)] → wsH G Zd A s v15 H locs → W p l e (rmH Zd (4) st.1) s m args below meth c H locs cells slots Q (F0 m 33 ls []) := by
    intro v14 v15 he H locs cells slots ls hl hw
    subst e11
    have h := hrest
    clear hrest
    obtain ⟨a16z, hr, h⟩ := ob h
    obtain ⟨st17, hr2, h⟩ := ob h
    refine xn (ci := 11) (fs := [.null, .int 0, .null, .null, .null, .null]) (C := r_11) (T := f_11) (N := 6) hx hb hts (fun w h => List.mem_cons_of_mem _ (ly_11 w h)) ft_11 ft_11_ok hown (hts _ (List.mem_cons_of_mem _ k341)) (hts _ (List.mem_cons_of_mem _ k342)) (hts _ (List.mem_cons_of_mem _ k18)) hE hw rfl (fun j hj => by rcases (show j = 0 ∨ j = 1 ∨ j = 2 ∨ j = 3 ∨ j = 4 ∨ j = 5 by omega) with rfl | rfl | rfl | rfl | rfl | rfl <;> rfl) hr hr2 d13_7_33 (fun H cells slots hw => ?_)
    clear hr hr2
    refine lv_dup hx hb d13_7_36 rfl ?_
    refine xq_aload_n (r := a2) hx hb d13_7_37 rfl (lv_at hl.1 3 rfl) ?_
    refine lv_iconst (v := 0) hx hb d13_7_38 (by decide) ?_
    refine va_ldcS hx hb hown (hZ.2.2.1 ("PagedValues$ValueParser", 82, "", 0) (List.mem_of_getElem? (i := 1) rfl)) d13_7_39 ?_
    refine W.eq (g2 := F0 m 41 ls [.ref (Zd 0), .int 0, va_rf a2, .ref a16z, .ref a16z]) rfl ?_
    obtain ⟨st19, hc, h⟩ := ob h
    refine hI_v (As := [va_rf a2, .int 0, .ref (Zd 0)]) (rest := [.ref a16z]) ⟨hx, hb, hml, hown, hts⟩ (cc_Value_init l G Zd K a16z a2 (0 : Int32) (some (Zd 0)) st17 st19 hc) (kw_I (n := 3) hts k346 k344 k18 k345 rfl (by decide +kernel) ⟨Nat.le_of_ble_eq_true rfl, Nat.le_of_ble_eq_true rfl⟩) hE hw rfl hl.1.1 rfl (c1_8 (c1_c rfl c1_n) (Nat.le_of_ble_eq_true rfl)) d13_7_41 (fun H locs cells slots hw => ?_)
    clear hc
    refine W.eq (g2 := F0 m 44 ls [.ref a16z]) rfl ?_
    cases h
    exact finH_q hQ hx hb hr hlk rfl (Or.inl ⟨_, rfl⟩) hE hw d13_7_44
  have hloop : ∀ (n9 : Nat) (v12 : Int32) (v13 : CS), c_ValueParser_word_l1 Zd K a0 a1 n9 (v12, v13) = some e11 → ∀ (H : Heap) (locs : List Loc) (cells slots : Nat) (ls : Array Slot), lw ls 5 [(0, .ref o), (1, va_rf a0), (2, va_rf a1), (3, va_rf a2), (4, .int v12)] → wsH G Zd A s v13 H locs → W p l e (rmH Zd (4) st.1) s m args below meth c H locs cells slots Q (F0 m 3 ls []) := by
    intro n9
    induction n9 with
    | zero =>
      intro v12 v13 h
      cases h
    | succ n9 ih =>
      intro v12 v13 h H locs cells slots ls hl hw
      replace h := (c_ValueParser_word_l1_s Zd K a0 a1 n9 (v12, v13)).symm.trans h
      refine lv_iload hx hb d13_7_3 (lv_at hl.1 4 rfl) ?_
      refine xq_aload_n (r := a1) hx hb d13_7_5 rfl (lv_at hl.1 2 rfl) ?_
      obtain ⟨a21z, hn21, h⟩ := ob h
      have hn21 : a1 = some a21z := hn21
      refine W.eq (g2 := F0 m 6 ls [.ref a21z, .int v12]) (by rw [hn21]; rfl) ?_
      obtain ⟨u9, ho, h⟩ := ob h
      obtain ⟨x22, hc, h⟩ := ob h
      refine hV_i (ci := 12) (As := []) (rest := [.int v12]) ⟨hx, hb, hml, hown, hts⟩ (cc_String_length l G Zd K a21z v13 x22 hc) (kw_V (n := 0) hts k628 k625 k5 k626 k627 (by decide +kernel) ⟨Nat.le_of_ble_eq_true rfl, Nat.le_of_ble_eq_true rfl⟩) hE hw rfl rfl ho rfl hl.1.1 rfl (c1_8 (c1_c rfl c1_n) (Nat.le_of_ble_eq_true rfl)) d13_7_6 (fun H locs cells slots hw => ?_)
      clear hc ho u9
      refine W.eq (g2 := F0 m 9 ls [.int x22, .int v12]) rfl ?_
      refine lv_icmp_ge (tgt := 33) hx hb d13_7_9 rfl (fun c25 => ?_) (fun c25 => ?_)
      ·
        replace h := (if_pos c25).symm.trans h
        have e9 := Option.some.inj h
        subst e11
        have hl := lw_sub hl (l' := [(0, .ref o), (1, va_rf a0), (2, va_rf a1), (3, va_rf a2), (4, .int v12)]) [0, 1, 2, 3, 4] rfl
        exact hj _ _ rfl _ _ _ _ _ hl hw
      ·
        replace h := (if_neg c25).symm.trans h
        refine xq_aload_n (r := a0) hx hb d13_7_12 rfl (lv_at hl.1 1 rfl) ?_
        refine xq_aload_n (r := a1) hx hb d13_7_13 rfl (lv_at hl.1 2 rfl) ?_
        refine lv_iload hx hb d13_7_14 (lv_at hl.1 4 rfl) ?_
        refine W.eq (g2 := F0 m 16 ls [.int v12, .ref a21z, va_rf a0]) (by rw [hn21]; rfl) ?_
        obtain ⟨u9, ho, h⟩ := ob h
        obtain ⟨x26, hc, h⟩ := ob h
        refine hV_i (ci := 12) (As := [.int v12]) (rest := [va_rf a0]) ⟨hx, hb, hml, hown, hts⟩ (cc_String_charAt l G Zd K a21z v12 v13 x26 hc) (kw_V (n := 1) hts k636 k633 k5 k634 k635 (by decide +kernel) ⟨Nat.le_of_ble_eq_true rfl, Nat.le_of_ble_eq_true rfl⟩) hE hw rfl rfl ho rfl hl.1.1 rfl (c1_8 (c1_c (rf_cat _) c1_n) (Nat.le_of_ble_eq_true rfl)) d13_7_16 (fun H locs cells slots hw => ?_)
        clear hc ho u9
        refine W.eq (g2 := F0 m 19 ls [.int x26, va_rf a0]) rfl ?_
        obtain ⟨a29z, hn29, h⟩ := ob h
        have hn29 : a0 = some a29z := hn29
        refine W.eq (g2 := F0 m 19 ls [.int x26, .ref a29z]) (by rw [hn29]; rfl) ?_
        obtain ⟨u9, ho, h⟩ := ob h
        obtain ⟨⟨x30, st31⟩, hc, h⟩ := ob h
        refine hV_i (ci := 1) (As := [.int x26]) (rest := []) ⟨hx, hb, hml, hown, hts⟩ (cc_Text_need l G Zd K a29z x26 v13 x30 st31 hc) (kw_V (n := 1) hts k380 k377 k2 k378 k379 (by decide +kernel) ⟨Nat.le_of_ble_eq_true rfl, Nat.le_of_ble_eq_true rfl⟩) hE hw rfl rfl ho rfl hl.1.1 rfl (c1_8 c1_n (Nat.le_of_ble_eq_true rfl)) d13_7_19 (fun H locs cells slots hw => ?_)
        clear hc ho u9
        refine W.eq (g2 := F0 m 22 ls [.int x30]) rfl ?_
        refine lv_if_ne (tgt := 27) hx hb d13_7_22 rfl (fun c33 => ?_) (fun c33 => ?_)
        ·
          replace h := (if_neg c33).symm.trans h
          obtain ⟨y34, hr, h⟩ := ob h
          refine xt_iinc (k := 4) (v := y34) (lv' := [(4, .int y34), (0, .ref o), (1, va_rf a0), (2, va_rf a1), (3, va_rf a2)]) hx hb d13_7_27 hl rfl hr (by decide) rfl (fun ls hl => ?_)
          clear hr
          refine lv_goto (tgt := 3) hx hb d13_7_30 rfl ?_
          have hl := lw_sub hl (l' := [(0, .ref o), (1, va_rf a0), (2, va_rf a1), (3, va_rf a2), (4, .int y34)]) [1, 2, 3, 4, 0] rfl
          exact ih _ _ h _ _ _ _ _ hl hw
        ·
          replace h := (if_pos c33).symm.trans h
          refine lv_null hx hb d13_7_25 ?_
          cases h
          cases hrest
          exact finH_q hQ hx hb hr hlk rfl (Or.inl ⟨_, rfl⟩) hE hw d13_7_26
  have hl := lw_sub hl (l' := [(0, .ref o), (1, va_rf a0), (2, va_rf a1), (3, va_rf a2), (4, .int 0)]) [1, 2, 3, 4, 0] rfl
  exact hloop _ _ _ hX _ _ _ _ _ hl hw
def c_ValueParser_number (Zd : Nat → Nat) (K : KE) (o : Nat) (a0 : Option Nat) (st : CS) : Option (Option Nat × CS) := a0.bind fun a11z => (isO K st a11z 1).bind fun _ => (c_Text_take Zd K a11z (45 : Int32) st).bind fun r14 => (isO K r14.2 a11z 1).bind fun _ => (c_Text_digits Zd K a11z (6 : Int32) r14.2).bind fun r17 => (isO K r17.2 a11z 1).bind fun _ => (c_Text_isRight Zd K a11z r17.2).bind fun x18 => (if x18 = (0 : Int32) then (some (none, r17.2)) else ((some r17.2.1.1).bind fun a25z => (nOc Zd r17.2 11 6 [.null, .int 0, .null, .null, .null, .null]).bind fun st26 => (if r14.1 = (0 : Int32) then (some r17.1) else ((some (-r17.1)).bind fun y33 => some y33)).bind fun e27 => (c_Value_init Zd K a25z (some (Zd 11)) e27 (some (Zd 0)) st26).bind fun st30 => some (some a25z, st30))).bind fun e21 => some (e21.1, e21.2)
set_option maxHeartbeats 4000000 in
set_option maxRecDepth 100000 in
theorem cc_ValueParser_number (l : Launch) (G : Gk) (Zd : Nat → Nat) (K : KE) (o : Nat) (a0 : Option Nat) (st : CS) (r0 : Option Nat) (st0 : CS) (hm : c_ValueParser_number Zd K o a0 st = some (r0, st0)) : CT l y13_8 prog_13_method_8_code 4 (some (.object "PagedValues$Value")) G Zd K (2) [.ref o, va_rf a0] st (hQ G Zd r0 st0) := by
  refine goH (d := 2) (y := y13_8) (cc := prog_13_method_8_code) (maxL := 4) (ret := (some (.object "PagedValues$Value"))) (av := [.ref o, va_rf a0]) (Qc := hQ G Zd r0 st0) "PagedValues$ValueParser" rfl (by decide) (c1_c rfl (c1_c (rf_cat _) c1_n)) (Nat.le_of_ble_eq_true rfl) ?_
  intro p e s m below meth c ls A args Q hQ hx hb hr hlk hml hown hts hin hl hE hw
  have hl : lw ls 4 [(0, .ref o), (1, va_rf a0)] := hl
  have hZ := hE.2.2.1
  have h := hm
  clear hm
  refine xq_aload_n (r := a0) hx hb d13_8_0 rfl (lv_at hl.1 1 rfl) ?_
  refine lv_bipush (v := 45) hx hb d13_8_1 (by decide) ?_
  obtain ⟨a11z, hn11, h⟩ := ob h
  have hn11 : a0 = some a11z := hn11
  refine W.eq (g2 := F0 m 3 ls [.int 45, .ref a11z]) (by rw [hn11]; rfl) ?_
  obtain ⟨u9, ho, h⟩ := ob h
  obtain ⟨⟨x12, st13⟩, hc, h⟩ := ob h
  refine hV_i (ci := 1) (As := [.int 45]) (rest := []) ⟨hx, hb, hml, hown, hts⟩ (cc_Text_take l G Zd K a11z (45 : Int32) st x12 st13 hc) (kw_V (n := 1) hts k384 k386 k2 k382 k383 (by decide +kernel) ⟨Nat.le_of_ble_eq_true rfl, Nat.le_of_ble_eq_true rfl⟩) hE hw rfl rfl ho rfl hl.1.1 rfl (c1_8 c1_n (Nat.le_of_ble_eq_true rfl)) d13_8_3 (fun H locs cells slots hw => ?_)
  clear hc ho u9
  refine W.eq (g2 := F0 m 6 ls [.int x12]) rfl ?_
  refine xt_istore_n (x := x12) (lv' := [(2, .int x12), (0, .ref o), (1, va_rf a0)]) hx hb d13_8_6 rfl hl (by decide) rfl (fun ls hl => ?_)
  refine xq_aload_n (r := a0) hx hb d13_8_7 rfl (lv_at hl.1 2 rfl) ?_
  refine lv_bipush (v := 6) hx hb d13_8_8 (by decide) ?_
  refine W.eq (g2 := F0 m 10 ls [.int 6, .ref a11z]) (by rw [hn11]; rfl) ?_
  obtain ⟨u9, ho, h⟩ := ob h
  obtain ⟨⟨x15, st16⟩, hc, h⟩ := ob h
  refine hV_i (ci := 1) (As := [.int 6]) (rest := []) ⟨hx, hb, hml, hown, hts⟩ (cc_Text_digits l G Zd K a11z (6 : Int32) st13 x15 st16 hc) (kw_V (n := 1) hts k661 k658 k2 k659 k660 (by decide +kernel) ⟨Nat.le_of_ble_eq_true rfl, Nat.le_of_ble_eq_true rfl⟩) hE hw rfl rfl ho rfl hl.1.1 rfl (c1_8 c1_n (Nat.le_of_ble_eq_true rfl)) d13_8_10 (fun H locs cells slots hw => ?_)
  clear hc ho u9
  refine W.eq (g2 := F0 m 13 ls [.int x15]) rfl ?_
  refine xt_istore_n (x := x15) (lv' := [(3, .int x15), (2, .int x12), (0, .ref o), (1, va_rf a0)]) hx hb d13_8_13 rfl hl (by decide) rfl (fun ls hl => ?_)
  refine xq_aload_n (r := a0) hx hb d13_8_14 rfl (lv_at hl.1 3 rfl) ?_
  refine W.eq (g2 := F0 m 15 ls [.ref a11z]) (by rw [hn11]; rfl) ?_
  obtain ⟨u9, ho, h⟩ := ob h
  obtain ⟨x18, hc, h⟩ := ob h
  refine hV_i (ci := 1) (As := []) (rest := []) ⟨hx, hb, hml, hown, hts⟩ (cc_Text_isRight l G Zd K a11z st16 x18 hc) (kw_V (n := 0) hts k580 k577 k2 k578 k579 (by decide +kernel) ⟨Nat.le_of_ble_eq_true rfl, Nat.le_of_ble_eq_true rfl⟩) hE hw rfl rfl ho rfl hl.1.1 rfl (c1_8 c1_n (Nat.le_of_ble_eq_true rfl)) d13_8_15 (fun H locs cells slots hw => ?_)
  clear hc ho u9
  refine W.eq (g2 := F0 m 18 ls [.int x18]) rfl ?_
  obtain ⟨e21, hX, h⟩ := ob h
  obtain ⟨v22, v23⟩ := e21
  have hj : ∀ (H : Heap) (locs : List Loc) (cells slots : Nat) (ls : Array Slot), lw ls 4 [(0, .ref o), (1, va_rf a0), (2, .int x12), (3, .int x15)] → wsH G Zd A s v23 H locs → W p l e (rmH Zd (2) st.1) s m args below meth c H locs cells slots Q (F0 m 47 ls [va_rf v22]) := by
    intro H locs cells slots ls hl hw
    cases h
    exact finH_q hQ hx hb hr hlk rfl (Or.inl ⟨_, rfl⟩) hE hw d13_8_47
  clear h
  refine lv_if_eq (tgt := 46) hx hb d13_8_18 rfl (fun c24 => ?_) (fun c24 => ?_)
  ·
    replace h := (if_pos c24).symm.trans hX
    refine lv_null hx hb d13_8_46 ?_
    have e9_0 := Option.some.inj h
    obtain ⟨q9, e9_1⟩ := Prod.mk.inj e9_0
    clear e9_0
    subst v22
    subst v23
    have hl := lw_sub hl (l' := [(0, .ref o), (1, va_rf a0), (2, .int x12), (3, .int x15)]) [2, 3, 1, 0] rfl
    exact hj _ _ _ _ _ hl hw
  ·
    replace h := (if_neg c24).symm.trans hX
    obtain ⟨a25z, hr, h⟩ := ob h
    obtain ⟨st26, hr2, h⟩ := ob h
    refine xn (ci := 11) (fs := [.null, .int 0, .null, .null, .null, .null]) (C := r_11) (T := f_11) (N := 6) hx hb hts (fun w h => List.mem_cons_of_mem _ (ly_11 w h)) ft_11 ft_11_ok hown (hts _ (List.mem_cons_of_mem _ k341)) (hts _ (List.mem_cons_of_mem _ k342)) (hts _ (List.mem_cons_of_mem _ k18)) hE hw rfl (fun j hj => by rcases (show j = 0 ∨ j = 1 ∨ j = 2 ∨ j = 3 ∨ j = 4 ∨ j = 5 by omega) with rfl | rfl | rfl | rfl | rfl | rfl <;> rfl) hr hr2 d13_8_21 (fun H cells slots hw => ?_)
    clear hr hr2
    refine lv_dup hx hb d13_8_24 rfl ?_
    refine va_gets (ref := "PagedValues$Kind") hx hb (hZ.2.1.1.1 3 (by decide)).1 hw.2.2.2 hown (hts _ (List.mem_cons_of_mem _ k665)) (fun _ h9 => h9) d13_8_25 ?_
    refine W.eq (g2 := F0 m 28 ls [.ref (Zd 11), .ref a25z, .ref a25z]) rfl ?_
    refine lv_iload_n hx hb d13_8_28 rfl (lv_at hl.1 1 rfl) ?_
    obtain ⟨e27, hX, h⟩ := ob h
    have hj : ∀ (H : Heap) (locs : List Loc) (cells slots : Nat) (ls : Array Slot), lw ls 4 [(0, .ref o), (1, va_rf a0), (2, .int x12), (3, .int x15)] → wsH G Zd A s st26 H locs → W p l e (rmH Zd (2) st.1) s m args below meth c H locs cells slots Q (F0 m 38 ls [.int e27, .ref (Zd 11), .ref a25z, .ref a25z]) := by
      intro H locs cells slots ls hl hw
      refine va_ldcS hx hb hown (hZ.2.2.1 ("PagedValues$ValueParser", 82, "", 0) (List.mem_of_getElem? (i := 1) rfl)) d13_8_38 ?_
      refine W.eq (g2 := F0 m 40 ls [.ref (Zd 0), .int e27, .ref (Zd 11), .ref a25z, .ref a25z]) rfl ?_
      obtain ⟨st30, hc, h⟩ := ob h
      refine hI_v (As := [.ref (Zd 11), .int e27, .ref (Zd 0)]) (rest := [.ref a25z]) ⟨hx, hb, hml, hown, hts⟩ (cc_Value_init l G Zd K a25z (some (Zd 11)) e27 (some (Zd 0)) st26 st30 hc) (kw_I (n := 3) hts k346 k344 k18 k345 rfl (by decide +kernel) ⟨Nat.le_of_ble_eq_true rfl, Nat.le_of_ble_eq_true rfl⟩) hE hw rfl hl.1.1 rfl (c1_8 (c1_c rfl c1_n) (Nat.le_of_ble_eq_true rfl)) d13_8_40 (fun H locs cells slots hw => ?_)
      clear hc
      refine W.eq (g2 := F0 m 43 ls [.ref a25z]) rfl ?_
      refine lv_goto (tgt := 47) hx hb d13_8_43 rfl ?_
      have e9_0 := Option.some.inj h
      obtain ⟨q9, e9_1⟩ := Prod.mk.inj e9_0
      clear e9_0
      subst v22
      subst v23
      have hl := lw_sub hl (l' := [(0, .ref o), (1, va_rf a0), (2, .int x12), (3, .int x15)]) [0, 1, 2, 3] rfl
      exact hj _ _ _ _ _ hl hw
    clear h
    refine lv_if_eq (tgt := 37) hx hb d13_8_29 rfl (fun c32 => ?_) (fun c32 => ?_)
    ·
      replace h := (if_pos c32).symm.trans hX
      refine lv_iload_n hx hb d13_8_37 rfl (lv_at hl.1 0 rfl) ?_
      have e9 := Option.some.inj h
      subst e27
      have hl := lw_sub hl (l' := [(0, .ref o), (1, va_rf a0), (2, .int x12), (3, .int x15)]) [2, 3, 1, 0] rfl
      exact hj _ _ _ _ _ hl hw
    ·
      replace h := (if_neg c32).symm.trans hX
      refine lv_iload_n hx hb d13_8_32 rfl (lv_at hl.1 0 rfl) ?_
      refine lv_ineg hx hb d13_8_33 ?_
      obtain ⟨y33, hr, h⟩ := ob h
      refine lv_topi (fun y9 ey => ?_)
      have e9 := ey.trans (Option.some.inj hr)
      clear ey
      subst y9
      clear hr
      refine lv_goto (tgt := 38) hx hb d13_8_34 rfl ?_
      have e9 := Option.some.inj h
      subst e27
      have hl := lw_sub hl (l' := [(0, .ref o), (1, va_rf a0), (2, .int x12), (3, .int x15)]) [2, 3, 1, 0] rfl
      exact hj _ _ _ _ _ hl hw
def c_ValueParser_value_b (Zd : Nat → Nat) (K : KE) (fv : Nat → Option Nat → Int32 → CS → Option (Option Nat × CS)) (o : Nat) (a0 : Option Nat) (a1 : Int32) (st : CS) : Option (Option Nat × CS) := a0.bind fun a11z => (isO K st a11z 1).bind fun _ => (c_Text_skipBlanks Zd K a11z st).bind fun st13 => (gI K st13 o 3 0).bind fun x15 => if x15 < (24 : Int32) then ((gI K st13 o 3 0).bind fun x17 => (some (x17 + (1 : Int32))).bind fun y18 => (sF st13 o 3 0 (.int y18)).bind fun st19 => (isO K st19 a11z 1).bind fun _ => (c_Text_ahead Zd K a11z st19).bind fun x20 => if x20 = (34 : Int32) then ((isO K st19 o 3).bind fun _ => (c_ValueParser_string Zd K o a0 st19).bind fun r26 => some (r26.1, r26.2)) else (if x20 = (91 : Int32) then ((isO K st19 o 3).bind fun _ => (c_ValueParser_container Zd K fv o a0 a1 (some (Zd 13)) st19).bind fun r30 => some (r30.1, r30.2)) else (if x20 = (102 : Int32) then ((isO K st19 o 3).bind fun _ => (c_ValueParser_word Zd K o a0 (some (Zd 22)) (some (Zd 10)) st19).bind fun r34 => some (r34.1, r34.2)) else (if x20 = (110 : Int32) then ((isO K st19 o 3).bind fun _ => (c_ValueParser_word Zd K o a0 (some (Zd 20)) (some (Zd 8)) st19).bind fun r38 => some (r38.1, r38.2)) else (if x20 = (116 : Int32) then ((isO K st19 o 3).bind fun _ => (c_ValueParser_word Zd K o a0 (some (Zd 21)) (some (Zd 9)) st19).bind fun r42 => some (r42.1, r42.2)) else (if x20 = (123 : Int32) then ((isO K st19 o 3).bind fun _ => (c_ValueParser_container Zd K fv o a0 a1 (some (Zd 14)) st19).bind fun r46 => some (r46.1, r46.2)) else ((isO K st19 o 3).bind fun _ => (c_ValueParser_number Zd K o a0 st19).bind fun r49 => some (r49.1, r49.2)))))))) else ((isO K st13 a11z 1).bind fun _ => (c_Text_fail Zd K a11z st13).bind fun st51 => some (none, st51))
set_option maxHeartbeats 4000000 in
set_option maxRecDepth 100000 in
theorem cc_ValueParser_value_b (l : Launch) (G : Gk) (Zd : Nat → Nat) (K : KE) (fv : Nat → Option Nat → Int32 → CS → Option (Option Nat × CS)) (Dv : Nat) (hv : ∀ (o : Nat) (b0 : Option Nat) (b1 : Int32) (st : CS) (r0 : Option Nat) (st0 : CS), fv o b0 b1 st = some (r0, st0) → CT l y13_3 prog_13_method_3_code 3 (some (.object "PagedValues$Value")) G Zd K Dv [.ref o, va_rf b0, .int b1] st (hQ G Zd r0 st0)) (o : Nat) (a0 : Option Nat) (a1 : Int32) (st : CS) (r0 : Option Nat) (st0 : CS) (hm : c_ValueParser_value_b Zd K fv o a0 a1 st = some (r0, st0)) : CT l y13_3 prog_13_method_3_code 3 (some (.object "PagedValues$Value")) G Zd K (Dv + 10) [.ref o, va_rf a0, .int a1] st (hQ G Zd r0 st0) := by
  refine goH (d := Dv + 10) (y := y13_3) (cc := prog_13_method_3_code) (maxL := 3) (ret := (some (.object "PagedValues$Value"))) (av := [.ref o, va_rf a0, .int a1]) (Qc := hQ G Zd r0 st0) "PagedValues$ValueParser" rfl (by decide) (c1_c rfl (c1_c (rf_cat _) (c1_c rfl c1_n))) (Nat.le_of_ble_eq_true rfl) ?_
  intro p e s m below meth c ls A args Q hQ hx hb hr hlk hml hown hts hin hl hE hw
  have hl : lw ls 3 [(0, .ref o), (1, va_rf a0), (2, .int a1)] := hl
  have hZ := hE.2.2.1
  have h := hm
  clear hm
  refine xq_aload_n (r := a0) hx hb d13_3_0 rfl (lv_at hl.1 1 rfl) ?_
  obtain ⟨a11z, hn11, h⟩ := ob h
  have hn11 : a0 = some a11z := hn11
  refine W.eq (g2 := F0 m 1 ls [.ref a11z]) (by rw [hn11]; rfl) ?_
  obtain ⟨u9, ho, h⟩ := ob h
  obtain ⟨st13, hc, h⟩ := ob h
  refine hV_v (ci := 1) (As := []) (rest := []) ⟨hx, hb, hml, hown, hts⟩ (cc_Text_skipBlanks l G Zd K a11z st st13 hc) (kw_V (n := 0) hts k322 k319 k2 k320 k321 (by decide +kernel) ⟨(show 1 + 1 ≤ Dv + 10 by omega), (show 8 + (1 + 11) + 64 * (1) ≤ 64 * (Dv + 10) by omega)⟩) hE hw rfl rfl ho rfl hl.1.1 rfl (c1_8 c1_n (Nat.le_of_ble_eq_true rfl)) d13_3_1 (fun H locs cells slots hw => ?_)
  clear hc ho u9
  refine W.eq (g2 := F0 m 4 ls []) rfl ?_
  refine lv_aload_n hx hb d13_3_4 rfl (lv_at hl.1 0 rfl) ?_
  obtain ⟨x15, hr, h⟩ := ob h
  refine xg_i (ci := 3) (C := r_3) (T := f_3) (N := 1) (ref := "PagedValues$ValueParser") hx hb hts (fun w h => List.mem_cons_of_mem _ (ly_3 w h)) hown hE hw rfl 0 (by decide) (hts _ (List.mem_cons_of_mem _ k100)) (fun _ h9 => h9) hr d13_3_5 ?_
  clear hr
  refine lv_bipush (v := 24) hx hb d13_3_8 (by decide) ?_
  refine lv_icmp_lt (tgt := 19) hx hb d13_3_10 rfl (fun c16 => ?_) (fun c16 => ?_)
  ·
    replace h := (if_pos c16).symm.trans h
    refine lv_aload_n hx hb d13_3_19 rfl (lv_at hl.1 0 rfl) ?_
    refine lv_dup hx hb d13_3_20 rfl ?_
    obtain ⟨x17, hr, h⟩ := ob h
    refine xg_i (ci := 3) (C := r_3) (T := f_3) (N := 1) (ref := "PagedValues$ValueParser") hx hb hts (fun w h => List.mem_cons_of_mem _ (ly_3 w h)) hown hE hw rfl 0 (by decide) (hts _ (List.mem_cons_of_mem _ k100)) (fun _ h9 => h9) hr d13_3_21 ?_
    clear hr
    refine lv_iconst (v := 1) hx hb d13_3_24 (by decide) ?_
    refine lv_iadd hx hb d13_3_25 ?_
    obtain ⟨y18, hr, h⟩ := ob h
    refine lv_topi (fun y9 ey => ?_)
    have e9 := ey.trans (Option.some.inj hr)
    clear ey
    subst y9
    clear hr
    obtain ⟨st19, hr, h⟩ := ob h
    refine xp (ci := 3) (ty := .int) (C := r_3) (T := f_3) (N := 1) (ref := "PagedValues$ValueParser") hx hb hts (fun w h => List.mem_cons_of_mem _ (ly_3 w h)) ft_3 ft_3_ok nm_3 hown hE hw rfl 0 (by decide) (hts _ (List.mem_cons_of_mem _ k100)) (fun _ h9 => h9) rfl hr (by decide +kernel) rfl rfl d13_3_26 (fun H locs hw => ?_)
    clear hr
    refine xq_aload_n (r := a0) hx hb d13_3_29 rfl (lv_at hl.1 1 rfl) ?_
    refine W.eq (g2 := F0 m 30 ls [.ref a11z]) (by rw [hn11]; rfl) ?_
    obtain ⟨u9, ho, h⟩ := ob h
    obtain ⟨x20, hc, h⟩ := ob h
    refine hV_i (ci := 1) (As := []) (rest := []) ⟨hx, hb, hml, hown, hts⟩ (cc_Text_ahead l G Zd K a11z st19 x20 hc) (kw_V (n := 0) hts k326 k334 k2 k324 k325 (by decide +kernel) ⟨(show 0 + 1 ≤ Dv + 10 by omega), (show 8 + (1 + 11) + 64 * (0) ≤ 64 * (Dv + 10) by omega)⟩) hE hw rfl rfl ho rfl hl.1.1 rfl (c1_8 c1_n (Nat.le_of_ble_eq_true rfl)) d13_3_30 (fun H locs cells slots hw => ?_)
    clear hc ho u9
    refine W.eq (g2 := F0 m 33 ls [.int x20]) rfl ?_
    by_cases n23c : x20 = (34 : Int32)
    ·
      replace h := (if_pos n23c).symm.trans h
      refine W.eq (g2 := F0 m 33 ls [.int 34]) (by rw [n23c]) ?_
      refine lv_lookup (tgt := 112) (off := 79) hx hb d13_3_33 (by decide) (by decide) rfl ?_
      refine lv_aload_n hx hb d13_3_112 rfl (lv_at hl.1 0 rfl) ?_
      refine xq_aload_n (r := a0) hx hb d13_3_113 rfl (lv_at hl.1 1 rfl) ?_
      obtain ⟨u9, ho, h⟩ := ob h
      obtain ⟨⟨x24, st25⟩, hc, h⟩ := ob h
      refine hV_q (ci := 3) (As := [va_rf a0]) (rest := []) ⟨hx, hb, hml, hown, hts⟩ (cc_ValueParser_string l G Zd K o a0 st19 x24 st25 hc) (kw_V (n := 1) hts k615 k612 k7 k614 ks4 (by decide +kernel) ⟨(show 8 + 1 ≤ Dv + 10 by omega), (show 8 + (3 + 11) + 64 * (8) ≤ 64 * (Dv + 10) by omega)⟩) hE hw rfl rfl ho rfl hl.1.1 rfl (c1_8 c1_n (Nat.le_of_ble_eq_true rfl)) d13_3_114 (fun H locs cells slots hw => ?_)
      clear hc ho u9
      refine W.eq (g2 := F0 m 117 ls [va_rf x24]) rfl ?_
      cases h
      exact finH_q hQ hx hb hr hlk rfl (Or.inl ⟨_, rfl⟩) hE hw d13_3_117
    replace h := (if_neg n23c).symm.trans h
    by_cases n27c : x20 = (91 : Int32)
    ·
      replace h := (if_pos n27c).symm.trans h
      refine W.eq (g2 := F0 m 33 ls [.int 91]) (by rw [n27c]) ?_
      refine lv_lookup (tgt := 92) (off := 59) hx hb d13_3_33 (by decide) (by decide) rfl ?_
      refine lv_aload_n hx hb d13_3_92 rfl (lv_at hl.1 0 rfl) ?_
      refine xq_aload_n (r := a0) hx hb d13_3_93 rfl (lv_at hl.1 1 rfl) ?_
      refine lv_iload_n hx hb d13_3_94 rfl (lv_at hl.1 2 rfl) ?_
      refine va_gets (ref := "PagedValues$Kind") hx hb (hZ.2.1.1.1 5 (by decide)).1 hw.2.2.2 hown (hts _ (List.mem_cons_of_mem _ k335)) (fun _ h9 => h9) d13_3_95 ?_
      refine W.eq (g2 := F0 m 98 ls [.ref (Zd 13), .int a1, va_rf a0, .ref o]) rfl ?_
      obtain ⟨u9, ho, h⟩ := ob h
      obtain ⟨⟨x28, st29⟩, hc, h⟩ := ob h
      refine hV_q (ci := 3) (As := [va_rf a0, .int a1, .ref (Zd 13)]) (rest := []) ⟨hx, hb, hml, hown, hts⟩ (cc_ValueParser_container l G Zd K fv Dv hv o a0 a1 (some (Zd 13)) st19 x28 st29 hc) (kw_V (n := 3) hts k340 k337 k7 k339 ks1 (by decide +kernel) ⟨(show Dv + 9 + 1 ≤ Dv + 10 by omega), (show 8 + (8 + 11) + 64 * (Dv + 9) ≤ 64 * (Dv + 10) by omega)⟩) hE hw rfl rfl ho rfl hl.1.1 rfl (c1_8 c1_n (Nat.le_of_ble_eq_true rfl)) d13_3_98 (fun H locs cells slots hw => ?_)
      clear hc ho u9
      refine W.eq (g2 := F0 m 101 ls [va_rf x28]) rfl ?_
      cases h
      exact finH_q hQ hx hb hr hlk rfl (Or.inl ⟨_, rfl⟩) hE hw d13_3_101
    replace h := (if_neg n27c).symm.trans h
    by_cases n31c : x20 = (102 : Int32)
    ·
      replace h := (if_pos n31c).symm.trans h
      refine W.eq (g2 := F0 m 33 ls [.int 102]) (by rw [n31c]) ?_
      refine lv_lookup (tgt := 140) (off := 107) hx hb d13_3_33 (by decide) (by decide) rfl ?_
      refine lv_aload_n hx hb d13_3_140 rfl (lv_at hl.1 0 rfl) ?_
      refine xq_aload_n (r := a0) hx hb d13_3_141 rfl (lv_at hl.1 1 rfl) ?_
      refine va_ldcS hx hb hown (hZ.2.2.1 ("PagedValues$ValueParser", 72, "false", 22) (List.mem_of_getElem? (i := 7) rfl)) d13_3_142 ?_
      refine W.eq (g2 := F0 m 144 ls [.ref (Zd 22), va_rf a0, .ref o]) rfl ?_
      refine va_gets (ref := "PagedValues$Kind") hx hb (hZ.2.1.1.1 2 (by decide)).1 hw.2.2.2 hown (hts _ (List.mem_cons_of_mem _ k652)) (fun _ h9 => h9) d13_3_144 ?_
      refine W.eq (g2 := F0 m 147 ls [.ref (Zd 10), .ref (Zd 22), va_rf a0, .ref o]) rfl ?_
      obtain ⟨u9, ho, h⟩ := ob h
      obtain ⟨⟨x32, st33⟩, hc, h⟩ := ob h
      refine hV_q (ci := 3) (As := [va_rf a0, .ref (Zd 22), .ref (Zd 10)]) (rest := []) ⟨hx, hb, hml, hown, hts⟩ (cc_ValueParser_word l G Zd K o a0 (some (Zd 22)) (some (Zd 10)) st19 x32 st33 hc) (kw_V (n := 3) hts k624 k621 k7 k623 ks5 (by decide +kernel) ⟨(show 4 + 1 ≤ Dv + 10 by omega), (show 8 + (5 + 11) + 64 * (4) ≤ 64 * (Dv + 10) by omega)⟩) hE hw rfl rfl ho rfl hl.1.1 rfl (c1_8 c1_n (Nat.le_of_ble_eq_true rfl)) d13_3_147 (fun H locs cells slots hw => ?_)
      clear hc ho u9
      refine W.eq (g2 := F0 m 150 ls [va_rf x32]) rfl ?_
      cases h
      exact finH_q hQ hx hb hr hlk rfl (Or.inl ⟨_, rfl⟩) hE hw d13_3_150
    replace h := (if_neg n31c).symm.trans h
    by_cases n35c : x20 = (110 : Int32)
    ·
      replace h := (if_pos n35c).symm.trans h
      refine W.eq (g2 := F0 m 33 ls [.int 110]) (by rw [n35c]) ?_
      refine lv_lookup (tgt := 118) (off := 85) hx hb d13_3_33 (by decide) (by decide) rfl ?_
      refine lv_aload_n hx hb d13_3_118 rfl (lv_at hl.1 0 rfl) ?_
      refine xq_aload_n (r := a0) hx hb d13_3_119 rfl (lv_at hl.1 1 rfl) ?_
      refine va_ldcS hx hb hown (hZ.2.2.1 ("PagedValues$ValueParser", 58, "null", 20) (List.mem_of_getElem? (i := 5) rfl)) d13_3_120 ?_
      refine W.eq (g2 := F0 m 122 ls [.ref (Zd 20), va_rf a0, .ref o]) rfl ?_
      refine va_gets (ref := "PagedValues$Kind") hx hb (hZ.2.1.1.1 0 (by decide)).1 hw.2.2.2 hown (hts _ (List.mem_cons_of_mem _ k619)) (fun _ h9 => h9) d13_3_122 ?_
      refine W.eq (g2 := F0 m 125 ls [.ref (Zd 8), .ref (Zd 20), va_rf a0, .ref o]) rfl ?_
      obtain ⟨u9, ho, h⟩ := ob h
      obtain ⟨⟨x36, st37⟩, hc, h⟩ := ob h
      refine hV_q (ci := 3) (As := [va_rf a0, .ref (Zd 20), .ref (Zd 8)]) (rest := []) ⟨hx, hb, hml, hown, hts⟩ (cc_ValueParser_word l G Zd K o a0 (some (Zd 20)) (some (Zd 8)) st19 x36 st37 hc) (kw_V (n := 3) hts k624 k621 k7 k623 ks5 (by decide +kernel) ⟨(show 4 + 1 ≤ Dv + 10 by omega), (show 8 + (5 + 11) + 64 * (4) ≤ 64 * (Dv + 10) by omega)⟩) hE hw rfl rfl ho rfl hl.1.1 rfl (c1_8 c1_n (Nat.le_of_ble_eq_true rfl)) d13_3_125 (fun H locs cells slots hw => ?_)
      clear hc ho u9
      refine W.eq (g2 := F0 m 128 ls [va_rf x36]) rfl ?_
      cases h
      exact finH_q hQ hx hb hr hlk rfl (Or.inl ⟨_, rfl⟩) hE hw d13_3_128
    replace h := (if_neg n35c).symm.trans h
    by_cases n39c : x20 = (116 : Int32)
    ·
      replace h := (if_pos n39c).symm.trans h
      refine W.eq (g2 := F0 m 33 ls [.int 116]) (by rw [n39c]) ?_
      refine lv_lookup (tgt := 129) (off := 96) hx hb d13_3_33 (by decide) (by decide) rfl ?_
      refine lv_aload_n hx hb d13_3_129 rfl (lv_at hl.1 0 rfl) ?_
      refine xq_aload_n (r := a0) hx hb d13_3_130 rfl (lv_at hl.1 1 rfl) ?_
      refine va_ldcS hx hb hown (hZ.2.2.1 ("PagedValues$ValueParser", 67, "true", 21) (List.mem_of_getElem? (i := 6) rfl)) d13_3_131 ?_
      refine W.eq (g2 := F0 m 133 ls [.ref (Zd 21), va_rf a0, .ref o]) rfl ?_
      refine va_gets (ref := "PagedValues$Kind") hx hb (hZ.2.1.1.1 1 (by decide)).1 hw.2.2.2 hown (hts _ (List.mem_cons_of_mem _ k649)) (fun _ h9 => h9) d13_3_133 ?_
      refine W.eq (g2 := F0 m 136 ls [.ref (Zd 9), .ref (Zd 21), va_rf a0, .ref o]) rfl ?_
      obtain ⟨u9, ho, h⟩ := ob h
      obtain ⟨⟨x40, st41⟩, hc, h⟩ := ob h
      refine hV_q (ci := 3) (As := [va_rf a0, .ref (Zd 21), .ref (Zd 9)]) (rest := []) ⟨hx, hb, hml, hown, hts⟩ (cc_ValueParser_word l G Zd K o a0 (some (Zd 21)) (some (Zd 9)) st19 x40 st41 hc) (kw_V (n := 3) hts k624 k621 k7 k623 ks5 (by decide +kernel) ⟨(show 4 + 1 ≤ Dv + 10 by omega), (show 8 + (5 + 11) + 64 * (4) ≤ 64 * (Dv + 10) by omega)⟩) hE hw rfl rfl ho rfl hl.1.1 rfl (c1_8 c1_n (Nat.le_of_ble_eq_true rfl)) d13_3_136 (fun H locs cells slots hw => ?_)
      clear hc ho u9
      refine W.eq (g2 := F0 m 139 ls [va_rf x40]) rfl ?_
      cases h
      exact finH_q hQ hx hb hr hlk rfl (Or.inl ⟨_, rfl⟩) hE hw d13_3_139
    replace h := (if_neg n39c).symm.trans h
    by_cases n43c : x20 = (123 : Int32)
    ·
      replace h := (if_pos n43c).symm.trans h
      refine W.eq (g2 := F0 m 33 ls [.int 123]) (by rw [n43c]) ?_
      refine lv_lookup (tgt := 102) (off := 69) hx hb d13_3_33 (by decide) (by decide) rfl ?_
      refine lv_aload_n hx hb d13_3_102 rfl (lv_at hl.1 0 rfl) ?_
      refine xq_aload_n (r := a0) hx hb d13_3_103 rfl (lv_at hl.1 1 rfl) ?_
      refine lv_iload_n hx hb d13_3_104 rfl (lv_at hl.1 2 rfl) ?_
      refine va_gets (ref := "PagedValues$Kind") hx hb (hZ.2.1.1.1 6 (by decide)).1 hw.2.2.2 hown (hts _ (List.mem_cons_of_mem _ k611)) (fun _ h9 => h9) d13_3_105 ?_
      refine W.eq (g2 := F0 m 108 ls [.ref (Zd 14), .int a1, va_rf a0, .ref o]) rfl ?_
      obtain ⟨u9, ho, h⟩ := ob h
      obtain ⟨⟨x44, st45⟩, hc, h⟩ := ob h
      refine hV_q (ci := 3) (As := [va_rf a0, .int a1, .ref (Zd 14)]) (rest := []) ⟨hx, hb, hml, hown, hts⟩ (cc_ValueParser_container l G Zd K fv Dv hv o a0 a1 (some (Zd 14)) st19 x44 st45 hc) (kw_V (n := 3) hts k340 k337 k7 k339 ks1 (by decide +kernel) ⟨(show Dv + 9 + 1 ≤ Dv + 10 by omega), (show 8 + (8 + 11) + 64 * (Dv + 9) ≤ 64 * (Dv + 10) by omega)⟩) hE hw rfl rfl ho rfl hl.1.1 rfl (c1_8 c1_n (Nat.le_of_ble_eq_true rfl)) d13_3_108 (fun H locs cells slots hw => ?_)
      clear hc ho u9
      refine W.eq (g2 := F0 m 111 ls [va_rf x44]) rfl ?_
      cases h
      exact finH_q hQ hx hb hr hlk rfl (Or.inl ⟨_, rfl⟩) hE hw d13_3_111
    replace h := (if_neg n43c).symm.trans h
    refine lv_lookup (tgt := 151) (off := 118) hx hb d13_3_33 (by decide) (lk_c 34 (by decide) n23c (lk_c 91 (by decide) n27c (lk_c 102 (by decide) n31c (lk_c 110 (by decide) n35c (lk_c 116 (by decide) n39c (lk_c 123 (by decide) n43c rfl)))))) rfl ?_
    refine lv_aload_n hx hb d13_3_151 rfl (lv_at hl.1 0 rfl) ?_
    refine xq_aload_n (r := a0) hx hb d13_3_152 rfl (lv_at hl.1 1 rfl) ?_
    obtain ⟨u9, ho, h⟩ := ob h
    obtain ⟨⟨x47, st48⟩, hc, h⟩ := ob h
    refine hV_q (ci := 3) (As := [va_rf a0]) (rest := []) ⟨hx, hb, hml, hown, hts⟩ (cc_ValueParser_number l G Zd K o a0 st19 x47 st48 hc) (kw_V (n := 1) hts k657 k654 k7 k656 ks6 (by decide +kernel) ⟨(show 2 + 1 ≤ Dv + 10 by omega), (show 8 + (4 + 11) + 64 * (2) ≤ 64 * (Dv + 10) by omega)⟩) hE hw rfl rfl ho rfl hl.1.1 rfl (c1_8 c1_n (Nat.le_of_ble_eq_true rfl)) d13_3_153 (fun H locs cells slots hw => ?_)
    clear hc ho u9
    refine W.eq (g2 := F0 m 156 ls [va_rf x47]) rfl ?_
    cases h
    exact finH_q hQ hx hb hr hlk rfl (Or.inl ⟨_, rfl⟩) hE hw d13_3_156
  ·
    replace h := (if_neg c16).symm.trans h
    refine xq_aload_n (r := a0) hx hb d13_3_13 rfl (lv_at hl.1 1 rfl) ?_
    refine W.eq (g2 := F0 m 14 ls [.ref a11z]) (by rw [hn11]; rfl) ?_
    obtain ⟨u9, ho, h⟩ := ob h
    obtain ⟨st51, hc, h⟩ := ob h
    refine hV_v (ci := 1) (As := []) (rest := []) ⟨hx, hb, hml, hown, hts⟩ (cc_Text_fail l G Zd K a11z st13 st51 hc) (kw_V (n := 0) hts k333 k330 k2 k331 k332 (by decide +kernel) ⟨(show 0 + 1 ≤ Dv + 10 by omega), (show 8 + (1 + 11) + 64 * (0) ≤ 64 * (Dv + 10) by omega)⟩) hE hw rfl rfl ho rfl hl.1.1 rfl (c1_8 c1_n (Nat.le_of_ble_eq_true rfl)) d13_3_14 (fun H locs cells slots hw => ?_)
    clear hc ho u9
    refine W.eq (g2 := F0 m 17 ls []) rfl ?_
    refine lv_null hx hb d13_3_17 ?_
    cases h
    exact finH_q hQ hx hb hr hlk rfl (Or.inl ⟨_, rfl⟩) hE hw d13_3_18
def c_ValueParser_value (Zd : Nat → Nat) (K : KE) : Nat → Nat → Option Nat → Int32 → CS → Option (Option Nat × CS)
  | 0 => fun _ _ _ _ => none
  | d9 + 1 => c_ValueParser_value_b Zd K (c_ValueParser_value Zd K d9)
theorem cc_ValueParser_value (l : Launch) (G : Gk) (Zd : Nat → Nat) (K : KE) : ∀ (d9 : Nat) (o : Nat) (a0 : Option Nat) (a1 : Int32) (st : CS) (r0 : Option Nat) (st0 : CS) , c_ValueParser_value Zd K d9 o a0 a1 st = some (r0, st0) → CT l y13_3 prog_13_method_3_code 3 (some (.object "PagedValues$Value")) G Zd K (10 * d9) [.ref o, va_rf a0, .int a1] st (hQ G Zd r0 st0) := by
  intro d9
  induction d9 with
  | zero =>
    intro  o a0 a1 st r0 st0 hm
    have h9 : (none : Option (Option Nat × CS)) = some (r0, st0) := hm
    cases h9
  | succ d9 ih =>
    intro  o a0 a1 st r0 st0 hm
    rw [Nat.mul_succ]
    exact cc_ValueParser_value_b l G Zd K (c_ValueParser_value Zd K d9) (10 * d9) ih o a0 a1 st r0 st0 hm
def c_ValueParser_parse (Zd : Nat → Nat) (K : KE) (o : Nat) (a0 : Option Nat) (st : CS) : Option (Option Nat × CS) := (sF st o 3 0 (.int 0)).bind fun st11 => a0.bind fun a12z => (isO K st11 a12z 1).bind fun _ => (c_Text_begin Zd K a12z st11).bind fun st14 => (isO K st14 o 3).bind fun _ => (c_ValueParser_value Zd K 6 o a0 (0 : Int32) st14).bind fun r18 => (isO K r18.2 a12z 1).bind fun _ => (c_Text_skipBlanks Zd K a12z r18.2).bind fun st20 => (isO K st20 a12z 1).bind fun _ => (c_Text_atEnd Zd K a12z st20).bind fun x22 => (if x22 = (0 : Int32) then ((isO K st20 a12z 1).bind fun _ => (c_Text_fail Zd K a12z st20).bind fun st35 => some st35) else (some st20)).bind fun e25 => (isO K e25 a12z 1).bind fun _ => (c_Text_isRight Zd K a12z e25).bind fun x27 => (if x27 = (0 : Int32) then (some none) else (some r18.1)).bind fun e30 => some (e30, e25)
set_option maxHeartbeats 4000000 in
set_option maxRecDepth 100000 in
theorem cc_ValueParser_parse (l : Launch) (G : Gk) (Zd : Nat → Nat) (K : KE) (o : Nat) (a0 : Option Nat) (st : CS) (r0 : Option Nat) (st0 : CS) (hm : c_ValueParser_parse Zd K o a0 st = some (r0, st0)) : CT l y13_2 prog_13_method_2_code 3 (some (.object "PagedValues$Value")) G Zd K (61) [.ref o, va_rf a0] st (hQ G Zd r0 st0) := by
  refine goH (d := 61) (y := y13_2) (cc := prog_13_method_2_code) (maxL := 3) (ret := (some (.object "PagedValues$Value"))) (av := [.ref o, va_rf a0]) (Qc := hQ G Zd r0 st0) "PagedValues$ValueParser" rfl (by decide) (c1_c rfl (c1_c (rf_cat _) c1_n)) (Nat.le_of_ble_eq_true rfl) ?_
  intro p e s m below meth c ls A args Q hQ hx hb hr hlk hml hown hts hin hl hE hw
  have hl : lw ls 3 [(0, .ref o), (1, va_rf a0)] := hl
  have hZ := hE.2.2.1
  have h := hm
  clear hm
  refine lv_aload_n hx hb d13_2_0 rfl (lv_at hl.1 0 rfl) ?_
  refine lv_iconst (v := 0) hx hb d13_2_1 (by decide) ?_
  obtain ⟨st11, hr, h⟩ := ob h
  refine xp (ci := 3) (ty := .int) (C := r_3) (T := f_3) (N := 1) (ref := "PagedValues$ValueParser") hx hb hts (fun w h => List.mem_cons_of_mem _ (ly_3 w h)) ft_3 ft_3_ok nm_3 hown hE hw rfl 0 (by decide) (hts _ (List.mem_cons_of_mem _ k100)) (fun _ h9 => h9) rfl hr (by decide +kernel) rfl rfl d13_2_2 (fun H locs hw => ?_)
  clear hr
  refine xq_aload_n (r := a0) hx hb d13_2_5 rfl (lv_at hl.1 1 rfl) ?_
  obtain ⟨a12z, hn12, h⟩ := ob h
  have hn12 : a0 = some a12z := hn12
  refine W.eq (g2 := F0 m 6 ls [.ref a12z]) (by rw [hn12]; rfl) ?_
  obtain ⟨u9, ho, h⟩ := ob h
  obtain ⟨st14, hc, h⟩ := ob h
  refine hV_v (ci := 1) (As := []) (rest := []) ⟨hx, hb, hml, hown, hts⟩ (cc_Text_begin l G Zd K a12z st11 st14 hc) (kw_V (n := 0) hts k314 k311 k2 k312 k313 (by decide +kernel) ⟨Nat.le_of_ble_eq_true rfl, Nat.le_of_ble_eq_true rfl⟩) hE hw rfl rfl ho rfl hl.1.1 rfl (c1_8 c1_n (Nat.le_of_ble_eq_true rfl)) d13_2_6 (fun H locs cells slots hw => ?_)
  clear hc ho u9
  refine W.eq (g2 := F0 m 9 ls []) rfl ?_
  refine lv_aload_n hx hb d13_2_9 rfl (lv_at hl.1 0 rfl) ?_
  refine xq_aload_n (r := a0) hx hb d13_2_10 rfl (lv_at hl.1 1 rfl) ?_
  refine lv_iconst (v := 0) hx hb d13_2_11 (by decide) ?_
  obtain ⟨u9, ho, h⟩ := ob h
  obtain ⟨⟨x16, st17⟩, hc, h⟩ := ob h
  refine hV_q (ci := 3) (As := [va_rf a0, .int 0]) (rest := []) ⟨hx, hb, hml, hown, hts⟩ (cc_ValueParser_value l G Zd K 6 o a0 (0 : Int32) st14 x16 st17 hc) (kw_V (n := 2) hts k318 k315 k7 k317 ks0 (by decide +kernel) ⟨Nat.le_of_ble_eq_true rfl, Nat.le_of_ble_eq_true rfl⟩) hE hw rfl rfl ho rfl hl.1.1 rfl (c1_8 c1_n (Nat.le_of_ble_eq_true rfl)) d13_2_12 (fun H locs cells slots hw => ?_)
  clear hc ho u9
  refine W.eq (g2 := F0 m 15 ls [va_rf x16]) rfl ?_
  refine xt_astore_n (r := x16) (lv' := [(2, va_rf x16), (0, .ref o), (1, va_rf a0)]) hx hb d13_2_15 rfl hl (by decide) rfl (fun ls hl => ?_)
  refine xq_aload_n (r := a0) hx hb d13_2_16 rfl (lv_at hl.1 2 rfl) ?_
  refine W.eq (g2 := F0 m 17 ls [.ref a12z]) (by rw [hn12]; rfl) ?_
  obtain ⟨u9, ho, h⟩ := ob h
  obtain ⟨st20, hc, h⟩ := ob h
  refine hV_v (ci := 1) (As := []) (rest := []) ⟨hx, hb, hml, hown, hts⟩ (cc_Text_skipBlanks l G Zd K a12z st17 st20 hc) (kw_V (n := 0) hts k322 k319 k2 k320 k321 (by decide +kernel) ⟨Nat.le_of_ble_eq_true rfl, Nat.le_of_ble_eq_true rfl⟩) hE hw rfl rfl ho rfl hl.1.1 rfl (c1_8 c1_n (Nat.le_of_ble_eq_true rfl)) d13_2_17 (fun H locs cells slots hw => ?_)
  clear hc ho u9
  refine W.eq (g2 := F0 m 20 ls []) rfl ?_
  refine xq_aload_n (r := a0) hx hb d13_2_20 rfl (lv_at hl.1 2 rfl) ?_
  refine W.eq (g2 := F0 m 21 ls [.ref a12z]) (by rw [hn12]; rfl) ?_
  obtain ⟨u9, ho, h⟩ := ob h
  obtain ⟨x22, hc, h⟩ := ob h
  refine hV_i (ci := 1) (As := []) (rest := []) ⟨hx, hb, hml, hown, hts⟩ (cc_Text_atEnd l G Zd K a12z st20 x22 hc) (kw_V (n := 0) hts k670 k667 k2 k668 k669 (by decide +kernel) ⟨Nat.le_of_ble_eq_true rfl, Nat.le_of_ble_eq_true rfl⟩) hE hw rfl rfl ho rfl hl.1.1 rfl (c1_8 c1_n (Nat.le_of_ble_eq_true rfl)) d13_2_21 (fun H locs cells slots hw => ?_)
  clear hc ho u9
  refine W.eq (g2 := F0 m 24 ls [.int x22]) rfl ?_
  obtain ⟨e25, hX, h⟩ := ob h
  have hj : ∀ (H : Heap) (locs : List Loc) (cells slots : Nat) (ls : Array Slot), lw ls 3 [(0, .ref o), (1, va_rf a0), (2, va_rf x16)] → wsH G Zd A s e25 H locs → W p l e (rmH Zd (61) st.1) s m args below meth c H locs cells slots Q (F0 m 31 ls []) := by
    intro H locs cells slots ls hl hw
    refine xq_aload_n (r := a0) hx hb d13_2_31 rfl (lv_at hl.1 1 rfl) ?_
    refine W.eq (g2 := F0 m 32 ls [.ref a12z]) (by rw [hn12]; rfl) ?_
    obtain ⟨u9, ho, h⟩ := ob h
    obtain ⟨x27, hc, h⟩ := ob h
    refine hV_i (ci := 1) (As := []) (rest := []) ⟨hx, hb, hml, hown, hts⟩ (cc_Text_isRight l G Zd K a12z e25 x27 hc) (kw_V (n := 0) hts k580 k577 k2 k578 k579 (by decide +kernel) ⟨Nat.le_of_ble_eq_true rfl, Nat.le_of_ble_eq_true rfl⟩) hE hw rfl rfl ho rfl hl.1.1 rfl (c1_8 c1_n (Nat.le_of_ble_eq_true rfl)) d13_2_32 (fun H locs cells slots hw => ?_)
    clear hc ho u9
    refine W.eq (g2 := F0 m 35 ls [.int x27]) rfl ?_
    obtain ⟨e30, hX, h⟩ := ob h
    have hj : ∀ (H : Heap) (locs : List Loc) (cells slots : Nat) (ls : Array Slot), lw ls 3 [(0, .ref o), (1, va_rf a0), (2, va_rf x16)] → wsH G Zd A s e25 H locs → W p l e (rmH Zd (61) st.1) s m args below meth c H locs cells slots Q (F0 m 43 ls [va_rf e30]) := by
      intro H locs cells slots ls hl hw
      cases h
      exact finH_q hQ hx hb hr hlk rfl (Or.inl ⟨_, rfl⟩) hE hw d13_2_43
    clear h
    refine lv_if_eq (tgt := 42) hx hb d13_2_35 rfl (fun c32 => ?_) (fun c32 => ?_)
    ·
      replace h := (if_pos c32).symm.trans hX
      refine lv_null hx hb d13_2_42 ?_
      have e9 := Option.some.inj h
      subst e30
      have hl := lw_sub hl (l' := [(0, .ref o), (1, va_rf a0), (2, va_rf x16)]) [0, 1, 2] rfl
      exact hj _ _ _ _ _ hl hw
    ·
      replace h := (if_neg c32).symm.trans hX
      refine xq_aload_n (r := x16) hx hb d13_2_38 rfl (lv_at hl.1 2 rfl) ?_
      refine lv_goto (tgt := 43) hx hb d13_2_39 rfl ?_
      have e9 := Option.some.inj h
      subst e30
      have hl := lw_sub hl (l' := [(0, .ref o), (1, va_rf a0), (2, va_rf x16)]) [0, 1, 2] rfl
      exact hj _ _ _ _ _ hl hw
  clear h
  refine lv_if_ne (tgt := 31) hx hb d13_2_24 rfl (fun c33 => ?_) (fun c33 => ?_)
  ·
    replace h := (if_neg c33).symm.trans hX
    have e9 := Option.some.inj h
    subst e25
    have hl := lw_sub hl (l' := [(0, .ref o), (1, va_rf a0), (2, va_rf x16)]) [1, 2, 0] rfl
    exact hj _ _ _ _ _ hl hw
  ·
    replace h := (if_pos c33).symm.trans hX
    refine xq_aload_n (r := a0) hx hb d13_2_27 rfl (lv_at hl.1 2 rfl) ?_
    refine W.eq (g2 := F0 m 28 ls [.ref a12z]) (by rw [hn12]; rfl) ?_
    obtain ⟨u9, ho, h⟩ := ob h
    obtain ⟨st35, hc, h⟩ := ob h
    refine hV_v (ci := 1) (As := []) (rest := []) ⟨hx, hb, hml, hown, hts⟩ (cc_Text_fail l G Zd K a12z st20 st35 hc) (kw_V (n := 0) hts k333 k330 k2 k331 k332 (by decide +kernel) ⟨Nat.le_of_ble_eq_true rfl, Nat.le_of_ble_eq_true rfl⟩) hE hw rfl rfl ho rfl hl.1.1 rfl (c1_8 c1_n (Nat.le_of_ble_eq_true rfl)) d13_2_28 (fun H locs cells slots hw => ?_)
    clear hc ho u9
    refine W.eq (g2 := F0 m 31 ls []) rfl ?_
    have e9 := Option.some.inj h
    subst e25
    have hl := lw_sub hl (l' := [(0, .ref o), (1, va_rf a0), (2, va_rf x16)]) [1, 2, 0] rfl
    exact hj _ _ _ _ _ hl hw
theorem d6_2_0 : decode prog_6_method_2_code 0 = .ok (.aload_n 1, 1) := by decide +kernel
theorem d6_2_1 : decode prog_6_method_2_code 1 = .ok (.invokestatic 18, 3) := by decide +kernel
theorem d6_3_0 : decode prog_6_method_3_code 0 = .ok (.aload_n 0, 1) := by decide +kernel
theorem d6_3_1 : decode prog_6_method_3_code 1 = .ok (.getfield 48, 3) := by decide +kernel
theorem kn350 : (Jvm.Cond.fieldLinkNest "PagedValues$Patcher" (48 : Nat) "PagedValues$Value" "kind" "LPagedValues$Kind;" "PagedValues") ∈ NW := tn_2 110 rfl rfl
theorem d6_3_4 : decode prog_6_method_3_code 4 = .ok (.getstatic 52, 3) := by decide +kernel
theorem k754 : (Jvm.Cond.fieldLink "PagedValues$Patcher" (52 : Nat) "PagedValues$Kind" "ARRAY" "LPagedValues$Kind;") ∈ TB := tk_4 34 rfl rfl
theorem d6_3_7 : decode prog_6_method_3_code 7 = .ok (.if_acmp .eq 5, 3) := by decide +kernel
theorem d6_3_12 : decode prog_6_method_3_code 12 = .ok (.aload_n 0, 1) := by decide +kernel
theorem d6_3_13 : decode prog_6_method_3_code 13 = .ok (.getfield 32, 3) := by decide +kernel
theorem kn359 : (Jvm.Cond.fieldLinkNest "PagedValues$Patcher" (32 : Nat) "PagedValues$Value" "first" "LPagedValues$Value;" "PagedValues") ∈ NW := tn_2 119 rfl rfl
theorem d6_3_16 : decode prog_6_method_3_code 16 = .ok (.astore_n 1, 1) := by decide +kernel
theorem d6_3_38 : decode prog_6_method_3_code 38 = .ok (.iconst 1, 1) := by decide +kernel
theorem d6_3_39 : decode prog_6_method_3_code 39 = .ok (.ireturn, 1) := by decide +kernel
theorem d6_3_17 : decode prog_6_method_3_code 17 = .ok (.aload_n 1, 1) := by decide +kernel
theorem d6_3_18 : decode prog_6_method_3_code 18 = .ok (.ifnull 20, 3) := by decide +kernel
theorem d6_3_21 : decode prog_6_method_3_code 21 = .ok (.aload_n 1, 1) := by decide +kernel
theorem d6_3_22 : decode prog_6_method_3_code 22 = .ok (.invokestatic 57, 3) := by decide +kernel
theorem d6_4_0 : decode prog_6_method_4_code 0 = .ok (.aload_n 0, 1) := by decide +kernel
theorem d6_4_1 : decode prog_6_method_4_code 1 = .ok (.ldc 60, 2) := by decide +kernel
theorem d6_4_3 : decode prog_6_method_4_code 3 = .ok (.invokestatic 62, 3) := by decide +kernel
theorem d6_5_0 : decode prog_6_method_5_code 0 = .ok (.aload_n 0, 1) := by decide +kernel
theorem d6_5_1 : decode prog_6_method_5_code 1 = .ok (.aload_n 1, 1) := by decide +kernel
theorem d6_5_2 : decode prog_6_method_5_code 2 = .ok (.invokevirtual 84, 3) := by decide +kernel
theorem k762 : (Jvm.Cond.methodLink "PagedValues$Patcher" (84 : Nat) ({ cls := "PagedValues$Value", name := "member", desc := "(Ljava/lang/String;)LPagedValues$Value;" } : Jvm.MethodName)) ∈ TB := tk_4 42 rfl rfl
theorem d6_5_5 : decode prog_6_method_5_code 5 = .ok (.astore_n 2, 1) := by decide +kernel
theorem d6_5_6 : decode prog_6_method_5_code 6 = .ok (.aload_n 2, 1) := by decide +kernel
theorem d6_5_7 : decode prog_6_method_5_code 7 = .ok (.ifnull 17, 3) := by decide +kernel
theorem d6_5_24 : decode prog_6_method_5_code 24 = .ok (.iconst 0, 1) := by decide +kernel
theorem d6_5_10 : decode prog_6_method_5_code 10 = .ok (.aload_n 2, 1) := by decide +kernel
theorem d6_5_11 : decode prog_6_method_5_code 11 = .ok (.getfield 48, 3) := by decide +kernel
theorem d6_5_14 : decode prog_6_method_5_code 14 = .ok (.getstatic 94, 3) := by decide +kernel
theorem k763 : (Jvm.Cond.fieldLink "PagedValues$Patcher" (94 : Nat) "PagedValues$Kind" "STRING" "LPagedValues$Kind;") ∈ TB := tk_4 43 rfl rfl
theorem d6_5_17 : decode prog_6_method_5_code 17 = .ok (.if_acmp .ne 7, 3) := by decide +kernel
theorem d6_5_20 : decode prog_6_method_5_code 20 = .ok (.iconst 1, 1) := by decide +kernel
theorem d6_5_21 : decode prog_6_method_5_code 21 = .ok (.goto 4, 3) := by decide +kernel
theorem d6_5_25 : decode prog_6_method_5_code 25 = .ok (.ireturn, 1) := by decide +kernel
def y6_5 : MethodName := { cls := "PagedValues$Patcher", name := "hasString", desc := "(LPagedValues$Value;Ljava/lang/String;)Z" }
theorem k761 : (Jvm.Cond.code ({ cls := "PagedValues$Patcher", name := "hasString", desc := "(LPagedValues$Value;Ljava/lang/String;)Z" } : Jvm.MethodName) prog_6_method_5_code (3 : Nat) (Option.some Jvm.ClassFile.FieldType.boolean)) ∈ TB := tk_4 41 rfl rfl
theorem k759 : (Jvm.Cond.methodLink "PagedValues$Patcher" (62 : Nat) ({ cls := "PagedValues$Patcher", name := "hasString", desc := "(LPagedValues$Value;Ljava/lang/String;)Z" } : Jvm.MethodName)) ∈ TB := tk_4 39 rfl rfl
theorem k760 : (Jvm.Cond.static ({ cls := "PagedValues$Patcher", name := "hasString", desc := "(LPagedValues$Value;Ljava/lang/String;)Z" } : Jvm.MethodName)) ∈ TB := tk_4 40 rfl rfl
theorem d6_4_6 : decode prog_6_method_4_code 6 = .ok (.ifCond .eq 12, 3) := by decide +kernel
theorem d6_4_18 : decode prog_6_method_4_code 18 = .ok (.iconst 0, 1) := by decide +kernel
theorem d6_4_19 : decode prog_6_method_4_code 19 = .ok (.ireturn, 1) := by decide +kernel
theorem d6_4_9 : decode prog_6_method_4_code 9 = .ok (.aload_n 0, 1) := by decide +kernel
theorem d6_4_10 : decode prog_6_method_4_code 10 = .ok (.ldc 66, 2) := by decide +kernel
theorem d6_4_12 : decode prog_6_method_4_code 12 = .ok (.invokestatic 62, 3) := by decide +kernel
theorem d6_4_15 : decode prog_6_method_4_code 15 = .ok (.ifCond .ne 5, 3) := by decide +kernel
theorem d6_4_20 : decode prog_6_method_4_code 20 = .ok (.aload_n 0, 1) := by decide +kernel
theorem d6_4_21 : decode prog_6_method_4_code 21 = .ok (.ldc 60, 2) := by decide +kernel
theorem d6_4_23 : decode prog_6_method_4_code 23 = .ok (.invokestatic 68, 3) := by decide +kernel
theorem d6_6_0 : decode prog_6_method_6_code 0 = .ok (.aload_n 0, 1) := by decide +kernel
theorem d6_6_1 : decode prog_6_method_6_code 1 = .ok (.aload_n 1, 1) := by decide +kernel
theorem d6_6_2 : decode prog_6_method_6_code 2 = .ok (.invokevirtual 84, 3) := by decide +kernel
theorem d6_6_5 : decode prog_6_method_6_code 5 = .ok (.astore_n 2, 1) := by decide +kernel
theorem d6_6_6 : decode prog_6_method_6_code 6 = .ok (.aload_n 2, 1) := by decide +kernel
theorem d6_6_7 : decode prog_6_method_6_code 7 = .ok (.ifnonnull 8, 3) := by decide +kernel
theorem d6_6_10 : decode prog_6_method_6_code 10 = .ok (.ldc 97, 2) := by decide +kernel
theorem d6_6_12 : decode prog_6_method_6_code 12 = .ok (.goto 7, 3) := by decide +kernel
theorem d6_6_15 : decode prog_6_method_6_code 15 = .ok (.aload_n 2, 1) := by decide +kernel
theorem d6_6_16 : decode prog_6_method_6_code 16 = .ok (.getfield 99, 3) := by decide +kernel
theorem kn354 : (Jvm.Cond.fieldLinkNest "PagedValues$Patcher" (99 : Nat) "PagedValues$Value" "characters" "Ljava/lang/String;" "PagedValues") ∈ NW := tn_2 114 rfl rfl
theorem d6_6_19 : decode prog_6_method_6_code 19 = .ok (.areturn, 1) := by decide +kernel
def y6_6 : MethodName := { cls := "PagedValues$Patcher", name := "stringOf", desc := "(LPagedValues$Value;Ljava/lang/String;)Ljava/lang/String;" }
theorem k767 : (Jvm.Cond.code ({ cls := "PagedValues$Patcher", name := "stringOf", desc := "(LPagedValues$Value;Ljava/lang/String;)Ljava/lang/String;" } : Jvm.MethodName) prog_6_method_6_code (3 : Nat) (Option.some (Jvm.ClassFile.FieldType.object "java/lang/String"))) ∈ TB := tk_4 47 rfl rfl
theorem k765 : (Jvm.Cond.methodLink "PagedValues$Patcher" (68 : Nat) ({ cls := "PagedValues$Patcher", name := "stringOf", desc := "(LPagedValues$Value;Ljava/lang/String;)Ljava/lang/String;" } : Jvm.MethodName)) ∈ TB := tk_4 45 rfl rfl
theorem k766 : (Jvm.Cond.static ({ cls := "PagedValues$Patcher", name := "stringOf", desc := "(LPagedValues$Value;Ljava/lang/String;)Ljava/lang/String;" } : Jvm.MethodName)) ∈ TB := tk_4 46 rfl rfl
theorem d6_4_26 : decode prog_6_method_4_code 26 = .ok (.astore_n 1, 1) := by decide +kernel
theorem d6_4_27 : decode prog_6_method_4_code 27 = .ok (.aload_n 1, 1) := by decide +kernel
theorem d6_4_28 : decode prog_6_method_4_code 28 = .ok (.ldc 72, 2) := by decide +kernel
theorem d6_4_30 : decode prog_6_method_4_code 30 = .ok (.invokevirtual 74, 3) := by decide +kernel
theorem k770 : (Jvm.Cond.methodLink "PagedValues$Patcher" (74 : Nat) ({ cls := "java/lang/String", name := "equals", desc := "(Ljava/lang/Object;)Z" } : Jvm.MethodName)) ∈ TB := tk_4 50 rfl rfl
theorem d6_4_33 : decode prog_6_method_4_code 33 = .ok (.ifCond .ne 12, 3) := by decide +kernel
theorem d6_4_45 : decode prog_6_method_4_code 45 = .ok (.aload_n 0, 1) := by decide +kernel
theorem d6_4_46 : decode prog_6_method_4_code 46 = .ok (.ldc 82, 2) := by decide +kernel
theorem d6_4_48 : decode prog_6_method_4_code 48 = .ok (.invokevirtual 84, 3) := by decide +kernel
theorem d6_4_51 : decode prog_6_method_4_code 51 = .ok (.ifnull 7, 3) := by decide +kernel
theorem d6_4_58 : decode prog_6_method_4_code 58 = .ok (.iconst 0, 1) := by decide +kernel
theorem d6_4_54 : decode prog_6_method_4_code 54 = .ok (.iconst 1, 1) := by decide +kernel
theorem d6_4_55 : decode prog_6_method_4_code 55 = .ok (.goto 4, 3) := by decide +kernel
theorem d6_4_59 : decode prog_6_method_4_code 59 = .ok (.ireturn, 1) := by decide +kernel
theorem d6_4_36 : decode prog_6_method_4_code 36 = .ok (.aload_n 1, 1) := by decide +kernel
theorem d6_4_37 : decode prog_6_method_4_code 37 = .ok (.ldc 80, 2) := by decide +kernel
theorem d6_4_39 : decode prog_6_method_4_code 39 = .ok (.invokevirtual 74, 3) := by decide +kernel
theorem d6_4_42 : decode prog_6_method_4_code 42 = .ok (.ifCond .eq 18, 3) := by decide +kernel
theorem d6_4_60 : decode prog_6_method_4_code 60 = .ok (.aload_n 1, 1) := by decide +kernel
theorem d6_4_61 : decode prog_6_method_4_code 61 = .ok (.ldc 88, 2) := by decide +kernel
theorem d6_4_63 : decode prog_6_method_4_code 63 = .ok (.invokevirtual 74, 3) := by decide +kernel
theorem d6_4_66 : decode prog_6_method_4_code 66 = .ok (.ifCond .eq 10, 3) := by decide +kernel
theorem d6_4_76 : decode prog_6_method_4_code 76 = .ok (.aload_n 1, 1) := by decide +kernel
theorem d6_4_77 : decode prog_6_method_4_code 77 = .ok (.ldc 92, 2) := by decide +kernel
theorem d6_4_79 : decode prog_6_method_4_code 79 = .ok (.invokevirtual 74, 3) := by decide +kernel
theorem d6_4_82 : decode prog_6_method_4_code 82 = .ok (.ireturn, 1) := by decide +kernel
theorem d6_4_69 : decode prog_6_method_4_code 69 = .ok (.aload_n 0, 1) := by decide +kernel
theorem d6_4_70 : decode prog_6_method_4_code 70 = .ok (.ldc 90, 2) := by decide +kernel
theorem d6_4_72 : decode prog_6_method_4_code 72 = .ok (.invokestatic 62, 3) := by decide +kernel
theorem d6_4_75 : decode prog_6_method_4_code 75 = .ok (.ireturn, 1) := by decide +kernel
def y6_4 : MethodName := { cls := "PagedValues$Patcher", name := "isOperation", desc := "(LPagedValues$Value;)Z" }
theorem k757 : (Jvm.Cond.code ({ cls := "PagedValues$Patcher", name := "isOperation", desc := "(LPagedValues$Value;)Z" } : Jvm.MethodName) prog_6_method_4_code (2 : Nat) (Option.some Jvm.ClassFile.FieldType.boolean)) ∈ TB := tk_4 37 rfl rfl
theorem k755 : (Jvm.Cond.methodLink "PagedValues$Patcher" (57 : Nat) ({ cls := "PagedValues$Patcher", name := "isOperation", desc := "(LPagedValues$Value;)Z" } : Jvm.MethodName)) ∈ TB := tk_4 35 rfl rfl
theorem k756 : (Jvm.Cond.static ({ cls := "PagedValues$Patcher", name := "isOperation", desc := "(LPagedValues$Value;)Z" } : Jvm.MethodName)) ∈ TB := tk_4 36 rfl rfl
theorem d6_3_25 : decode prog_6_method_3_code 25 = .ok (.ifCond .ne 5, 3) := by decide +kernel
theorem d6_3_30 : decode prog_6_method_3_code 30 = .ok (.aload_n 1, 1) := by decide +kernel
theorem d6_3_31 : decode prog_6_method_3_code 31 = .ok (.getfield 45, 3) := by decide +kernel
theorem kn362 : (Jvm.Cond.fieldLinkNest "PagedValues$Patcher" (45 : Nat) "PagedValues$Value" "next" "LPagedValues$Value;" "PagedValues") ∈ NW := tn_2 122 rfl rfl
theorem d6_3_34 : decode prog_6_method_3_code 34 = .ok (.astore_n 1, 1) := by decide +kernel
theorem d6_3_35 : decode prog_6_method_3_code 35 = .ok (.goto (-18), 3) := by decide +kernel
theorem d6_3_28 : decode prog_6_method_3_code 28 = .ok (.iconst 0, 1) := by decide +kernel
theorem d6_3_29 : decode prog_6_method_3_code 29 = .ok (.ireturn, 1) := by decide +kernel
theorem d6_3_10 : decode prog_6_method_3_code 10 = .ok (.iconst 0, 1) := by decide +kernel
theorem d6_3_11 : decode prog_6_method_3_code 11 = .ok (.ireturn, 1) := by decide +kernel
def y6_3 : MethodName := { cls := "PagedValues$Patcher", name := "isList", desc := "(LPagedValues$Value;)Z" }
theorem k753 : (Jvm.Cond.code ({ cls := "PagedValues$Patcher", name := "isList", desc := "(LPagedValues$Value;)Z" } : Jvm.MethodName) prog_6_method_3_code (2 : Nat) (Option.some Jvm.ClassFile.FieldType.boolean)) ∈ TB := tk_4 33 rfl rfl
theorem k751 : (Jvm.Cond.methodLink "PagedValues$Patcher" (18 : Nat) ({ cls := "PagedValues$Patcher", name := "isList", desc := "(LPagedValues$Value;)Z" } : Jvm.MethodName)) ∈ TB := tk_4 31 rfl rfl
theorem k752 : (Jvm.Cond.static ({ cls := "PagedValues$Patcher", name := "isList", desc := "(LPagedValues$Value;)Z" } : Jvm.MethodName)) ∈ TB := tk_4 32 rfl rfl
