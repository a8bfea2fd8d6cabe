theorem d1_17_0 : decode prog_1_method_17_code 0 = .ok (.iload_n 0, 1) := by decide +kernel
theorem d1_17_1 : decode prog_1_method_17_code 1 = .ok (.ifCond .lt 13, 3) := by decide +kernel
theorem d1_17_14 : decode prog_1_method_17_code 14 = .ok (.iconst 0, 1) := by decide +kernel
theorem d1_17_15 : decode prog_1_method_17_code 15 = .ok (.ireturn, 1) := by decide +kernel
theorem d1_17_4 : decode prog_1_method_17_code 4 = .ok (.iload_n 0, 1) := by decide +kernel
theorem d1_17_5 : decode prog_1_method_17_code 5 = .ok (.bipush 8, 2) := by decide +kernel
theorem d1_17_7 : decode prog_1_method_17_code 7 = .ok (.if_icmp .ge 7, 3) := by decide +kernel
theorem d1_17_10 : decode prog_1_method_17_code 10 = .ok (.iconst 1, 1) := by decide +kernel
theorem d1_17_11 : decode prog_1_method_17_code 11 = .ok (.goto 4, 3) := by decide +kernel
def y1_17 : MethodName := { cls := "PagedValues", name := "isId", desc := "(I)Z" }
theorem d10_5_0 : decode prog_10_method_5_code 0 = .ok (.iload_n 1, 1) := by decide +kernel
theorem d10_5_1 : decode prog_10_method_5_code 1 = .ok (.iconst (-1), 1) := by decide +kernel
theorem d10_5_2 : decode prog_10_method_5_code 2 = .ok (.if_icmp .eq 11, 3) := by decide +kernel
theorem d10_5_13 : decode prog_10_method_5_code 13 = .ok (.iconst 1, 1) := by decide +kernel
theorem d10_5_14 : decode prog_10_method_5_code 14 = .ok (.goto 4, 3) := by decide +kernel
theorem d10_5_18 : decode prog_10_method_5_code 18 = .ok (.ireturn, 1) := by decide +kernel
theorem d10_5_5 : decode prog_10_method_5_code 5 = .ok (.aload_n 0, 1) := by decide +kernel
theorem d10_5_6 : decode prog_10_method_5_code 6 = .ok (.iload_n 1, 1) := by decide +kernel
theorem d10_5_7 : decode prog_10_method_5_code 7 = .ok (.invokevirtual 42, 3) := by decide +kernel
theorem d10_4_0 : decode prog_10_method_4_code 0 = .ok (.iload_n 1, 1) := by decide +kernel
theorem d10_4_1 : decode prog_10_method_4_code 1 = .ok (.ifCond .lt 21, 3) := by decide +kernel
theorem d10_4_22 : decode prog_10_method_4_code 22 = .ok (.iconst 0, 1) := by decide +kernel
theorem d10_4_23 : decode prog_10_method_4_code 23 = .ok (.ireturn, 1) := by decide +kernel
theorem d10_4_4 : decode prog_10_method_4_code 4 = .ok (.iload_n 1, 1) := by decide +kernel
theorem d10_4_5 : decode prog_10_method_4_code 5 = .ok (.iconst 3, 1) := by decide +kernel
theorem d10_4_6 : decode prog_10_method_4_code 6 = .ok (.if_icmp .ge 16, 3) := by decide +kernel
theorem d10_4_9 : decode prog_10_method_4_code 9 = .ok (.aload_n 0, 1) := by decide +kernel
theorem d10_4_10 : decode prog_10_method_4_code 10 = .ok (.getfield 24, 3) := by decide +kernel
theorem d10_4_13 : decode prog_10_method_4_code 13 = .ok (.iload_n 1, 1) := by decide +kernel
theorem d10_4_14 : decode prog_10_method_4_code 14 = .ok (.baload, 1) := by decide +kernel
theorem d10_4_15 : decode prog_10_method_4_code 15 = .ok (.ifCond .eq 7, 3) := by decide +kernel
def y10_4 : MethodName := { cls := "PagedValues$Store", name := "isOpen", desc := "(I)Z" }
theorem k887 : (Jvm.Cond.code ({ cls := "PagedValues$Store", name := "isOpen", desc := "(I)Z" } : Jvm.MethodName) prog_10_method_4_code (2 : Nat) (Option.some Jvm.ClassFile.FieldType.boolean)) ∈ TB := tk_4 167 rfl rfl
theorem k884 : (Jvm.Cond.methodLink "PagedValues$Store" (42 : Nat) ({ cls := "PagedValues$Store", name := "isOpen", desc := "(I)Z" } : Jvm.MethodName)) ∈ TB := tk_4 164 rfl rfl
theorem k885 : (Jvm.Cond.instanceMethod ({ cls := "PagedValues$Store", name := "isOpen", desc := "(I)Z" } : Jvm.MethodName)) ∈ TB := tk_4 165 rfl rfl
theorem k886 : (Jvm.Cond.selects "PagedValues$Store" ({ cls := "PagedValues$Store", name := "isOpen", desc := "(I)Z" } : Jvm.MethodName) ({ cls := "PagedValues$Store", name := "isOpen", desc := "(I)Z" } : Jvm.MethodName)) ∈ TB := tk_4 166 rfl rfl
theorem d10_5_10 : decode prog_10_method_5_code 10 = .ok (.ifCond .eq 7, 3) := by decide +kernel
theorem d10_5_17 : decode prog_10_method_5_code 17 = .ok (.iconst 0, 1) := by decide +kernel
def y10_5 : MethodName := { cls := "PagedValues$Store", name := "canRead", desc := "(I)Z" }
theorem d10_14_0 : decode prog_10_method_14_code 0 = .ok (.iload_n 1, 1) := by decide +kernel
theorem d10_14_1 : decode prog_10_method_14_code 1 = .ok (.iload_n 2, 1) := by decide +kernel
theorem d10_14_2 : decode prog_10_method_14_code 2 = .ok (.if_icmp .ne 5, 3) := by decide +kernel
theorem d10_14_7 : decode prog_10_method_14_code 7 = .ok (.aload_n 0, 1) := by decide +kernel
theorem d10_14_8 : decode prog_10_method_14_code 8 = .ok (.iload_n 1, 1) := by decide +kernel
theorem d10_14_9 : decode prog_10_method_14_code 9 = .ok (.iconst 0, 1) := by decide +kernel
theorem d10_14_10 : decode prog_10_method_14_code 10 = .ok (.invokevirtual 55, 3) := by decide +kernel
theorem d10_10_0 : decode prog_10_method_10_code 0 = .ok (.iload_n 1, 1) := by decide +kernel
theorem d10_10_1 : decode prog_10_method_10_code 1 = .ok (.iconst (-1), 1) := by decide +kernel
theorem d10_10_2 : decode prog_10_method_10_code 2 = .ok (.if_icmp .ne 7, 3) := by decide +kernel
theorem d10_10_5 : decode prog_10_method_10_code 5 = .ok (.iconst (-1), 1) := by decide +kernel
theorem d10_10_6 : decode prog_10_method_10_code 6 = .ok (.goto 14, 3) := by decide +kernel
theorem d10_10_20 : decode prog_10_method_10_code 20 = .ok (.ireturn, 1) := by decide +kernel
def y10_10 : MethodName := { cls := "PagedValues$Store", name := "leafOf", desc := "(II)I" }
theorem k694 : (Jvm.Cond.code ({ cls := "PagedValues$Store", name := "leafOf", desc := "(II)I" } : Jvm.MethodName) prog_10_method_10_code (3 : Nat) (Option.some Jvm.ClassFile.FieldType.int)) ∈ TB := tk_3 214 rfl rfl
theorem k691 : (Jvm.Cond.methodLink "PagedValues$Store" (55 : Nat) ({ cls := "PagedValues$Store", name := "leafOf", desc := "(II)I" } : Jvm.MethodName)) ∈ TB := tk_3 211 rfl rfl
theorem k693 : (Jvm.Cond.instanceMethod ({ cls := "PagedValues$Store", name := "leafOf", desc := "(II)I" } : Jvm.MethodName)) ∈ TB := tk_3 213 rfl rfl
theorem ks8 : Cond.selects y10_10.cls y10_10 y10_10 ∈ TB := List.mem_filter.mpr ⟨List.mem_append_left _ (List.mem_of_getElem? (i := 8) (by decide +kernel)), rfl⟩
theorem d10_14_13 : decode prog_10_method_14_code 13 = .ok (.iload_n 2, 1) := by decide +kernel
theorem d10_14_14 : decode prog_10_method_14_code 14 = .ok (.if_icmp .eq 13, 3) := by decide +kernel
theorem d10_14_17 : decode prog_10_method_14_code 17 = .ok (.aload_n 0, 1) := by decide +kernel
theorem d10_14_18 : decode prog_10_method_14_code 18 = .ok (.iload_n 1, 1) := by decide +kernel
theorem d10_14_19 : decode prog_10_method_14_code 19 = .ok (.iconst 1, 1) := by decide +kernel
theorem d10_14_20 : decode prog_10_method_14_code 20 = .ok (.invokevirtual 55, 3) := by decide +kernel
theorem d10_14_23 : decode prog_10_method_14_code 23 = .ok (.iload_n 2, 1) := by decide +kernel
theorem d10_14_24 : decode prog_10_method_14_code 24 = .ok (.if_icmp .ne 7, 3) := by decide +kernel
theorem d10_14_31 : decode prog_10_method_14_code 31 = .ok (.iconst 0, 1) := by decide +kernel
theorem d10_14_32 : decode prog_10_method_14_code 32 = .ok (.ireturn, 1) := by decide +kernel
def y10_14 : MethodName := { cls := "PagedValues$Store", name := "useUnder", desc := "(II)I" }
theorem d10_13_0 : decode prog_10_method_13_code 0 = .ok (.iconst 0, 1) := by decide +kernel
theorem d10_13_1 : decode prog_10_method_13_code 1 = .ok (.istore_n 2, 1) := by decide +kernel
theorem d10_13_2 : decode prog_10_method_13_code 2 = .ok (.iconst 0, 1) := by decide +kernel
theorem d10_13_3 : decode prog_10_method_13_code 3 = .ok (.istore_n 3, 1) := by decide +kernel
theorem d10_13_4 : decode prog_10_method_13_code 4 = .ok (.iload_n 3, 1) := by decide +kernel
theorem d10_13_5 : decode prog_10_method_13_code 5 = .ok (.iconst 2, 1) := by decide +kernel
theorem d10_13_6 : decode prog_10_method_13_code 6 = .ok (.if_icmp .ge 25, 3) := by decide +kernel
theorem d10_13_9 : decode prog_10_method_13_code 9 = .ok (.iload_n 2, 1) := by decide +kernel
theorem d10_13_10 : decode prog_10_method_13_code 10 = .ok (.aload_n 0, 1) := by decide +kernel
theorem d10_13_11 : decode prog_10_method_13_code 11 = .ok (.aload_n 0, 1) := by decide +kernel
theorem d10_13_12 : decode prog_10_method_13_code 12 = .ok (.getfield 21, 3) := by decide +kernel
theorem d10_13_15 : decode prog_10_method_13_code 15 = .ok (.iload_n 3, 1) := by decide +kernel
theorem d10_13_16 : decode prog_10_method_13_code 16 = .ok (.iaload, 1) := by decide +kernel
theorem d10_13_17 : decode prog_10_method_13_code 17 = .ok (.iload_n 1, 1) := by decide +kernel
theorem d10_13_18 : decode prog_10_method_13_code 18 = .ok (.invokevirtual 66, 3) := by decide +kernel
theorem k715 : (Jvm.Cond.code ({ cls := "PagedValues$Store", name := "useUnder", desc := "(II)I" } : Jvm.MethodName) prog_10_method_14_code (3 : Nat) (Option.some Jvm.ClassFile.FieldType.int)) ∈ TB := tk_3 235 rfl rfl
theorem k712 : (Jvm.Cond.methodLink "PagedValues$Store" (66 : Nat) ({ cls := "PagedValues$Store", name := "useUnder", desc := "(II)I" } : Jvm.MethodName)) ∈ TB := tk_3 232 rfl rfl
theorem k714 : (Jvm.Cond.instanceMethod ({ cls := "PagedValues$Store", name := "useUnder", desc := "(II)I" } : Jvm.MethodName)) ∈ TB := tk_3 234 rfl rfl
theorem ks11 : Cond.selects y10_14.cls y10_14 y10_14 ∈ TB := List.mem_filter.mpr ⟨List.mem_append_left _ (List.mem_of_getElem? (i := 11) (by decide +kernel)), rfl⟩
theorem d10_13_21 : decode prog_10_method_13_code 21 = .ok (.invokestatic 69, 3) := by decide +kernel
theorem kmax : Cond.code Lib.Math.max.name Lib.Math.max.code 2 (some .int) ∈ TB := tk_2 175 (by decide +kernel) (by decide +kernel)
theorem k716 : (Jvm.Cond.methodLink "PagedValues$Store" (69 : Nat) ({ cls := "java/lang/Math", name := "max", desc := "(II)I" } : Jvm.MethodName)) ∈ TB := tk_3 236 rfl rfl
theorem k414 : (Jvm.Cond.static ({ cls := "java/lang/Math", name := "max", desc := "(II)I" } : Jvm.MethodName)) ∈ TB := tk_2 174 rfl rfl
theorem k20 : (Jvm.Cond.initialized "java/lang/Math") ∈ TB := tk_1 20 rfl rfl
theorem d10_13_24 : decode prog_10_method_13_code 24 = .ok (.istore_n 2, 1) := by decide +kernel
theorem d10_13_25 : decode prog_10_method_13_code 25 = .ok (.iinc 3 1, 3) := by decide +kernel
theorem d10_13_28 : decode prog_10_method_13_code 28 = .ok (.goto (-24), 3) := by decide +kernel
theorem d10_13_31 : decode prog_10_method_13_code 31 = .ok (.iconst 0, 1) := by decide +kernel
theorem d10_13_32 : decode prog_10_method_13_code 32 = .ok (.istore_n 3, 1) := by decide +kernel
theorem d10_13_33 : decode prog_10_method_13_code 33 = .ok (.iload_n 3, 1) := by decide +kernel
theorem d10_13_34 : decode prog_10_method_13_code 34 = .ok (.iconst 3, 1) := by decide +kernel
theorem d10_13_35 : decode prog_10_method_13_code 35 = .ok (.if_icmp .ge 34, 3) := by decide +kernel
theorem d10_13_38 : decode prog_10_method_13_code 38 = .ok (.aload_n 0, 1) := by decide +kernel
theorem d10_13_39 : decode prog_10_method_13_code 39 = .ok (.getfield 24, 3) := by decide +kernel
theorem d10_13_42 : decode prog_10_method_13_code 42 = .ok (.iload_n 3, 1) := by decide +kernel
theorem d10_13_43 : decode prog_10_method_13_code 43 = .ok (.baload, 1) := by decide +kernel
theorem d10_13_44 : decode prog_10_method_13_code 44 = .ok (.ifCond .eq 19, 3) := by decide +kernel
theorem d10_13_63 : decode prog_10_method_13_code 63 = .ok (.iinc 3 1, 3) := by decide +kernel
theorem d10_13_66 : decode prog_10_method_13_code 66 = .ok (.goto (-33), 3) := by decide +kernel
theorem d10_13_69 : decode prog_10_method_13_code 69 = .ok (.iload_n 2, 1) := by decide +kernel
theorem d10_13_70 : decode prog_10_method_13_code 70 = .ok (.ireturn, 1) := by decide +kernel
def y10_13 : MethodName := { cls := "PagedValues$Store", name := "useOf", desc := "(I)I" }
theorem d1_2_0 : decode prog_1_method_2_code 0 = .ok (.aload_n 0, 1) := by decide +kernel
theorem d1_2_1 : decode prog_1_method_2_code 1 = .ok (.getfield 47, 3) := by decide +kernel
theorem d1_2_4 : decode prog_1_method_2_code 4 = .ok (.getfield 58, 3) := by decide +kernel
theorem kn247 : (Jvm.Cond.fieldLinkNest "PagedValues" (58 : Nat) "PagedValues$Store" "stopped" "Z" "PagedValues") ∈ NW := tn_2 7 rfl rfl
theorem d1_2_7 : decode prog_1_method_2_code 7 = .ok (.ifCond .eq 6, 3) := by decide +kernel
theorem d1_2_13 : decode prog_1_method_2_code 13 = .ok (.aload_n 0, 1) := by decide +kernel
theorem d1_2_14 : decode prog_1_method_2_code 14 = .ok (.getfield 10, 3) := by decide +kernel
theorem d1_2_17 : decode prog_1_method_2_code 17 = .ok (.iload_n 1, 1) := by decide +kernel
theorem d1_2_18 : decode prog_1_method_2_code 18 = .ok (.invokevirtual 62, 3) := by decide +kernel
theorem d11_2_0 : decode prog_11_method_2_code 0 = .ok (.aload_n 0, 1) := by decide +kernel
theorem d11_2_1 : decode prog_11_method_2_code 1 = .ok (.getfield 26, 3) := by decide +kernel
theorem k77 : (Jvm.Cond.fieldLink "PagedValues$Text" (26 : Nat) "PagedValues$Text" "length" "I") ∈ TB := tk_1 77 rfl rfl
theorem d11_2_4 : decode prog_11_method_2_code 4 = .ok (.bipush 80, 2) := by decide +kernel
theorem d11_2_6 : decode prog_11_method_2_code 6 = .ok (.if_icmp .lt 5, 3) := by decide +kernel
theorem d11_2_11 : decode prog_11_method_2_code 11 = .ok (.aload_n 0, 1) := by decide +kernel
theorem d11_2_12 : decode prog_11_method_2_code 12 = .ok (.getfield 9, 3) := by decide +kernel
theorem d11_2_15 : decode prog_11_method_2_code 15 = .ok (.aload_n 0, 1) := by decide +kernel
theorem d11_2_16 : decode prog_11_method_2_code 16 = .ok (.getfield 26, 3) := by decide +kernel
theorem d11_2_19 : decode prog_11_method_2_code 19 = .ok (.iload_n 1, 1) := by decide +kernel
theorem d11_2_20 : decode prog_11_method_2_code 20 = .ok (.castore, 1) := by decide +kernel
theorem d11_2_21 : decode prog_11_method_2_code 21 = .ok (.aload_n 0, 1) := by decide +kernel
theorem d11_2_22 : decode prog_11_method_2_code 22 = .ok (.dup, 1) := by decide +kernel
theorem d11_2_23 : decode prog_11_method_2_code 23 = .ok (.getfield 26, 3) := by decide +kernel
theorem d11_2_26 : decode prog_11_method_2_code 26 = .ok (.iconst 1, 1) := by decide +kernel
theorem d11_2_27 : decode prog_11_method_2_code 27 = .ok (.iadd, 1) := by decide +kernel
theorem d11_2_28 : decode prog_11_method_2_code 28 = .ok (.putfield 26, 3) := by decide +kernel
theorem d11_2_31 : decode prog_11_method_2_code 31 = .ok (.iconst 1, 1) := by decide +kernel
theorem d11_2_32 : decode prog_11_method_2_code 32 = .ok (.ireturn, 1) := by decide +kernel
def y11_2 : MethodName := { cls := "PagedValues$Text", name := "add", desc := "(C)Z" }
theorem k299 : (Jvm.Cond.code ({ cls := "PagedValues$Text", name := "add", desc := "(C)Z" } : Jvm.MethodName) prog_11_method_2_code (2 : Nat) (Option.some Jvm.ClassFile.FieldType.boolean)) ∈ TB := tk_2 59 rfl rfl
theorem k296 : (Jvm.Cond.methodLink "PagedValues" (62 : Nat) ({ cls := "PagedValues$Text", name := "add", desc := "(C)Z" } : Jvm.MethodName)) ∈ TB := tk_2 56 rfl rfl
theorem k297 : (Jvm.Cond.instanceMethod ({ cls := "PagedValues$Text", name := "add", desc := "(C)Z" } : Jvm.MethodName)) ∈ TB := tk_2 57 rfl rfl
theorem k298 : (Jvm.Cond.selects "PagedValues$Text" ({ cls := "PagedValues$Text", name := "add", desc := "(C)Z" } : Jvm.MethodName) ({ cls := "PagedValues$Text", name := "add", desc := "(C)Z" } : Jvm.MethodName)) ∈ TB := tk_2 58 rfl rfl
theorem d1_2_21 : decode prog_1_method_2_code 21 = .ok (.ifCond .eq 13, 3) := by decide +kernel
theorem d1_2_24 : decode prog_1_method_2_code 24 = .ok (.aload_n 0, 1) := by decide +kernel
theorem d1_2_25 : decode prog_1_method_2_code 25 = .ok (.getfield 10, 3) := by decide +kernel
theorem d1_2_28 : decode prog_1_method_2_code 28 = .ok (.getfield 66, 3) := by decide +kernel
theorem kn78 : (Jvm.Cond.fieldLinkNest "PagedValues" (66 : Nat) "PagedValues$Text" "length" "I" "PagedValues") ∈ NW := tn_1 78 rfl rfl
theorem d1_2_31 : decode prog_1_method_2_code 31 = .ok (.goto 4, 3) := by decide +kernel
theorem d1_2_35 : decode prog_1_method_2_code 35 = .ok (.ireturn, 1) := by decide +kernel
def y1_2 : MethodName := { cls := "PagedValues", name := "type", desc := "(C)I" }
theorem d1_3_0 : decode prog_1_method_3_code 0 = .ok (.aload_n 0, 1) := by decide +kernel
theorem d1_3_1 : decode prog_1_method_3_code 1 = .ok (.getfield 47, 3) := by decide +kernel
theorem d1_3_4 : decode prog_1_method_3_code 4 = .ok (.getfield 58, 3) := by decide +kernel
theorem d1_3_7 : decode prog_1_method_3_code 7 = .ok (.ifCond .eq 6, 3) := by decide +kernel
theorem d1_3_13 : decode prog_1_method_3_code 13 = .ok (.iload_n 1, 1) := by decide +kernel
theorem d1_3_14 : decode prog_1_method_3_code 14 = .ok (.invokestatic 70, 3) := by decide +kernel
theorem k306 : (Jvm.Cond.code ({ cls := "PagedValues", name := "isId", desc := "(I)Z" } : Jvm.MethodName) prog_1_method_17_code (1 : Nat) (Option.some Jvm.ClassFile.FieldType.boolean)) ∈ TB := tk_2 66 rfl rfl
theorem k1 : (Jvm.Cond.initialized "PagedValues") ∈ TB := tk_1 1 rfl rfl
theorem k304 : (Jvm.Cond.methodLink "PagedValues" (70 : Nat) ({ cls := "PagedValues", name := "isId", desc := "(I)Z" } : Jvm.MethodName)) ∈ TB := tk_2 64 rfl rfl
theorem k305 : (Jvm.Cond.static ({ cls := "PagedValues", name := "isId", desc := "(I)Z" } : Jvm.MethodName)) ∈ TB := tk_2 65 rfl rfl
theorem d1_3_17 : decode prog_1_method_3_code 17 = .ok (.ifCond .ne 5, 3) := by decide +kernel
theorem d1_3_22 : decode prog_1_method_3_code 22 = .ok (.aload_n 0, 1) := by decide +kernel
theorem d1_3_23 : decode prog_1_method_3_code 23 = .ok (.getfield 19, 3) := by decide +kernel
theorem d1_3_26 : decode prog_1_method_3_code 26 = .ok (.aload_n 0, 1) := by decide +kernel
theorem d1_3_27 : decode prog_1_method_3_code 27 = .ok (.getfield 10, 3) := by decide +kernel
theorem d1_3_30 : decode prog_1_method_3_code 30 = .ok (.invokevirtual 74, 3) := by decide +kernel
theorem d13_2_0 : decode prog_13_method_2_code 0 = .ok (.aload_n 0, 1) := by decide +kernel
theorem d13_2_1 : decode prog_13_method_2_code 1 = .ok (.iconst 0, 1) := by decide +kernel
theorem d13_2_2 : decode prog_13_method_2_code 2 = .ok (.putfield 9, 3) := by decide +kernel
theorem k100 : (Jvm.Cond.fieldLink "PagedValues$ValueParser" (9 : Nat) "PagedValues$ValueParser" "values" "I") ∈ TB := tk_1 100 rfl rfl
theorem d13_2_5 : decode prog_13_method_2_code 5 = .ok (.aload_n 1, 1) := by decide +kernel
theorem d13_2_6 : decode prog_13_method_2_code 6 = .ok (.invokevirtual 15, 3) := by decide +kernel
theorem d11_4_0 : decode prog_11_method_4_code 0 = .ok (.aload_n 0, 1) := by decide +kernel
theorem d11_4_1 : decode prog_11_method_4_code 1 = .ok (.iconst 0, 1) := by decide +kernel
theorem d11_4_2 : decode prog_11_method_4_code 2 = .ok (.putfield 29, 3) := by decide +kernel
theorem k79 : (Jvm.Cond.fieldLink "PagedValues$Text" (29 : Nat) "PagedValues$Text" "place" "I") ∈ TB := tk_1 79 rfl rfl
theorem d11_4_5 : decode prog_11_method_4_code 5 = .ok (.aload_n 0, 1) := by decide +kernel
theorem d11_4_6 : decode prog_11_method_4_code 6 = .ok (.iconst (-1), 1) := by decide +kernel
theorem d11_4_7 : decode prog_11_method_4_code 7 = .ok (.putfield 22, 3) := by decide +kernel
theorem d11_4_10 : decode prog_11_method_4_code 10 = .ok (.return_, 1) := by decide +kernel
def y11_4 : MethodName := { cls := "PagedValues$Text", name := "begin", desc := "()V" }
theorem k314 : (Jvm.Cond.code ({ cls := "PagedValues$Text", name := "begin", desc := "()V" } : Jvm.MethodName) prog_11_method_4_code (1 : Nat) (Option.none : Option Jvm.ClassFile.FieldType)) ∈ TB := tk_2 74 rfl rfl
theorem k311 : (Jvm.Cond.methodLink "PagedValues$ValueParser" (15 : Nat) ({ cls := "PagedValues$Text", name := "begin", desc := "()V" } : Jvm.MethodName)) ∈ TB := tk_2 71 rfl rfl
theorem k312 : (Jvm.Cond.instanceMethod ({ cls := "PagedValues$Text", name := "begin", desc := "()V" } : Jvm.MethodName)) ∈ TB := tk_2 72 rfl rfl
theorem k313 : (Jvm.Cond.selects "PagedValues$Text" ({ cls := "PagedValues$Text", name := "begin", desc := "()V" } : Jvm.MethodName) ({ cls := "PagedValues$Text", name := "begin", desc := "()V" } : Jvm.MethodName)) ∈ TB := tk_2 73 rfl rfl
theorem d13_2_9 : decode prog_13_method_2_code 9 = .ok (.aload_n 0, 1) := by decide +kernel
theorem d13_2_10 : decode prog_13_method_2_code 10 = .ok (.aload_n 1, 1) := by decide +kernel
theorem d13_2_11 : decode prog_13_method_2_code 11 = .ok (.iconst 0, 1) := by decide +kernel
theorem d13_2_12 : decode prog_13_method_2_code 12 = .ok (.invokevirtual 20, 3) := by decide +kernel
theorem d13_3_0 : decode prog_13_method_3_code 0 = .ok (.aload_n 1, 1) := by decide +kernel
theorem d13_3_1 : decode prog_13_method_3_code 1 = .ok (.invokevirtual 24, 3) := by decide +kernel
theorem d11_12_0 : decode prog_11_method_12_code 0 = .ok (.aload_n 0, 1) := by decide +kernel
theorem d11_12_1 : decode prog_11_method_12_code 1 = .ok (.getfield 29, 3) := by decide +kernel
theorem d11_12_4 : decode prog_11_method_12_code 4 = .ok (.aload_n 0, 1) := by decide +kernel
theorem d11_12_5 : decode prog_11_method_12_code 5 = .ok (.getfield 26, 3) := by decide +kernel
theorem d11_12_8 : decode prog_11_method_12_code 8 = .ok (.if_icmp .ge 26, 3) := by decide +kernel
theorem d11_12_34 : decode prog_11_method_12_code 34 = .ok (.return_, 1) := by decide +kernel
def y11_12 : MethodName := { cls := "PagedValues$Text", name := "skipBlanks", desc := "()V" }
theorem k322 : (Jvm.Cond.code ({ cls := "PagedValues$Text", name := "skipBlanks", desc := "()V" } : Jvm.MethodName) prog_11_method_12_code (1 : Nat) (Option.none : Option Jvm.ClassFile.FieldType)) ∈ TB := tk_2 82 rfl rfl
theorem k319 : (Jvm.Cond.methodLink "PagedValues$ValueParser" (24 : Nat) ({ cls := "PagedValues$Text", name := "skipBlanks", desc := "()V" } : Jvm.MethodName)) ∈ TB := tk_2 79 rfl rfl
theorem k320 : (Jvm.Cond.instanceMethod ({ cls := "PagedValues$Text", name := "skipBlanks", desc := "()V" } : Jvm.MethodName)) ∈ TB := tk_2 80 rfl rfl
theorem k321 : (Jvm.Cond.selects "PagedValues$Text" ({ cls := "PagedValues$Text", name := "skipBlanks", desc := "()V" } : Jvm.MethodName) ({ cls := "PagedValues$Text", name := "skipBlanks", desc := "()V" } : Jvm.MethodName)) ∈ TB := tk_2 81 rfl rfl
theorem d13_3_4 : decode prog_13_method_3_code 4 = .ok (.aload_n 0, 1) := by decide +kernel
theorem d13_3_5 : decode prog_13_method_3_code 5 = .ok (.getfield 9, 3) := by decide +kernel
theorem d13_3_8 : decode prog_13_method_3_code 8 = .ok (.bipush 24, 2) := by decide +kernel
theorem d13_3_10 : decode prog_13_method_3_code 10 = .ok (.if_icmp .lt 9, 3) := by decide +kernel
theorem d13_3_19 : decode prog_13_method_3_code 19 = .ok (.aload_n 0, 1) := by decide +kernel
theorem d13_3_20 : decode prog_13_method_3_code 20 = .ok (.dup, 1) := by decide +kernel
theorem d13_3_21 : decode prog_13_method_3_code 21 = .ok (.getfield 9, 3) := by decide +kernel
theorem d13_3_24 : decode prog_13_method_3_code 24 = .ok (.iconst 1, 1) := by decide +kernel
theorem d13_3_25 : decode prog_13_method_3_code 25 = .ok (.iadd, 1) := by decide +kernel
theorem d13_3_26 : decode prog_13_method_3_code 26 = .ok (.putfield 9, 3) := by decide +kernel
theorem d13_3_29 : decode prog_13_method_3_code 29 = .ok (.aload_n 1, 1) := by decide +kernel
theorem d13_3_30 : decode prog_13_method_3_code 30 = .ok (.invokevirtual 37, 3) := by decide +kernel
theorem d11_9_0 : decode prog_11_method_9_code 0 = .ok (.aload_n 0, 1) := by decide +kernel
theorem d11_9_1 : decode prog_11_method_9_code 1 = .ok (.getfield 29, 3) := by decide +kernel
theorem d11_9_4 : decode prog_11_method_9_code 4 = .ok (.aload_n 0, 1) := by decide +kernel
theorem d11_9_5 : decode prog_11_method_9_code 5 = .ok (.getfield 26, 3) := by decide +kernel
theorem d11_9_8 : decode prog_11_method_9_code 8 = .ok (.if_icmp .ge 15, 3) := by decide +kernel
theorem d11_9_23 : decode prog_11_method_9_code 23 = .ok (.iconst (-1), 1) := by decide +kernel
theorem d11_9_24 : decode prog_11_method_9_code 24 = .ok (.ireturn, 1) := by decide +kernel
def y11_9 : MethodName := { cls := "PagedValues$Text", name := "ahead", desc := "()I" }
theorem k326 : (Jvm.Cond.code ({ cls := "PagedValues$Text", name := "ahead", desc := "()I" } : Jvm.MethodName) prog_11_method_9_code (1 : Nat) (Option.some Jvm.ClassFile.FieldType.int)) ∈ TB := tk_2 86 rfl rfl
theorem k334 : (Jvm.Cond.methodLink "PagedValues$ValueParser" (37 : Nat) ({ cls := "PagedValues$Text", name := "ahead", desc := "()I" } : Jvm.MethodName)) ∈ TB := tk_2 94 rfl rfl
theorem k324 : (Jvm.Cond.instanceMethod ({ cls := "PagedValues$Text", name := "ahead", desc := "()I" } : Jvm.MethodName)) ∈ TB := tk_2 84 rfl rfl
theorem k325 : (Jvm.Cond.selects "PagedValues$Text" ({ cls := "PagedValues$Text", name := "ahead", desc := "()I" } : Jvm.MethodName) ({ cls := "PagedValues$Text", name := "ahead", desc := "()I" } : Jvm.MethodName)) ∈ TB := tk_2 85 rfl rfl
theorem d13_3_33 : decode prog_13_method_3_code 33 = .ok (.lookupswitch 118 #[(34, 79), (91, 59), (102, 107), (110, 85), (116, 96), (123, 69)], 59) := by decide +kernel
theorem d13_3_151 : decode prog_13_method_3_code 151 = .ok (.aload_n 0, 1) := by decide +kernel
theorem d13_3_152 : decode prog_13_method_3_code 152 = .ok (.aload_n 1, 1) := by decide +kernel
theorem d13_3_153 : decode prog_13_method_3_code 153 = .ok (.invokevirtual 77, 3) := by decide +kernel
theorem d13_8_0 : decode prog_13_method_8_code 0 = .ok (.aload_n 1, 1) := by decide +kernel
theorem d13_8_1 : decode prog_13_method_8_code 1 = .ok (.bipush 45, 2) := by decide +kernel
theorem d13_8_3 : decode prog_13_method_8_code 3 = .ok (.invokevirtual 91, 3) := by decide +kernel
theorem d11_10_0 : decode prog_11_method_10_code 0 = .ok (.aload_n 0, 1) := by decide +kernel
theorem d11_10_1 : decode prog_11_method_10_code 1 = .ok (.getfield 29, 3) := by decide +kernel
theorem d11_10_4 : decode prog_11_method_10_code 4 = .ok (.aload_n 0, 1) := by decide +kernel
theorem d11_10_5 : decode prog_11_method_10_code 5 = .ok (.getfield 26, 3) := by decide +kernel
theorem d11_10_8 : decode prog_11_method_10_code 8 = .ok (.if_icmp .ge 16, 3) := by decide +kernel
theorem d11_10_24 : decode prog_11_method_10_code 24 = .ok (.iconst 0, 1) := by decide +kernel
theorem d11_10_25 : decode prog_11_method_10_code 25 = .ok (.ireturn, 1) := by decide +kernel
def y11_10 : MethodName := { cls := "PagedValues$Text", name := "take", desc := "(C)Z" }
theorem k384 : (Jvm.Cond.code ({ cls := "PagedValues$Text", name := "take", desc := "(C)Z" } : Jvm.MethodName) prog_11_method_10_code (2 : Nat) (Option.some Jvm.ClassFile.FieldType.boolean)) ∈ TB := tk_2 144 rfl rfl
theorem k386 : (Jvm.Cond.methodLink "PagedValues$ValueParser" (91 : Nat) ({ cls := "PagedValues$Text", name := "take", desc := "(C)Z" } : Jvm.MethodName)) ∈ TB := tk_2 146 rfl rfl
theorem k382 : (Jvm.Cond.instanceMethod ({ cls := "PagedValues$Text", name := "take", desc := "(C)Z" } : Jvm.MethodName)) ∈ TB := tk_2 142 rfl rfl
theorem k383 : (Jvm.Cond.selects "PagedValues$Text" ({ cls := "PagedValues$Text", name := "take", desc := "(C)Z" } : Jvm.MethodName) ({ cls := "PagedValues$Text", name := "take", desc := "(C)Z" } : Jvm.MethodName)) ∈ TB := tk_2 143 rfl rfl
theorem d13_8_6 : decode prog_13_method_8_code 6 = .ok (.istore_n 2, 1) := by decide +kernel
theorem d13_8_7 : decode prog_13_method_8_code 7 = .ok (.aload_n 1, 1) := by decide +kernel
theorem d13_8_8 : decode prog_13_method_8_code 8 = .ok (.bipush 6, 2) := by decide +kernel
theorem d13_8_10 : decode prog_13_method_8_code 10 = .ok (.invokevirtual 132, 3) := by decide +kernel
theorem d11_13_0 : decode prog_11_method_13_code 0 = .ok (.aload_n 0, 1) := by decide +kernel
theorem d11_13_1 : decode prog_11_method_13_code 1 = .ok (.invokevirtual 39, 3) := by decide +kernel
theorem k323 : (Jvm.Cond.methodLink "PagedValues$Text" (39 : Nat) ({ cls := "PagedValues$Text", name := "ahead", desc := "()I" } : Jvm.MethodName)) ∈ TB := tk_2 83 rfl rfl
theorem d11_13_4 : decode prog_11_method_13_code 4 = .ok (.invokestatic 47, 3) := by decide +kernel
theorem d11_18_0 : decode prog_11_method_18_code 0 = .ok (.iload_n 0, 1) := by decide +kernel
theorem d11_18_1 : decode prog_11_method_18_code 1 = .ok (.bipush 48, 2) := by decide +kernel
theorem d11_18_3 : decode prog_11_method_18_code 3 = .ok (.if_icmp .lt 13, 3) := by decide +kernel
theorem d11_18_16 : decode prog_11_method_18_code 16 = .ok (.iconst 0, 1) := by decide +kernel
theorem d11_18_17 : decode prog_11_method_18_code 17 = .ok (.ireturn, 1) := by decide +kernel
def y11_18 : MethodName := { cls := "PagedValues$Text", name := "isDigit", desc := "(I)Z" }
theorem k664 : (Jvm.Cond.code ({ cls := "PagedValues$Text", name := "isDigit", desc := "(I)Z" } : Jvm.MethodName) prog_11_method_18_code (1 : Nat) (Option.some Jvm.ClassFile.FieldType.boolean)) ∈ TB := tk_3 184 rfl rfl
theorem k662 : (Jvm.Cond.methodLink "PagedValues$Text" (47 : Nat) ({ cls := "PagedValues$Text", name := "isDigit", desc := "(I)Z" } : Jvm.MethodName)) ∈ TB := tk_3 182 rfl rfl
theorem k663 : (Jvm.Cond.static ({ cls := "PagedValues$Text", name := "isDigit", desc := "(I)Z" } : Jvm.MethodName)) ∈ TB := tk_3 183 rfl rfl
theorem d11_13_7 : decode prog_11_method_13_code 7 = .ok (.ifCond .ne 9, 3) := by decide +kernel
theorem d11_13_10 : decode prog_11_method_13_code 10 = .ok (.aload_n 0, 1) := by decide +kernel
theorem d11_13_11 : decode prog_11_method_13_code 11 = .ok (.invokevirtual 36, 3) := by decide +kernel
theorem d11_8_0 : decode prog_11_method_8_code 0 = .ok (.aload_n 0, 1) := by decide +kernel
theorem d11_8_1 : decode prog_11_method_8_code 1 = .ok (.getfield 22, 3) := by decide +kernel
theorem d11_8_4 : decode prog_11_method_8_code 4 = .ok (.iconst (-1), 1) := by decide +kernel
theorem d11_8_5 : decode prog_11_method_8_code 5 = .ok (.if_icmp .ne 11, 3) := by decide +kernel
theorem d11_8_8 : decode prog_11_method_8_code 8 = .ok (.aload_n 0, 1) := by decide +kernel
theorem d11_8_9 : decode prog_11_method_8_code 9 = .ok (.aload_n 0, 1) := by decide +kernel
theorem d11_8_10 : decode prog_11_method_8_code 10 = .ok (.getfield 29, 3) := by decide +kernel
theorem d11_8_13 : decode prog_11_method_8_code 13 = .ok (.putfield 22, 3) := by decide +kernel
theorem d11_8_16 : decode prog_11_method_8_code 16 = .ok (.return_, 1) := by decide +kernel
def y11_8 : MethodName := { cls := "PagedValues$Text", name := "fail", desc := "()V" }
theorem k333 : (Jvm.Cond.code ({ cls := "PagedValues$Text", name := "fail", desc := "()V" } : Jvm.MethodName) prog_11_method_8_code (1 : Nat) (Option.none : Option Jvm.ClassFile.FieldType)) ∈ TB := tk_2 93 rfl rfl
theorem k385 : (Jvm.Cond.methodLink "PagedValues$Text" (36 : Nat) ({ cls := "PagedValues$Text", name := "fail", desc := "()V" } : Jvm.MethodName)) ∈ TB := tk_2 145 rfl rfl
theorem k331 : (Jvm.Cond.instanceMethod ({ cls := "PagedValues$Text", name := "fail", desc := "()V" } : Jvm.MethodName)) ∈ TB := tk_2 91 rfl rfl
theorem k332 : (Jvm.Cond.selects "PagedValues$Text" ({ cls := "PagedValues$Text", name := "fail", desc := "()V" } : Jvm.MethodName) ({ cls := "PagedValues$Text", name := "fail", desc := "()V" } : Jvm.MethodName)) ∈ TB := tk_2 92 rfl rfl
theorem d11_13_14 : decode prog_11_method_13_code 14 = .ok (.iconst 0, 1) := by decide +kernel
theorem d11_13_15 : decode prog_11_method_13_code 15 = .ok (.ireturn, 1) := by decide +kernel
def y11_13 : MethodName := { cls := "PagedValues$Text", name := "digits", desc := "(I)I" }
theorem k661 : (Jvm.Cond.code ({ cls := "PagedValues$Text", name := "digits", desc := "(I)I" } : Jvm.MethodName) prog_11_method_13_code (4 : Nat) (Option.some Jvm.ClassFile.FieldType.int)) ∈ TB := tk_3 181 rfl rfl
theorem k658 : (Jvm.Cond.methodLink "PagedValues$ValueParser" (132 : Nat) ({ cls := "PagedValues$Text", name := "digits", desc := "(I)I" } : Jvm.MethodName)) ∈ TB := tk_3 178 rfl rfl
theorem k659 : (Jvm.Cond.instanceMethod ({ cls := "PagedValues$Text", name := "digits", desc := "(I)I" } : Jvm.MethodName)) ∈ TB := tk_3 179 rfl rfl
theorem k660 : (Jvm.Cond.selects "PagedValues$Text" ({ cls := "PagedValues$Text", name := "digits", desc := "(I)I" } : Jvm.MethodName) ({ cls := "PagedValues$Text", name := "digits", desc := "(I)I" } : Jvm.MethodName)) ∈ TB := tk_3 180 rfl rfl
theorem d13_8_13 : decode prog_13_method_8_code 13 = .ok (.istore_n 3, 1) := by decide +kernel
theorem d13_8_14 : decode prog_13_method_8_code 14 = .ok (.aload_n 1, 1) := by decide +kernel
theorem d13_8_15 : decode prog_13_method_8_code 15 = .ok (.invokevirtual 34, 3) := by decide +kernel
theorem d11_5_0 : decode prog_11_method_5_code 0 = .ok (.aload_n 0, 1) := by decide +kernel
theorem d11_5_1 : decode prog_11_method_5_code 1 = .ok (.getfield 22, 3) := by decide +kernel
theorem d11_5_4 : decode prog_11_method_5_code 4 = .ok (.iconst (-1), 1) := by decide +kernel
theorem d11_5_5 : decode prog_11_method_5_code 5 = .ok (.if_icmp .ne 7, 3) := by decide +kernel
theorem d11_5_12 : decode prog_11_method_5_code 12 = .ok (.iconst 0, 1) := by decide +kernel
theorem d11_5_13 : decode prog_11_method_5_code 13 = .ok (.ireturn, 1) := by decide +kernel
def y11_5 : MethodName := { cls := "PagedValues$Text", name := "isRight", desc := "()Z" }
theorem k580 : (Jvm.Cond.code ({ cls := "PagedValues$Text", name := "isRight", desc := "()Z" } : Jvm.MethodName) prog_11_method_5_code (1 : Nat) (Option.some Jvm.ClassFile.FieldType.boolean)) ∈ TB := tk_3 100 rfl rfl
theorem k577 : (Jvm.Cond.methodLink "PagedValues$ValueParser" (34 : Nat) ({ cls := "PagedValues$Text", name := "isRight", desc := "()Z" } : Jvm.MethodName)) ∈ TB := tk_3 97 rfl rfl
theorem k578 : (Jvm.Cond.instanceMethod ({ cls := "PagedValues$Text", name := "isRight", desc := "()Z" } : Jvm.MethodName)) ∈ TB := tk_3 98 rfl rfl
theorem k579 : (Jvm.Cond.selects "PagedValues$Text" ({ cls := "PagedValues$Text", name := "isRight", desc := "()Z" } : Jvm.MethodName) ({ cls := "PagedValues$Text", name := "isRight", desc := "()Z" } : Jvm.MethodName)) ∈ TB := tk_3 99 rfl rfl
theorem d13_8_18 : decode prog_13_method_8_code 18 = .ok (.ifCond .eq 28, 3) := by decide +kernel
theorem d13_8_46 : decode prog_13_method_8_code 46 = .ok (.aconst_null, 1) := by decide +kernel
theorem d13_8_47 : decode prog_13_method_8_code 47 = .ok (.areturn, 1) := by decide +kernel
def y13_8 : MethodName := { cls := "PagedValues$ValueParser", name := "number", desc := "(LPagedValues$Text;)LPagedValues$Value;" }
theorem k657 : (Jvm.Cond.code ({ cls := "PagedValues$ValueParser", name := "number", desc := "(LPagedValues$Text;)LPagedValues$Value;" } : Jvm.MethodName) prog_13_method_8_code (4 : Nat) (Option.some (Jvm.ClassFile.FieldType.object "PagedValues$Value"))) ∈ TB := tk_3 177 rfl rfl
theorem k654 : (Jvm.Cond.methodLink "PagedValues$ValueParser" (77 : Nat) ({ cls := "PagedValues$ValueParser", name := "number", desc := "(LPagedValues$Text;)LPagedValues$Value;" } : Jvm.MethodName)) ∈ TB := tk_3 174 rfl rfl
theorem k656 : (Jvm.Cond.instanceMethod ({ cls := "PagedValues$ValueParser", name := "number", desc := "(LPagedValues$Text;)LPagedValues$Value;" } : Jvm.MethodName)) ∈ TB := tk_3 176 rfl rfl
theorem ks6 : Cond.selects y13_8.cls y13_8 y13_8 ∈ TB := List.mem_filter.mpr ⟨List.mem_append_left _ (List.mem_of_getElem? (i := 6) (by decide +kernel)), rfl⟩
theorem d13_3_156 : decode prog_13_method_3_code 156 = .ok (.areturn, 1) := by decide +kernel
def y13_3 : MethodName := { cls := "PagedValues$ValueParser", name := "value", desc := "(LPagedValues$Text;I)LPagedValues$Value;" }
theorem k318 : (Jvm.Cond.code ({ cls := "PagedValues$ValueParser", name := "value", desc := "(LPagedValues$Text;I)LPagedValues$Value;" } : Jvm.MethodName) prog_13_method_3_code (3 : Nat) (Option.some (Jvm.ClassFile.FieldType.object "PagedValues$Value"))) ∈ TB := tk_2 78 rfl rfl
theorem k315 : (Jvm.Cond.methodLink "PagedValues$ValueParser" (20 : Nat) ({ cls := "PagedValues$ValueParser", name := "value", desc := "(LPagedValues$Text;I)LPagedValues$Value;" } : Jvm.MethodName)) ∈ TB := tk_2 75 rfl rfl
theorem k317 : (Jvm.Cond.instanceMethod ({ cls := "PagedValues$ValueParser", name := "value", desc := "(LPagedValues$Text;I)LPagedValues$Value;" } : Jvm.MethodName)) ∈ TB := tk_2 77 rfl rfl
theorem ks0 : Cond.selects y13_3.cls y13_3 y13_3 ∈ TB := List.mem_filter.mpr ⟨List.mem_append_left _ (List.mem_of_getElem? (i := 0) (by decide +kernel)), rfl⟩
theorem d13_2_15 : decode prog_13_method_2_code 15 = .ok (.astore_n 2, 1) := by decide +kernel
theorem d13_2_16 : decode prog_13_method_2_code 16 = .ok (.aload_n 1, 1) := by decide +kernel
theorem d13_2_17 : decode prog_13_method_2_code 17 = .ok (.invokevirtual 24, 3) := by decide +kernel
theorem d13_2_20 : decode prog_13_method_2_code 20 = .ok (.aload_n 1, 1) := by decide +kernel
theorem d13_2_21 : decode prog_13_method_2_code 21 = .ok (.invokevirtual 27, 3) := by decide +kernel
theorem d11_6_0 : decode prog_11_method_6_code 0 = .ok (.aload_n 0, 1) := by decide +kernel
theorem d11_6_1 : decode prog_11_method_6_code 1 = .ok (.getfield 29, 3) := by decide +kernel
theorem d11_6_4 : decode prog_11_method_6_code 4 = .ok (.aload_n 0, 1) := by decide +kernel
theorem d11_6_5 : decode prog_11_method_6_code 5 = .ok (.getfield 26, 3) := by decide +kernel
theorem d11_6_8 : decode prog_11_method_6_code 8 = .ok (.if_icmp .lt 7, 3) := by decide +kernel
theorem d11_6_11 : decode prog_11_method_6_code 11 = .ok (.iconst 1, 1) := by decide +kernel
theorem d11_6_12 : decode prog_11_method_6_code 12 = .ok (.goto 4, 3) := by decide +kernel
theorem d11_6_16 : decode prog_11_method_6_code 16 = .ok (.ireturn, 1) := by decide +kernel
def y11_6 : MethodName := { cls := "PagedValues$Text", name := "atEnd", desc := "()Z" }
theorem k670 : (Jvm.Cond.code ({ cls := "PagedValues$Text", name := "atEnd", desc := "()Z" } : Jvm.MethodName) prog_11_method_6_code (1 : Nat) (Option.some Jvm.ClassFile.FieldType.boolean)) ∈ TB := tk_3 190 rfl rfl
theorem k667 : (Jvm.Cond.methodLink "PagedValues$ValueParser" (27 : Nat) ({ cls := "PagedValues$Text", name := "atEnd", desc := "()Z" } : Jvm.MethodName)) ∈ TB := tk_3 187 rfl rfl
theorem k668 : (Jvm.Cond.instanceMethod ({ cls := "PagedValues$Text", name := "atEnd", desc := "()Z" } : Jvm.MethodName)) ∈ TB := tk_3 188 rfl rfl
theorem k669 : (Jvm.Cond.selects "PagedValues$Text" ({ cls := "PagedValues$Text", name := "atEnd", desc := "()Z" } : Jvm.MethodName) ({ cls := "PagedValues$Text", name := "atEnd", desc := "()Z" } : Jvm.MethodName)) ∈ TB := tk_3 189 rfl rfl
theorem d13_2_24 : decode prog_13_method_2_code 24 = .ok (.ifCond .ne 7, 3) := by decide +kernel
theorem d13_2_31 : decode prog_13_method_2_code 31 = .ok (.aload_n 1, 1) := by decide +kernel
theorem d13_2_32 : decode prog_13_method_2_code 32 = .ok (.invokevirtual 34, 3) := by decide +kernel
theorem d13_2_35 : decode prog_13_method_2_code 35 = .ok (.ifCond .eq 7, 3) := by decide +kernel
theorem d13_2_42 : decode prog_13_method_2_code 42 = .ok (.aconst_null, 1) := by decide +kernel
theorem d13_2_43 : decode prog_13_method_2_code 43 = .ok (.areturn, 1) := by decide +kernel
def y13_2 : MethodName := { cls := "PagedValues$ValueParser", name := "parse", desc := "(LPagedValues$Text;)LPagedValues$Value;" }
theorem k310 : (Jvm.Cond.code ({ cls := "PagedValues$ValueParser", name := "parse", desc := "(LPagedValues$Text;)LPagedValues$Value;" } : Jvm.MethodName) prog_13_method_2_code (3 : Nat) (Option.some (Jvm.ClassFile.FieldType.object "PagedValues$Value"))) ∈ TB := tk_2 70 rfl rfl
theorem k307 : (Jvm.Cond.methodLink "PagedValues" (74 : Nat) ({ cls := "PagedValues$ValueParser", name := "parse", desc := "(LPagedValues$Text;)LPagedValues$Value;" } : Jvm.MethodName)) ∈ TB := tk_2 67 rfl rfl
theorem k308 : (Jvm.Cond.instanceMethod ({ cls := "PagedValues$ValueParser", name := "parse", desc := "(LPagedValues$Text;)LPagedValues$Value;" } : Jvm.MethodName)) ∈ TB := tk_2 68 rfl rfl
theorem k309 : (Jvm.Cond.selects "PagedValues$ValueParser" ({ cls := "PagedValues$ValueParser", name := "parse", desc := "(LPagedValues$Text;)LPagedValues$Value;" } : Jvm.MethodName) ({ cls := "PagedValues$ValueParser", name := "parse", desc := "(LPagedValues$Text;)LPagedValues$Value;" } : Jvm.MethodName)) ∈ TB := tk_2 69 rfl rfl
theorem d1_3_33 : decode prog_1_method_3_code 33 = .ok (.astore_n 2, 1) := by decide +kernel
theorem d1_3_34 : decode prog_1_method_3_code 34 = .ok (.aload_n 0, 1) := by decide +kernel
theorem d1_3_35 : decode prog_1_method_3_code 35 = .ok (.getfield 10, 3) := by decide +kernel
theorem d1_3_38 : decode prog_1_method_3_code 38 = .ok (.invokevirtual 78, 3) := by decide +kernel
theorem d11_3_0 : decode prog_11_method_3_code 0 = .ok (.aload_n 0, 1) := by decide +kernel
theorem d11_3_1 : decode prog_11_method_3_code 1 = .ok (.iconst 0, 1) := by decide +kernel
theorem d11_3_2 : decode prog_11_method_3_code 2 = .ok (.putfield 26, 3) := by decide +kernel
theorem d11_3_5 : decode prog_11_method_3_code 5 = .ok (.return_, 1) := by decide +kernel
def y11_3 : MethodName := { cls := "PagedValues$Text", name := "clear", desc := "()V" }
theorem k674 : (Jvm.Cond.code ({ cls := "PagedValues$Text", name := "clear", desc := "()V" } : Jvm.MethodName) prog_11_method_3_code (1 : Nat) (Option.none : Option Jvm.ClassFile.FieldType)) ∈ TB := tk_3 194 rfl rfl
theorem k671 : (Jvm.Cond.methodLink "PagedValues" (78 : Nat) ({ cls := "PagedValues$Text", name := "clear", desc := "()V" } : Jvm.MethodName)) ∈ TB := tk_3 191 rfl rfl
theorem k672 : (Jvm.Cond.instanceMethod ({ cls := "PagedValues$Text", name := "clear", desc := "()V" } : Jvm.MethodName)) ∈ TB := tk_3 192 rfl rfl
theorem k673 : (Jvm.Cond.selects "PagedValues$Text" ({ cls := "PagedValues$Text", name := "clear", desc := "()V" } : Jvm.MethodName) ({ cls := "PagedValues$Text", name := "clear", desc := "()V" } : Jvm.MethodName)) ∈ TB := tk_3 193 rfl rfl
theorem d1_3_41 : decode prog_1_method_3_code 41 = .ok (.aload_n 2, 1) := by decide +kernel
theorem d1_3_42 : decode prog_1_method_3_code 42 = .ok (.ifnonnull 14, 3) := by decide +kernel
theorem d1_3_45 : decode prog_1_method_3_code 45 = .ok (.bipush (-100), 2) := by decide +kernel
theorem d1_3_47 : decode prog_1_method_3_code 47 = .ok (.aload_n 0, 1) := by decide +kernel
theorem d1_3_48 : decode prog_1_method_3_code 48 = .ok (.getfield 10, 3) := by decide +kernel
theorem d1_3_51 : decode prog_1_method_3_code 51 = .ok (.getfield 81, 3) := by decide +kernel
theorem kn82 : (Jvm.Cond.fieldLinkNest "PagedValues" (81 : Nat) "PagedValues$Text" "fault" "I" "PagedValues") ∈ NW := tn_1 82 rfl rfl
theorem d1_3_54 : decode prog_1_method_3_code 54 = .ok (.isub, 1) := by decide +kernel
theorem d1_3_55 : decode prog_1_method_3_code 55 = .ok (.ireturn, 1) := by decide +kernel
theorem d1_3_20 : decode prog_1_method_3_code 20 = .ok (.iconst (-1), 1) := by decide +kernel
theorem d1_3_21 : decode prog_1_method_3_code 21 = .ok (.ireturn, 1) := by decide +kernel
def y1_3 : MethodName := { cls := "PagedValues", name := "put", desc := "(I)I" }
theorem d1_4_0 : decode prog_1_method_4_code 0 = .ok (.aload_n 0, 1) := by decide +kernel
theorem d1_4_1 : decode prog_1_method_4_code 1 = .ok (.getfield 47, 3) := by decide +kernel
theorem d1_4_4 : decode prog_1_method_4_code 4 = .ok (.getfield 58, 3) := by decide +kernel
theorem d1_4_7 : decode prog_1_method_4_code 7 = .ok (.ifCond .eq 6, 3) := by decide +kernel
theorem d1_4_13 : decode prog_1_method_4_code 13 = .ok (.aload_n 0, 1) := by decide +kernel
theorem d1_4_14 : decode prog_1_method_4_code 14 = .ok (.getfield 47, 3) := by decide +kernel
theorem d1_4_17 : decode prog_1_method_4_code 17 = .ok (.aload_n 0, 1) := by decide +kernel
theorem d1_4_18 : decode prog_1_method_4_code 18 = .ok (.getfield 47, 3) := by decide +kernel
theorem d1_4_21 : decode prog_1_method_4_code 21 = .ok (.invokevirtual 94, 3) := by decide +kernel
theorem d10_3_0 : decode prog_10_method_3_code 0 = .ok (.aload_n 0, 1) := by decide +kernel
theorem d10_3_1 : decode prog_10_method_3_code 1 = .ok (.getfield 21, 3) := by decide +kernel
theorem d10_3_4 : decode prog_10_method_3_code 4 = .ok (.aload_n 0, 1) := by decide +kernel
theorem d10_3_5 : decode prog_10_method_3_code 5 = .ok (.invokevirtual 38, 3) := by decide +kernel
theorem d10_2_0 : decode prog_10_method_2_code 0 = .ok (.aload_n 0, 1) := by decide +kernel
theorem d10_2_1 : decode prog_10_method_2_code 1 = .ok (.getfield 17, 3) := by decide +kernel
theorem d10_2_4 : decode prog_10_method_2_code 4 = .ok (.iconst 1, 1) := by decide +kernel
theorem d10_2_5 : decode prog_10_method_2_code 5 = .ok (.iaload, 1) := by decide +kernel
theorem d10_2_6 : decode prog_10_method_2_code 6 = .ok (.aload_n 0, 1) := by decide +kernel
theorem d10_2_7 : decode prog_10_method_2_code 7 = .ok (.getfield 17, 3) := by decide +kernel
theorem d10_2_10 : decode prog_10_method_2_code 10 = .ok (.iconst 0, 1) := by decide +kernel
theorem d10_2_11 : decode prog_10_method_2_code 11 = .ok (.iaload, 1) := by decide +kernel
theorem d10_2_12 : decode prog_10_method_2_code 12 = .ok (.if_icmp .le 7, 3) := by decide +kernel
theorem d10_2_19 : decode prog_10_method_2_code 19 = .ok (.iconst 0, 1) := by decide +kernel
theorem d10_2_20 : decode prog_10_method_2_code 20 = .ok (.ireturn, 1) := by decide +kernel
def y10_2 : MethodName := { cls := "PagedValues$Store", name := "currentMeta", desc := "()I" }
theorem k690 : (Jvm.Cond.code ({ cls := "PagedValues$Store", name := "currentMeta", desc := "()I" } : Jvm.MethodName) prog_10_method_2_code (1 : Nat) (Option.some Jvm.ClassFile.FieldType.int)) ∈ TB := tk_3 210 rfl rfl
theorem k687 : (Jvm.Cond.methodLink "PagedValues$Store" (38 : Nat) ({ cls := "PagedValues$Store", name := "currentMeta", desc := "()I" } : Jvm.MethodName)) ∈ TB := tk_3 207 rfl rfl
theorem k688 : (Jvm.Cond.instanceMethod ({ cls := "PagedValues$Store", name := "currentMeta", desc := "()I" } : Jvm.MethodName)) ∈ TB := tk_3 208 rfl rfl
theorem k689 : (Jvm.Cond.selects "PagedValues$Store" ({ cls := "PagedValues$Store", name := "currentMeta", desc := "()I" } : Jvm.MethodName) ({ cls := "PagedValues$Store", name := "currentMeta", desc := "()I" } : Jvm.MethodName)) ∈ TB := tk_3 209 rfl rfl
theorem d10_3_8 : decode prog_10_method_3_code 8 = .ok (.iaload, 1) := by decide +kernel
theorem d10_3_9 : decode prog_10_method_3_code 9 = .ok (.ireturn, 1) := by decide +kernel
def y10_3 : MethodName := { cls := "PagedValues$Store", name := "currentRoot", desc := "()I" }
theorem k686 : (Jvm.Cond.code ({ cls := "PagedValues$Store", name := "currentRoot", desc := "()I" } : Jvm.MethodName) prog_10_method_3_code (1 : Nat) (Option.some Jvm.ClassFile.FieldType.int)) ∈ TB := tk_3 206 rfl rfl
theorem k745 : (Jvm.Cond.methodLink "PagedValues" (94 : Nat) ({ cls := "PagedValues$Store", name := "currentRoot", desc := "()I" } : Jvm.MethodName)) ∈ TB := tk_4 25 rfl rfl
theorem k684 : (Jvm.Cond.instanceMethod ({ cls := "PagedValues$Store", name := "currentRoot", desc := "()I" } : Jvm.MethodName)) ∈ TB := tk_3 204 rfl rfl
theorem k685 : (Jvm.Cond.selects "PagedValues$Store" ({ cls := "PagedValues$Store", name := "currentRoot", desc := "()I" } : Jvm.MethodName) ({ cls := "PagedValues$Store", name := "currentRoot", desc := "()I" } : Jvm.MethodName)) ∈ TB := tk_3 205 rfl rfl
theorem d1_4_24 : decode prog_1_method_4_code 24 = .ok (.iload_n 1, 1) := by decide +kernel
theorem d1_4_25 : decode prog_1_method_4_code 25 = .ok (.invokevirtual 98, 3) := by decide +kernel
theorem d10_11_0 : decode prog_10_method_11_code 0 = .ok (.iload_n 2, 1) := by decide +kernel
theorem d10_11_1 : decode prog_10_method_11_code 1 = .ok (.invokestatic 52, 3) := by decide +kernel
theorem kn703 : (Jvm.Cond.methodLinkNest "PagedValues$Store" (52 : Nat) ({ cls := "PagedValues", name := "isId", desc := "(I)Z" } : Jvm.MethodName) "PagedValues") ∈ NW := tn_3 223 rfl rfl
theorem d10_11_4 : decode prog_10_method_11_code 4 = .ok (.ifCond .ne 5, 3) := by decide +kernel
theorem d10_11_9 : decode prog_10_method_11_code 9 = .ok (.aload_n 0, 1) := by decide +kernel
theorem d10_11_10 : decode prog_10_method_11_code 10 = .ok (.iload_n 1, 1) := by decide +kernel
theorem d10_11_11 : decode prog_10_method_11_code 11 = .ok (.iload_n 2, 1) := by decide +kernel
theorem d10_11_12 : decode prog_10_method_11_code 12 = .ok (.iconst 4, 1) := by decide +kernel
theorem d10_11_13 : decode prog_10_method_11_code 13 = .ok (.idiv, 1) := by decide +kernel
theorem d10_11_14 : decode prog_10_method_11_code 14 = .ok (.invokevirtual 55, 3) := by decide +kernel
theorem d10_11_17 : decode prog_10_method_11_code 17 = .ok (.istore_n 3, 1) := by decide +kernel
theorem d10_11_18 : decode prog_10_method_11_code 18 = .ok (.iload_n 3, 1) := by decide +kernel
theorem d10_11_19 : decode prog_10_method_11_code 19 = .ok (.iconst (-1), 1) := by decide +kernel
theorem d10_11_20 : decode prog_10_method_11_code 20 = .ok (.if_icmp .ne 7, 3) := by decide +kernel
theorem d10_11_23 : decode prog_10_method_11_code 23 = .ok (.aconst_null, 1) := by decide +kernel
theorem d10_11_24 : decode prog_10_method_11_code 24 = .ok (.goto 16, 3) := by decide +kernel
theorem d10_11_40 : decode prog_10_method_11_code 40 = .ok (.areturn, 1) := by decide +kernel
theorem d10_11_7 : decode prog_10_method_11_code 7 = .ok (.aconst_null, 1) := by decide +kernel
theorem d10_11_8 : decode prog_10_method_11_code 8 = .ok (.areturn, 1) := by decide +kernel
def y10_11 : MethodName := { cls := "PagedValues$Store", name := "document", desc := "(II)LPagedValues$Value;" }
theorem k702 : (Jvm.Cond.code ({ cls := "PagedValues$Store", name := "document", desc := "(II)LPagedValues$Value;" } : Jvm.MethodName) prog_10_method_11_code (4 : Nat) (Option.some (Jvm.ClassFile.FieldType.object "PagedValues$Value"))) ∈ TB := tk_3 222 rfl rfl
theorem k746 : (Jvm.Cond.methodLink "PagedValues" (98 : Nat) ({ cls := "PagedValues$Store", name := "document", desc := "(II)LPagedValues$Value;" } : Jvm.MethodName)) ∈ TB := tk_4 26 rfl rfl
theorem k700 : (Jvm.Cond.instanceMethod ({ cls := "PagedValues$Store", name := "document", desc := "(II)LPagedValues$Value;" } : Jvm.MethodName)) ∈ TB := tk_3 220 rfl rfl
theorem k701 : (Jvm.Cond.selects "PagedValues$Store" ({ cls := "PagedValues$Store", name := "document", desc := "(II)LPagedValues$Value;" } : Jvm.MethodName) ({ cls := "PagedValues$Store", name := "document", desc := "(II)LPagedValues$Value;" } : Jvm.MethodName)) ∈ TB := tk_3 221 rfl rfl
theorem d1_4_28 : decode prog_1_method_4_code 28 = .ok (.astore_n 2, 1) := by decide +kernel
theorem d1_4_29 : decode prog_1_method_4_code 29 = .ok (.aload_n 2, 1) := by decide +kernel
theorem d1_4_30 : decode prog_1_method_4_code 30 = .ok (.ifnonnull 5, 3) := by decide +kernel
theorem d1_4_33 : decode prog_1_method_4_code 33 = .ok (.iconst (-1), 1) := by decide +kernel
theorem d1_4_34 : decode prog_1_method_4_code 34 = .ok (.ireturn, 1) := by decide +kernel
def y1_4 : MethodName := { cls := "PagedValues", name := "patch", desc := "(I)I" }
theorem d1_5_0 : decode prog_1_method_5_code 0 = .ok (.aload_n 0, 1) := by decide +kernel
theorem d1_5_1 : decode prog_1_method_5_code 1 = .ok (.getfield 47, 3) := by decide +kernel
theorem d1_5_4 : decode prog_1_method_5_code 4 = .ok (.getfield 58, 3) := by decide +kernel
theorem d1_5_7 : decode prog_1_method_5_code 7 = .ok (.ifCond .eq 6, 3) := by decide +kernel
theorem d1_5_13 : decode prog_1_method_5_code 13 = .ok (.aload_n 0, 1) := by decide +kernel
theorem d1_5_14 : decode prog_1_method_5_code 14 = .ok (.getfield 47, 3) := by decide +kernel
theorem d1_5_17 : decode prog_1_method_5_code 17 = .ok (.aload_n 0, 1) := by decide +kernel
theorem d1_5_18 : decode prog_1_method_5_code 18 = .ok (.getfield 47, 3) := by decide +kernel
theorem d1_5_21 : decode prog_1_method_5_code 21 = .ok (.invokevirtual 94, 3) := by decide +kernel
theorem d1_5_24 : decode prog_1_method_5_code 24 = .ok (.iload_n 1, 1) := by decide +kernel
theorem d1_5_25 : decode prog_1_method_5_code 25 = .ok (.invokevirtual 98, 3) := by decide +kernel
theorem d1_5_28 : decode prog_1_method_5_code 28 = .ok (.ifnonnull 5, 3) := by decide +kernel
theorem d1_5_31 : decode prog_1_method_5_code 31 = .ok (.iconst (-1), 1) := by decide +kernel
theorem d1_5_32 : decode prog_1_method_5_code 32 = .ok (.ireturn, 1) := by decide +kernel
def y1_5 : MethodName := { cls := "PagedValues", name := "remove", desc := "(I)I" }
theorem d1_7_0 : decode prog_1_method_7_code 0 = .ok (.aload_n 0, 1) := by decide +kernel
theorem d1_7_1 : decode prog_1_method_7_code 1 = .ok (.getfield 40, 3) := by decide +kernel
theorem d1_7_4 : decode prog_1_method_7_code 4 = .ok (.iload_n 1, 1) := by decide +kernel
theorem d1_7_5 : decode prog_1_method_7_code 5 = .ok (.invokevirtual 136, 3) := by decide +kernel
theorem d3_3_0 : decode prog_3_method_3_code 0 = .ok (.iload_n 1, 1) := by decide +kernel
theorem d3_3_1 : decode prog_3_method_3_code 1 = .ok (.ifCond .lt 15, 3) := by decide +kernel
theorem d3_3_16 : decode prog_3_method_3_code 16 = .ok (.iconst 0, 1) := by decide +kernel
theorem d3_3_17 : decode prog_3_method_3_code 17 = .ok (.ireturn, 1) := by decide +kernel
theorem d3_3_4 : decode prog_3_method_3_code 4 = .ok (.iload_n 1, 1) := by decide +kernel
theorem d3_3_5 : decode prog_3_method_3_code 5 = .ok (.aload_n 0, 1) := by decide +kernel
theorem d3_3_6 : decode prog_3_method_3_code 6 = .ok (.getfield 27, 3) := by decide +kernel
theorem k189 : (Jvm.Cond.fieldLink "PagedValues$Finder" (27 : Nat) "PagedValues$Finder" "count" "I") ∈ TB := tk_1 189 rfl rfl
theorem d3_3_9 : decode prog_3_method_3_code 9 = .ok (.if_icmp .ge 7, 3) := by decide +kernel
def y3_3 : MethodName := { cls := "PagedValues$Finder", name := "has", desc := "(I)Z" }
theorem k990 : (Jvm.Cond.code ({ cls := "PagedValues$Finder", name := "has", desc := "(I)Z" } : Jvm.MethodName) prog_3_method_3_code (2 : Nat) (Option.some Jvm.ClassFile.FieldType.boolean)) ∈ TB := tk_5 30 rfl rfl
theorem k987 : (Jvm.Cond.methodLink "PagedValues" (136 : Nat) ({ cls := "PagedValues$Finder", name := "has", desc := "(I)Z" } : Jvm.MethodName)) ∈ TB := tk_5 27 rfl rfl
theorem k988 : (Jvm.Cond.instanceMethod ({ cls := "PagedValues$Finder", name := "has", desc := "(I)Z" } : Jvm.MethodName)) ∈ TB := tk_5 28 rfl rfl
theorem k989 : (Jvm.Cond.selects "PagedValues$Finder" ({ cls := "PagedValues$Finder", name := "has", desc := "(I)Z" } : Jvm.MethodName) ({ cls := "PagedValues$Finder", name := "has", desc := "(I)Z" } : Jvm.MethodName)) ∈ TB := tk_5 29 rfl rfl
theorem d1_7_8 : decode prog_1_method_7_code 8 = .ok (.ifCond .eq 15, 3) := by decide +kernel
theorem d1_7_23 : decode prog_1_method_7_code 23 = .ok (.iconst (-1), 1) := by decide +kernel
theorem d1_7_24 : decode prog_1_method_7_code 24 = .ok (.ireturn, 1) := by decide +kernel
def y1_7 : MethodName := { cls := "PagedValues", name := "result", desc := "(I)I" }
theorem d1_8_0 : decode prog_1_method_8_code 0 = .ok (.aload_n 0, 1) := by decide +kernel
theorem d1_8_1 : decode prog_1_method_8_code 1 = .ok (.getfield 40, 3) := by decide +kernel
theorem d1_8_4 : decode prog_1_method_8_code 4 = .ok (.iload_n 1, 1) := by decide +kernel
theorem d1_8_5 : decode prog_1_method_8_code 5 = .ok (.invokevirtual 136, 3) := by decide +kernel
theorem d1_8_8 : decode prog_1_method_8_code 8 = .ok (.ifCond .eq 19, 3) := by decide +kernel
theorem d1_8_27 : decode prog_1_method_8_code 27 = .ok (.iconst (-1), 1) := by decide +kernel
theorem d1_8_28 : decode prog_1_method_8_code 28 = .ok (.ireturn, 1) := by decide +kernel
def y1_8 : MethodName := { cls := "PagedValues", name := "show", desc := "(I)I" }
theorem d1_10_0 : decode prog_1_method_10_code 0 = .ok (.iload_n 1, 1) := by decide +kernel
theorem d1_10_1 : decode prog_1_method_10_code 1 = .ok (.ifCond .lt 25, 3) := by decide +kernel
theorem d1_10_26 : decode prog_1_method_10_code 26 = .ok (.iconst (-1), 1) := by decide +kernel
theorem d1_10_27 : decode prog_1_method_10_code 27 = .ok (.ireturn, 1) := by decide +kernel
theorem d1_10_4 : decode prog_1_method_10_code 4 = .ok (.iload_n 1, 1) := by decide +kernel
theorem d1_10_5 : decode prog_1_method_10_code 5 = .ok (.aload_n 0, 1) := by decide +kernel
theorem d1_10_6 : decode prog_1_method_10_code 6 = .ok (.getfield 54, 3) := by decide +kernel
theorem d1_10_9 : decode prog_1_method_10_code 9 = .ok (.invokevirtual 151, 3) := by decide +kernel
theorem d22_93_0 : decode prog_22_method_93_code 0 = .ok (.aload_n 0, 1) := by decide +kernel
theorem d22_93_1 : decode prog_22_method_93_code 1 = .ok (.invokespecial 343, 3) := by decide +kernel
theorem d16_6_0 : decode prog_16_method_6_code 0 = .ok (.aload_n 0, 1) := by decide +kernel
theorem d16_6_1 : decode prog_16_method_6_code 1 = .ok (.getfield 79, 3) := by decide +kernel
theorem k63 : (Jvm.Cond.fieldLink "java/lang/AbstractStringBuilder" (79 : Nat) "java/lang/AbstractStringBuilder" "count" "I") ∈ TB := tk_1 63 rfl rfl
theorem d16_6_4 : decode prog_16_method_6_code 4 = .ok (.ireturn, 1) := by decide +kernel
def y16_6 : MethodName := { cls := "java/lang/AbstractStringBuilder", name := "length", desc := "()I" }
theorem k482 : (Jvm.Cond.code ({ cls := "java/lang/AbstractStringBuilder", name := "length", desc := "()I" } : Jvm.MethodName) prog_16_method_6_code (1 : Nat) (Option.some Jvm.ClassFile.FieldType.int)) ∈ TB := tk_3 2 rfl rfl
theorem k481 : (Jvm.Cond.methodLink "java/lang/StringBuilder" (343 : Nat) ({ cls := "java/lang/AbstractStringBuilder", name := "length", desc := "()I" } : Jvm.MethodName)) ∈ TB := tk_3 1 rfl rfl
theorem k476 : (Jvm.Cond.instanceMethod ({ cls := "java/lang/AbstractStringBuilder", name := "length", desc := "()I" } : Jvm.MethodName)) ∈ TB := tk_2 236 rfl rfl
theorem k477 : (Jvm.Cond.sameMethod "java/lang/AbstractStringBuilder" "java/lang/AbstractStringBuilder" "length" "()I") ∈ TB := tk_2 237 rfl rfl
theorem k72 : (Jvm.Cond.superclass "java/lang/StringBuilder" "java/lang/AbstractStringBuilder") ∈ TB := tk_1 72 rfl rfl
theorem d22_93_4 : decode prog_22_method_93_code 4 = .ok (.ireturn, 1) := by decide +kernel
def y22_93 : MethodName := { cls := "java/lang/StringBuilder", name := "length", desc := "()I" }
theorem k480 : (Jvm.Cond.code ({ cls := "java/lang/StringBuilder", name := "length", desc := "()I" } : Jvm.MethodName) prog_22_method_93_code (1 : Nat) (Option.some Jvm.ClassFile.FieldType.int)) ∈ TB := tk_3 0 rfl rfl
theorem k1088 : (Jvm.Cond.methodLink "PagedValues" (151 : Nat) ({ cls := "java/lang/StringBuilder", name := "length", desc := "()I" } : Jvm.MethodName)) ∈ TB := tk_5 128 rfl rfl
theorem k479 : (Jvm.Cond.instanceMethod ({ cls := "java/lang/StringBuilder", name := "length", desc := "()I" } : Jvm.MethodName)) ∈ TB := tk_2 239 rfl rfl
theorem k1664 : (Jvm.Cond.selects "java/lang/StringBuilder" ({ cls := "java/lang/StringBuilder", name := "length", desc := "()I" } : Jvm.MethodName) ({ cls := "java/lang/StringBuilder", name := "length", desc := "()I" } : Jvm.MethodName)) ∈ TB := tk_7 224 rfl rfl
theorem d1_10_12 : decode prog_1_method_10_code 12 = .ok (.if_icmp .ge 14, 3) := by decide +kernel
def y1_10 : MethodName := { cls := "PagedValues", name := "output", desc := "(I)I" }
theorem d1_11_0 : decode prog_1_method_11_code 0 = .ok (.aload_n 0, 1) := by decide +kernel
theorem d1_11_1 : decode prog_1_method_11_code 1 = .ok (.getfield 47, 3) := by decide +kernel
theorem d1_11_4 : decode prog_1_method_11_code 4 = .ok (.getfield 58, 3) := by decide +kernel
theorem d1_11_7 : decode prog_1_method_11_code 7 = .ok (.ifCond .eq 8, 3) := by decide +kernel
theorem d1_11_15 : decode prog_1_method_11_code 15 = .ok (.aload_n 0, 1) := by decide +kernel
theorem d1_11_16 : decode prog_1_method_11_code 16 = .ok (.getfield 47, 3) := by decide +kernel
theorem d1_11_19 : decode prog_1_method_11_code 19 = .ok (.invokevirtual 157, 3) := by decide +kernel
theorem d10_7_0 : decode prog_10_method_7_code 0 = .ok (.iconst 0, 1) := by decide +kernel
theorem d10_7_1 : decode prog_10_method_7_code 1 = .ok (.istore_n 1, 1) := by decide +kernel
theorem d10_7_2 : decode prog_10_method_7_code 2 = .ok (.iload_n 1, 1) := by decide +kernel
theorem d10_7_3 : decode prog_10_method_7_code 3 = .ok (.iconst 3, 1) := by decide +kernel
theorem d10_7_4 : decode prog_10_method_7_code 4 = .ok (.if_icmp .ge 37, 3) := by decide +kernel
theorem d10_7_7 : decode prog_10_method_7_code 7 = .ok (.aload_n 0, 1) := by decide +kernel
theorem d10_7_8 : decode prog_10_method_7_code 8 = .ok (.getfield 24, 3) := by decide +kernel
theorem d10_7_11 : decode prog_10_method_7_code 11 = .ok (.iload_n 1, 1) := by decide +kernel
theorem d10_7_12 : decode prog_10_method_7_code 12 = .ok (.baload, 1) := by decide +kernel
theorem d10_7_13 : decode prog_10_method_7_code 13 = .ok (.ifCond .ne 22, 3) := by decide +kernel
theorem d10_7_16 : decode prog_10_method_7_code 16 = .ok (.aload_n 0, 1) := by decide +kernel
theorem d10_7_17 : decode prog_10_method_7_code 17 = .ok (.getfield 24, 3) := by decide +kernel
theorem d10_7_20 : decode prog_10_method_7_code 20 = .ok (.iload_n 1, 1) := by decide +kernel
theorem d10_7_21 : decode prog_10_method_7_code 21 = .ok (.iconst 1, 1) := by decide +kernel
theorem d10_7_22 : decode prog_10_method_7_code 22 = .ok (.bastore, 1) := by decide +kernel
theorem d10_7_23 : decode prog_10_method_7_code 23 = .ok (.aload_n 0, 1) := by decide +kernel
theorem d10_7_24 : decode prog_10_method_7_code 24 = .ok (.getfield 28, 3) := by decide +kernel
theorem d10_7_27 : decode prog_10_method_7_code 27 = .ok (.iload_n 1, 1) := by decide +kernel
theorem d10_7_28 : decode prog_10_method_7_code 28 = .ok (.aload_n 0, 1) := by decide +kernel
theorem d10_7_29 : decode prog_10_method_7_code 29 = .ok (.invokevirtual 46, 3) := by decide +kernel
theorem k683 : (Jvm.Cond.methodLink "PagedValues$Store" (46 : Nat) ({ cls := "PagedValues$Store", name := "currentRoot", desc := "()I" } : Jvm.MethodName)) ∈ TB := tk_3 203 rfl rfl
theorem d10_7_32 : decode prog_10_method_7_code 32 = .ok (.iastore, 1) := by decide +kernel
theorem d10_7_33 : decode prog_10_method_7_code 33 = .ok (.iload_n 1, 1) := by decide +kernel
theorem d10_7_34 : decode prog_10_method_7_code 34 = .ok (.ireturn, 1) := by decide +kernel
def y10_7 : MethodName := { cls := "PagedValues$Store", name := "openReader", desc := "()I" }
theorem k1114 : (Jvm.Cond.code ({ cls := "PagedValues$Store", name := "openReader", desc := "()I" } : Jvm.MethodName) prog_10_method_7_code (2 : Nat) (Option.some Jvm.ClassFile.FieldType.int)) ∈ TB := tk_5 154 rfl rfl
theorem k1111 : (Jvm.Cond.methodLink "PagedValues" (157 : Nat) ({ cls := "PagedValues$Store", name := "openReader", desc := "()I" } : Jvm.MethodName)) ∈ TB := tk_5 151 rfl rfl
theorem k1112 : (Jvm.Cond.instanceMethod ({ cls := "PagedValues$Store", name := "openReader", desc := "()I" } : Jvm.MethodName)) ∈ TB := tk_5 152 rfl rfl
theorem k1113 : (Jvm.Cond.selects "PagedValues$Store" ({ cls := "PagedValues$Store", name := "openReader", desc := "()I" } : Jvm.MethodName) ({ cls := "PagedValues$Store", name := "openReader", desc := "()I" } : Jvm.MethodName)) ∈ TB := tk_5 153 rfl rfl
theorem d1_11_22 : decode prog_1_method_11_code 22 = .ok (.ireturn, 1) := by decide +kernel
def y1_11 : MethodName := { cls := "PagedValues", name := "open", desc := "()I" }
theorem d1_14_0 : decode prog_1_method_14_code 0 = .ok (.aload_n 0, 1) := by decide +kernel
theorem d1_14_1 : decode prog_1_method_14_code 1 = .ok (.getfield 47, 3) := by decide +kernel
theorem d1_14_4 : decode prog_1_method_14_code 4 = .ok (.getfield 58, 3) := by decide +kernel
theorem d1_14_7 : decode prog_1_method_14_code 7 = .ok (.istore_n 1, 1) := by decide +kernel
theorem d1_14_8 : decode prog_1_method_14_code 8 = .ok (.aload_n 0, 1) := by decide +kernel
theorem d1_14_9 : decode prog_1_method_14_code 9 = .ok (.getfield 47, 3) := by decide +kernel
theorem d1_14_12 : decode prog_1_method_14_code 12 = .ok (.iconst 0, 1) := by decide +kernel
theorem d1_14_13 : decode prog_1_method_14_code 13 = .ok (.putfield 58, 3) := by decide +kernel
theorem d1_14_16 : decode prog_1_method_14_code 16 = .ok (.iload_n 1, 1) := by decide +kernel
theorem d1_14_17 : decode prog_1_method_14_code 17 = .ok (.ireturn, 1) := by decide +kernel
def y1_14 : MethodName := { cls := "PagedValues", name := "restart", desc := "()Z" }
theorem d1_13_0 : decode prog_1_method_13_code 0 = .ok (.aload_n 0, 1) := by decide +kernel
theorem d1_13_1 : decode prog_1_method_13_code 1 = .ok (.getfield 47, 3) := by decide +kernel
theorem d1_13_4 : decode prog_1_method_13_code 4 = .ok (.getfield 58, 3) := by decide +kernel
theorem d1_13_7 : decode prog_1_method_13_code 7 = .ok (.ifCond .ne 14, 3) := by decide +kernel
theorem d1_13_10 : decode prog_1_method_13_code 10 = .ok (.iload_n 1, 1) := by decide +kernel
theorem d1_13_11 : decode prog_1_method_13_code 11 = .ok (.iconst 1, 1) := by decide +kernel
theorem d1_13_12 : decode prog_1_method_13_code 12 = .ok (.if_icmp .lt 9, 3) := by decide +kernel
theorem d1_13_21 : decode prog_1_method_13_code 21 = .ok (.iconst 0, 1) := by decide +kernel
theorem d1_13_22 : decode prog_1_method_13_code 22 = .ok (.ireturn, 1) := by decide +kernel
theorem d1_13_15 : decode prog_1_method_13_code 15 = .ok (.iload_n 1, 1) := by decide +kernel
theorem d1_13_16 : decode prog_1_method_13_code 16 = .ok (.bipush 20, 2) := by decide +kernel
theorem d1_13_18 : decode prog_1_method_13_code 18 = .ok (.if_icmp .le 5, 3) := by decide +kernel
theorem d1_13_23 : decode prog_1_method_13_code 23 = .ok (.aload_n 0, 1) := by decide +kernel
theorem d1_13_24 : decode prog_1_method_13_code 24 = .ok (.getfield 47, 3) := by decide +kernel
theorem d1_13_27 : decode prog_1_method_13_code 27 = .ok (.iload_n 1, 1) := by decide +kernel
theorem d1_13_28 : decode prog_1_method_13_code 28 = .ok (.putfield 163, 3) := by decide +kernel
theorem kn245 : (Jvm.Cond.fieldLinkNest "PagedValues" (163 : Nat) "PagedValues$Store" "blocksLeft" "I" "PagedValues") ∈ NW := tn_2 5 rfl rfl
theorem d1_13_31 : decode prog_1_method_13_code 31 = .ok (.iconst 1, 1) := by decide +kernel
theorem d1_13_32 : decode prog_1_method_13_code 32 = .ok (.ireturn, 1) := by decide +kernel
def y1_13 : MethodName := { cls := "PagedValues", name := "fuse", desc := "(I)Z" }
theorem d1_15_0 : decode prog_1_method_15_code 0 = .ok (.iload_n 1, 1) := by decide +kernel
theorem d1_15_1 : decode prog_1_method_15_code 1 = .ok (.ifCond .lt 20, 3) := by decide +kernel
theorem d1_15_21 : decode prog_1_method_15_code 21 = .ok (.iconst (-1), 1) := by decide +kernel
theorem d1_15_22 : decode prog_1_method_15_code 22 = .ok (.ireturn, 1) := by decide +kernel
theorem d1_15_4 : decode prog_1_method_15_code 4 = .ok (.iload_n 1, 1) := by decide +kernel
theorem d1_15_5 : decode prog_1_method_15_code 5 = .ok (.bipush 12, 2) := by decide +kernel
theorem d1_15_7 : decode prog_1_method_15_code 7 = .ok (.if_icmp .ge 14, 3) := by decide +kernel
theorem d1_15_10 : decode prog_1_method_15_code 10 = .ok (.aload_n 0, 1) := by decide +kernel
theorem d1_15_11 : decode prog_1_method_15_code 11 = .ok (.getfield 47, 3) := by decide +kernel
theorem d1_15_14 : decode prog_1_method_15_code 14 = .ok (.iload_n 1, 1) := by decide +kernel
theorem d1_15_15 : decode prog_1_method_15_code 15 = .ok (.invokevirtual 166, 3) := by decide +kernel
theorem k711 : (Jvm.Cond.code ({ cls := "PagedValues$Store", name := "useOf", desc := "(I)I" } : Jvm.MethodName) prog_10_method_13_code (4 : Nat) (Option.some Jvm.ClassFile.FieldType.int)) ∈ TB := tk_3 231 rfl rfl
theorem k1135 : (Jvm.Cond.methodLink "PagedValues" (166 : Nat) ({ cls := "PagedValues$Store", name := "useOf", desc := "(I)I" } : Jvm.MethodName)) ∈ TB := tk_5 175 rfl rfl
theorem k709 : (Jvm.Cond.instanceMethod ({ cls := "PagedValues$Store", name := "useOf", desc := "(I)I" } : Jvm.MethodName)) ∈ TB := tk_3 229 rfl rfl
theorem k710 : (Jvm.Cond.selects "PagedValues$Store" ({ cls := "PagedValues$Store", name := "useOf", desc := "(I)I" } : Jvm.MethodName) ({ cls := "PagedValues$Store", name := "useOf", desc := "(I)I" } : Jvm.MethodName)) ∈ TB := tk_3 230 rfl rfl
theorem d1_15_18 : decode prog_1_method_15_code 18 = .ok (.goto 4, 3) := by decide +kernel
def y1_15 : MethodName := { cls := "PagedValues", name := "page", desc := "(I)I" }
theorem d1_6_0 : decode prog_1_method_6_code 0 = .ok (.aload_n 0, 1) := by decide +kernel
theorem d1_6_1 : decode prog_1_method_6_code 1 = .ok (.getfield 47, 3) := by decide +kernel
theorem d1_6_4 : decode prog_1_method_6_code 4 = .ok (.getfield 58, 3) := by decide +kernel
theorem d1_6_7 : decode prog_1_method_6_code 7 = .ok (.ifCond .eq 6, 3) := by decide +kernel
theorem d1_6_13 : decode prog_1_method_6_code 13 = .ok (.aload_n 0, 1) := by decide +kernel
theorem d1_6_14 : decode prog_1_method_6_code 14 = .ok (.getfield 47, 3) := by decide +kernel
theorem d1_6_17 : decode prog_1_method_6_code 17 = .ok (.iload_n 1, 1) := by decide +kernel
theorem d1_6_18 : decode prog_1_method_6_code 18 = .ok (.invokevirtual 112, 3) := by decide +kernel
theorem k883 : (Jvm.Cond.code ({ cls := "PagedValues$Store", name := "canRead", desc := "(I)Z" } : Jvm.MethodName) prog_10_method_5_code (2 : Nat) (Option.some Jvm.ClassFile.FieldType.boolean)) ∈ TB := tk_4 163 rfl rfl
theorem k880 : (Jvm.Cond.methodLink "PagedValues" (112 : Nat) ({ cls := "PagedValues$Store", name := "canRead", desc := "(I)Z" } : Jvm.MethodName)) ∈ TB := tk_4 160 rfl rfl
theorem k881 : (Jvm.Cond.instanceMethod ({ cls := "PagedValues$Store", name := "canRead", desc := "(I)Z" } : Jvm.MethodName)) ∈ TB := tk_4 161 rfl rfl
theorem k882 : (Jvm.Cond.selects "PagedValues$Store" ({ cls := "PagedValues$Store", name := "canRead", desc := "(I)Z" } : Jvm.MethodName) ({ cls := "PagedValues$Store", name := "canRead", desc := "(I)Z" } : Jvm.MethodName)) ∈ TB := tk_4 162 rfl rfl
theorem d1_6_21 : decode prog_1_method_6_code 21 = .ok (.ifCond .ne 5, 3) := by decide +kernel
theorem d1_6_26 : decode prog_1_method_6_code 26 = .ok (.aload_n 0, 1) := by decide +kernel
theorem d1_6_27 : decode prog_1_method_6_code 27 = .ok (.getfield 47, 3) := by decide +kernel
theorem d1_6_30 : decode prog_1_method_6_code 30 = .ok (.iload_n 1, 1) := by decide +kernel
theorem d1_6_31 : decode prog_1_method_6_code 31 = .ok (.invokevirtual 115, 3) := by decide +kernel
theorem d10_6_0 : decode prog_10_method_6_code 0 = .ok (.aload_n 0, 1) := by decide +kernel
theorem d10_6_1 : decode prog_10_method_6_code 1 = .ok (.iload_n 1, 1) := by decide +kernel
theorem d10_6_2 : decode prog_10_method_6_code 2 = .ok (.invokevirtual 42, 3) := by decide +kernel
theorem d10_6_5 : decode prog_10_method_6_code 5 = .ok (.ifCond .eq 12, 3) := by decide +kernel
theorem d10_6_17 : decode prog_10_method_6_code 17 = .ok (.aload_n 0, 1) := by decide +kernel
theorem d10_6_18 : decode prog_10_method_6_code 18 = .ok (.invokevirtual 46, 3) := by decide +kernel
theorem d10_6_21 : decode prog_10_method_6_code 21 = .ok (.ireturn, 1) := by decide +kernel
def y10_6 : MethodName := { cls := "PagedValues$Store", name := "rootFor", desc := "(I)I" }
theorem k891 : (Jvm.Cond.code ({ cls := "PagedValues$Store", name := "rootFor", desc := "(I)I" } : Jvm.MethodName) prog_10_method_6_code (2 : Nat) (Option.some Jvm.ClassFile.FieldType.int)) ∈ TB := tk_4 171 rfl rfl
theorem k888 : (Jvm.Cond.methodLink "PagedValues" (115 : Nat) ({ cls := "PagedValues$Store", name := "rootFor", desc := "(I)I" } : Jvm.MethodName)) ∈ TB := tk_4 168 rfl rfl
theorem k889 : (Jvm.Cond.instanceMethod ({ cls := "PagedValues$Store", name := "rootFor", desc := "(I)I" } : Jvm.MethodName)) ∈ TB := tk_4 169 rfl rfl
theorem k890 : (Jvm.Cond.selects "PagedValues$Store" ({ cls := "PagedValues$Store", name := "rootFor", desc := "(I)I" } : Jvm.MethodName) ({ cls := "PagedValues$Store", name := "rootFor", desc := "(I)I" } : Jvm.MethodName)) ∈ TB := tk_4 170 rfl rfl
theorem d1_6_34 : decode prog_1_method_6_code 34 = .ok (.istore_n 3, 1) := by decide +kernel
theorem d1_6_35 : decode prog_1_method_6_code 35 = .ok (.iload_n 2, 1) := by decide +kernel
theorem d1_6_36 : decode prog_1_method_6_code 36 = .ok (.iconst (-1), 1) := by decide +kernel
theorem d1_6_37 : decode prog_1_method_6_code 37 = .ok (.if_icmp .eq 17, 3) := by decide +kernel
theorem d1_6_54 : decode prog_1_method_6_code 54 = .ok (.aload_n 0, 1) := by decide +kernel
theorem d1_6_55 : decode prog_1_method_6_code 55 = .ok (.getfield 33, 3) := by decide +kernel
theorem d1_6_58 : decode prog_1_method_6_code 58 = .ok (.aload_n 0, 1) := by decide +kernel
theorem d1_6_59 : decode prog_1_method_6_code 59 = .ok (.getfield 10, 3) := by decide +kernel
theorem d1_6_62 : decode prog_1_method_6_code 62 = .ok (.invokevirtual 119, 3) := by decide +kernel
theorem d8_2_0 : decode prog_8_method_2_code 0 = .ok (.aload_n 0, 1) := by decide +kernel
theorem d8_2_1 : decode prog_8_method_2_code 1 = .ok (.iconst 0, 1) := by decide +kernel
theorem d8_2_2 : decode prog_8_method_2_code 2 = .ok (.putfield 18, 3) := by decide +kernel
theorem k168 : (Jvm.Cond.fieldLink "PagedValues$Query" (18 : Nat) "PagedValues$Query" "count" "I") ∈ TB := tk_1 168 rfl rfl
theorem d8_2_5 : decode prog_8_method_2_code 5 = .ok (.aload_n 1, 1) := by decide +kernel
theorem d8_2_6 : decode prog_8_method_2_code 6 = .ok (.invokevirtual 22, 3) := by decide +kernel
theorem k896 : (Jvm.Cond.methodLink "PagedValues$Query" (22 : Nat) ({ cls := "PagedValues$Text", name := "begin", desc := "()V" } : Jvm.MethodName)) ∈ TB := tk_4 176 rfl rfl
theorem d8_2_9 : decode prog_8_method_2_code 9 = .ok (.aload_n 1, 1) := by decide +kernel
theorem d8_2_10 : decode prog_8_method_2_code 10 = .ok (.bipush 36, 2) := by decide +kernel
theorem d8_2_12 : decode prog_8_method_2_code 12 = .ok (.invokevirtual 27, 3) := by decide +kernel
theorem d11_11_0 : decode prog_11_method_11_code 0 = .ok (.aload_n 0, 1) := by decide +kernel
theorem d11_11_1 : decode prog_11_method_11_code 1 = .ok (.iload_n 1, 1) := by decide +kernel
theorem d11_11_2 : decode prog_11_method_11_code 2 = .ok (.invokevirtual 32, 3) := by decide +kernel
theorem k381 : (Jvm.Cond.methodLink "PagedValues$Text" (32 : Nat) ({ cls := "PagedValues$Text", name := "take", desc := "(C)Z" } : Jvm.MethodName)) ∈ TB := tk_2 141 rfl rfl
theorem d11_11_5 : decode prog_11_method_11_code 5 = .ok (.istore_n 2, 1) := by decide +kernel
theorem d11_11_6 : decode prog_11_method_11_code 6 = .ok (.iload_n 2, 1) := by decide +kernel
theorem d11_11_7 : decode prog_11_method_11_code 7 = .ok (.ifCond .ne 7, 3) := by decide +kernel
theorem d11_11_10 : decode prog_11_method_11_code 10 = .ok (.aload_n 0, 1) := by decide +kernel
theorem d11_11_11 : decode prog_11_method_11_code 11 = .ok (.invokevirtual 36, 3) := by decide +kernel
theorem d11_11_14 : decode prog_11_method_11_code 14 = .ok (.iload_n 2, 1) := by decide +kernel
theorem d11_11_15 : decode prog_11_method_11_code 15 = .ok (.ireturn, 1) := by decide +kernel
def y11_11 : MethodName := { cls := "PagedValues$Text", name := "need", desc := "(C)Z" }
theorem k380 : (Jvm.Cond.code ({ cls := "PagedValues$Text", name := "need", desc := "(C)Z" } : Jvm.MethodName) prog_11_method_11_code (3 : Nat) (Option.some Jvm.ClassFile.FieldType.boolean)) ∈ TB := tk_2 140 rfl rfl
theorem k897 : (Jvm.Cond.methodLink "PagedValues$Query" (27 : Nat) ({ cls := "PagedValues$Text", name := "need", desc := "(C)Z" } : Jvm.MethodName)) ∈ TB := tk_4 177 rfl rfl
theorem k378 : (Jvm.Cond.instanceMethod ({ cls := "PagedValues$Text", name := "need", desc := "(C)Z" } : Jvm.MethodName)) ∈ TB := tk_2 138 rfl rfl
theorem k379 : (Jvm.Cond.selects "PagedValues$Text" ({ cls := "PagedValues$Text", name := "need", desc := "(C)Z" } : Jvm.MethodName) ({ cls := "PagedValues$Text", name := "need", desc := "(C)Z" } : Jvm.MethodName)) ∈ TB := tk_2 139 rfl rfl
theorem d8_2_15 : decode prog_8_method_2_code 15 = .ok (.pop, 1) := by decide +kernel
theorem d8_2_16 : decode prog_8_method_2_code 16 = .ok (.iconst 0, 1) := by decide +kernel
theorem d8_2_17 : decode prog_8_method_2_code 17 = .ok (.istore_n 2, 1) := by decide +kernel
theorem d8_2_18 : decode prog_8_method_2_code 18 = .ok (.iload_n 2, 1) := by decide +kernel
theorem d8_2_19 : decode prog_8_method_2_code 19 = .ok (.bipush 8, 2) := by decide +kernel
theorem d8_2_21 : decode prog_8_method_2_code 21 = .ok (.if_icmp .gt 28, 3) := by decide +kernel
theorem d8_2_24 : decode prog_8_method_2_code 24 = .ok (.aload_n 1, 1) := by decide +kernel
theorem d8_2_25 : decode prog_8_method_2_code 25 = .ok (.invokevirtual 31, 3) := by decide +kernel
theorem k898 : (Jvm.Cond.methodLink "PagedValues$Query" (31 : Nat) ({ cls := "PagedValues$Text", name := "isRight", desc := "()Z" } : Jvm.MethodName)) ∈ TB := tk_4 178 rfl rfl
theorem d8_2_28 : decode prog_8_method_2_code 28 = .ok (.ifCond .eq 21, 3) := by decide +kernel
theorem d8_2_49 : decode prog_8_method_2_code 49 = .ok (.return_, 1) := by decide +kernel
def y8_2 : MethodName := { cls := "PagedValues$Query", name := "parse", desc := "(LPagedValues$Text;)V" }
theorem k895 : (Jvm.Cond.code ({ cls := "PagedValues$Query", name := "parse", desc := "(LPagedValues$Text;)V" } : Jvm.MethodName) prog_8_method_2_code (3 : Nat) (Option.none : Option Jvm.ClassFile.FieldType)) ∈ TB := tk_4 175 rfl rfl
theorem k892 : (Jvm.Cond.methodLink "PagedValues" (119 : Nat) ({ cls := "PagedValues$Query", name := "parse", desc := "(LPagedValues$Text;)V" } : Jvm.MethodName)) ∈ TB := tk_4 172 rfl rfl
theorem k893 : (Jvm.Cond.instanceMethod ({ cls := "PagedValues$Query", name := "parse", desc := "(LPagedValues$Text;)V" } : Jvm.MethodName)) ∈ TB := tk_4 173 rfl rfl
theorem k894 : (Jvm.Cond.selects "PagedValues$Query" ({ cls := "PagedValues$Query", name := "parse", desc := "(LPagedValues$Text;)V" } : Jvm.MethodName) ({ cls := "PagedValues$Query", name := "parse", desc := "(LPagedValues$Text;)V" } : Jvm.MethodName)) ∈ TB := tk_4 174 rfl rfl
theorem d1_6_65 : decode prog_1_method_6_code 65 = .ok (.aload_n 0, 1) := by decide +kernel
theorem d1_6_66 : decode prog_1_method_6_code 66 = .ok (.getfield 10, 3) := by decide +kernel
theorem d1_6_69 : decode prog_1_method_6_code 69 = .ok (.invokevirtual 78, 3) := by decide +kernel
theorem d1_6_72 : decode prog_1_method_6_code 72 = .ok (.aload_n 0, 1) := by decide +kernel
theorem d1_6_73 : decode prog_1_method_6_code 73 = .ok (.getfield 40, 3) := by decide +kernel
theorem d1_6_76 : decode prog_1_method_6_code 76 = .ok (.invokevirtual 122, 3) := by decide +kernel
theorem d3_2_0 : decode prog_3_method_2_code 0 = .ok (.aload_n 0, 1) := by decide +kernel
theorem d3_2_1 : decode prog_3_method_2_code 1 = .ok (.iconst 0, 1) := by decide +kernel
theorem d3_2_2 : decode prog_3_method_2_code 2 = .ok (.putfield 27, 3) := by decide +kernel
theorem d3_2_5 : decode prog_3_method_2_code 5 = .ok (.aload_n 0, 1) := by decide +kernel
theorem d3_2_6 : decode prog_3_method_2_code 6 = .ok (.iconst 0, 1) := by decide +kernel
theorem d3_2_7 : decode prog_3_method_2_code 7 = .ok (.putfield 31, 3) := by decide +kernel
theorem k192 : (Jvm.Cond.fieldLink "PagedValues$Finder" (31 : Nat) "PagedValues$Finder" "tooMany" "Z") ∈ TB := tk_1 192 rfl rfl
theorem d3_2_10 : decode prog_3_method_2_code 10 = .ok (.return_, 1) := by decide +kernel
def y3_2 : MethodName := { cls := "PagedValues$Finder", name := "forget", desc := "()V" }
theorem k942 : (Jvm.Cond.code ({ cls := "PagedValues$Finder", name := "forget", desc := "()V" } : Jvm.MethodName) prog_3_method_2_code (1 : Nat) (Option.none : Option Jvm.ClassFile.FieldType)) ∈ TB := tk_4 222 rfl rfl
theorem k939 : (Jvm.Cond.methodLink "PagedValues" (122 : Nat) ({ cls := "PagedValues$Finder", name := "forget", desc := "()V" } : Jvm.MethodName)) ∈ TB := tk_4 219 rfl rfl
theorem k940 : (Jvm.Cond.instanceMethod ({ cls := "PagedValues$Finder", name := "forget", desc := "()V" } : Jvm.MethodName)) ∈ TB := tk_4 220 rfl rfl
theorem k941 : (Jvm.Cond.selects "PagedValues$Finder" ({ cls := "PagedValues$Finder", name := "forget", desc := "()V" } : Jvm.MethodName) ({ cls := "PagedValues$Finder", name := "forget", desc := "()V" } : Jvm.MethodName)) ∈ TB := tk_4 221 rfl rfl
theorem d1_6_79 : decode prog_1_method_6_code 79 = .ok (.aload_n 0, 1) := by decide +kernel
theorem d1_6_80 : decode prog_1_method_6_code 80 = .ok (.getfield 10, 3) := by decide +kernel
theorem d1_6_83 : decode prog_1_method_6_code 83 = .ok (.invokevirtual 125, 3) := by decide +kernel
theorem k943 : (Jvm.Cond.methodLink "PagedValues" (125 : Nat) ({ cls := "PagedValues$Text", name := "isRight", desc := "()Z" } : Jvm.MethodName)) ∈ TB := tk_4 223 rfl rfl
theorem d1_6_86 : decode prog_1_method_6_code 86 = .ok (.ifCond .ne 14, 3) := by decide +kernel
theorem d1_6_89 : decode prog_1_method_6_code 89 = .ok (.bipush (-100), 2) := by decide +kernel
theorem d1_6_91 : decode prog_1_method_6_code 91 = .ok (.aload_n 0, 1) := by decide +kernel
theorem d1_6_92 : decode prog_1_method_6_code 92 = .ok (.getfield 10, 3) := by decide +kernel
theorem d1_6_95 : decode prog_1_method_6_code 95 = .ok (.getfield 81, 3) := by decide +kernel
theorem d1_6_98 : decode prog_1_method_6_code 98 = .ok (.isub, 1) := by decide +kernel
theorem d1_6_99 : decode prog_1_method_6_code 99 = .ok (.ireturn, 1) := by decide +kernel
theorem d1_6_40 : decode prog_1_method_6_code 40 = .ok (.aload_n 0, 1) := by decide +kernel
theorem d1_6_41 : decode prog_1_method_6_code 41 = .ok (.getfield 47, 3) := by decide +kernel
theorem d1_6_44 : decode prog_1_method_6_code 44 = .ok (.iload_n 3, 1) := by decide +kernel
theorem d1_6_45 : decode prog_1_method_6_code 45 = .ok (.iload_n 2, 1) := by decide +kernel
theorem d1_6_46 : decode prog_1_method_6_code 46 = .ok (.invokevirtual 98, 3) := by decide +kernel
theorem d1_6_49 : decode prog_1_method_6_code 49 = .ok (.ifnonnull 5, 3) := by decide +kernel
theorem d1_6_52 : decode prog_1_method_6_code 52 = .ok (.iconst (-1), 1) := by decide +kernel
theorem d1_6_53 : decode prog_1_method_6_code 53 = .ok (.ireturn, 1) := by decide +kernel
theorem d1_6_24 : decode prog_1_method_6_code 24 = .ok (.iconst (-1), 1) := by decide +kernel
theorem d1_6_25 : decode prog_1_method_6_code 25 = .ok (.ireturn, 1) := by decide +kernel
def y1_6 : MethodName := { cls := "PagedValues", name := "query", desc := "(II)I" }
theorem d1_9_0 : decode prog_1_method_9_code 0 = .ok (.aload_n 0, 1) := by decide +kernel
theorem d1_9_1 : decode prog_1_method_9_code 1 = .ok (.getfield 47, 3) := by decide +kernel
theorem d1_9_4 : decode prog_1_method_9_code 4 = .ok (.getfield 58, 3) := by decide +kernel
theorem d1_9_7 : decode prog_1_method_9_code 7 = .ok (.ifCond .eq 6, 3) := by decide +kernel
theorem d1_9_13 : decode prog_1_method_9_code 13 = .ok (.aload_n 0, 1) := by decide +kernel
theorem d1_9_14 : decode prog_1_method_9_code 14 = .ok (.getfield 47, 3) := by decide +kernel
theorem d1_9_17 : decode prog_1_method_9_code 17 = .ok (.iload_n 1, 1) := by decide +kernel
theorem d1_9_18 : decode prog_1_method_9_code 18 = .ok (.invokevirtual 112, 3) := by decide +kernel
theorem d1_9_21 : decode prog_1_method_9_code 21 = .ok (.ifCond .eq 22, 3) := by decide +kernel
theorem d1_9_43 : decode prog_1_method_9_code 43 = .ok (.aconst_null, 1) := by decide +kernel
theorem d1_9_44 : decode prog_1_method_9_code 44 = .ok (.astore_n 3, 1) := by decide +kernel
theorem d1_9_45 : decode prog_1_method_9_code 45 = .ok (.aload_n 3, 1) := by decide +kernel
theorem d1_9_46 : decode prog_1_method_9_code 46 = .ok (.ifnonnull 7, 3) := by decide +kernel
theorem d1_9_49 : decode prog_1_method_9_code 49 = .ok (.iconst (-1), 1) := by decide +kernel
theorem d1_9_50 : decode prog_1_method_9_code 50 = .ok (.goto 8, 3) := by decide +kernel
theorem d1_9_58 : decode prog_1_method_9_code 58 = .ok (.ireturn, 1) := by decide +kernel
theorem d1_9_24 : decode prog_1_method_9_code 24 = .ok (.aload_n 0, 1) := by decide +kernel
theorem d1_9_25 : decode prog_1_method_9_code 25 = .ok (.getfield 47, 3) := by decide +kernel
theorem d1_9_28 : decode prog_1_method_9_code 28 = .ok (.aload_n 0, 1) := by decide +kernel
theorem d1_9_29 : decode prog_1_method_9_code 29 = .ok (.getfield 47, 3) := by decide +kernel
theorem d1_9_32 : decode prog_1_method_9_code 32 = .ok (.iload_n 1, 1) := by decide +kernel
theorem d1_9_33 : decode prog_1_method_9_code 33 = .ok (.invokevirtual 115, 3) := by decide +kernel
theorem d1_9_36 : decode prog_1_method_9_code 36 = .ok (.iload_n 2, 1) := by decide +kernel
theorem d1_9_37 : decode prog_1_method_9_code 37 = .ok (.invokevirtual 98, 3) := by decide +kernel
theorem d1_9_40 : decode prog_1_method_9_code 40 = .ok (.goto 4, 3) := by decide +kernel
def y1_9 : MethodName := { cls := "PagedValues", name := "print", desc := "(II)I" }
theorem d1_12_0 : decode prog_1_method_12_code 0 = .ok (.aload_n 0, 1) := by decide +kernel
theorem d1_12_1 : decode prog_1_method_12_code 1 = .ok (.getfield 47, 3) := by decide +kernel
theorem d1_12_4 : decode prog_1_method_12_code 4 = .ok (.getfield 58, 3) := by decide +kernel
theorem d1_12_7 : decode prog_1_method_12_code 7 = .ok (.ifCond .ne 18, 3) := by decide +kernel
theorem d1_12_10 : decode prog_1_method_12_code 10 = .ok (.aload_n 0, 1) := by decide +kernel
theorem d1_12_11 : decode prog_1_method_12_code 11 = .ok (.getfield 47, 3) := by decide +kernel
theorem d1_12_14 : decode prog_1_method_12_code 14 = .ok (.iload_n 1, 1) := by decide +kernel
theorem d1_12_15 : decode prog_1_method_12_code 15 = .ok (.invokevirtual 160, 3) := by decide +kernel
theorem d10_8_0 : decode prog_10_method_8_code 0 = .ok (.aload_n 0, 1) := by decide +kernel
theorem d10_8_1 : decode prog_10_method_8_code 1 = .ok (.iload_n 1, 1) := by decide +kernel
theorem d10_8_2 : decode prog_10_method_8_code 2 = .ok (.invokevirtual 42, 3) := by decide +kernel
theorem d10_8_5 : decode prog_10_method_8_code 5 = .ok (.ifCond .ne 5, 3) := by decide +kernel
theorem d10_8_8 : decode prog_10_method_8_code 8 = .ok (.iconst 0, 1) := by decide +kernel
theorem d10_8_9 : decode prog_10_method_8_code 9 = .ok (.ireturn, 1) := by decide +kernel
def y10_8 : MethodName := { cls := "PagedValues$Store", name := "closeReader", desc := "(I)Z" }
theorem k1122 : (Jvm.Cond.code ({ cls := "PagedValues$Store", name := "closeReader", desc := "(I)Z" } : Jvm.MethodName) prog_10_method_8_code (2 : Nat) (Option.some Jvm.ClassFile.FieldType.boolean)) ∈ TB := tk_5 162 rfl rfl
theorem k1119 : (Jvm.Cond.methodLink "PagedValues" (160 : Nat) ({ cls := "PagedValues$Store", name := "closeReader", desc := "(I)Z" } : Jvm.MethodName)) ∈ TB := tk_5 159 rfl rfl
theorem k1120 : (Jvm.Cond.instanceMethod ({ cls := "PagedValues$Store", name := "closeReader", desc := "(I)Z" } : Jvm.MethodName)) ∈ TB := tk_5 160 rfl rfl
theorem k1121 : (Jvm.Cond.selects "PagedValues$Store" ({ cls := "PagedValues$Store", name := "closeReader", desc := "(I)Z" } : Jvm.MethodName) ({ cls := "PagedValues$Store", name := "closeReader", desc := "(I)Z" } : Jvm.MethodName)) ∈ TB := tk_5 161 rfl rfl
theorem d1_12_18 : decode prog_1_method_12_code 18 = .ok (.ifCond .eq 7, 3) := by decide +kernel
theorem d1_12_25 : decode prog_1_method_12_code 25 = .ok (.iconst 0, 1) := by decide +kernel
theorem d1_12_26 : decode prog_1_method_12_code 26 = .ok (.ireturn, 1) := by decide +kernel
def y1_12 : MethodName := { cls := "PagedValues", name := "close", desc := "(I)Z" }
theorem d1_16_0 : decode prog_1_method_16_code 0 = .ok (.iload_n 1, 1) := by decide +kernel
theorem d1_16_1 : decode prog_1_method_16_code 1 = .ok (.tableswitch 115 0 6 #[43, 51, 59, 67, 75, 83, 99], 43) := by decide +kernel
theorem d1_16_44 : decode prog_1_method_16_code 44 = .ok (.aload_n 0, 1) := by decide +kernel
theorem d1_16_45 : decode prog_1_method_16_code 45 = .ok (.getfield 10, 3) := by decide +kernel
theorem d1_16_48 : decode prog_1_method_16_code 48 = .ok (.getfield 66, 3) := by decide +kernel
theorem d1_16_51 : decode prog_1_method_16_code 51 = .ok (.ireturn, 1) := by decide +kernel
theorem d1_16_52 : decode prog_1_method_16_code 52 = .ok (.aload_n 0, 1) := by decide +kernel
theorem d1_16_53 : decode prog_1_method_16_code 53 = .ok (.getfield 47, 3) := by decide +kernel
theorem d1_16_56 : decode prog_1_method_16_code 56 = .ok (.invokevirtual 109, 3) := by decide +kernel
theorem d10_12_0 : decode prog_10_method_12_code 0 = .ok (.iconst 0, 1) := by decide +kernel
theorem d10_12_1 : decode prog_10_method_12_code 1 = .ok (.istore_n 1, 1) := by decide +kernel
theorem d10_12_2 : decode prog_10_method_12_code 2 = .ok (.iconst 0, 1) := by decide +kernel
theorem d10_12_3 : decode prog_10_method_12_code 3 = .ok (.istore_n 2, 1) := by decide +kernel
theorem d10_12_4 : decode prog_10_method_12_code 4 = .ok (.iload_n 2, 1) := by decide +kernel
theorem d10_12_5 : decode prog_10_method_12_code 5 = .ok (.bipush 8, 2) := by decide +kernel
theorem d10_12_7 : decode prog_10_method_12_code 7 = .ok (.if_icmp .ge 29, 3) := by decide +kernel
theorem d10_12_10 : decode prog_10_method_12_code 10 = .ok (.iload_n 1, 1) := by decide +kernel
theorem d10_12_11 : decode prog_10_method_12_code 11 = .ok (.aload_n 0, 1) := by decide +kernel
theorem d10_12_12 : decode prog_10_method_12_code 12 = .ok (.aload_n 0, 1) := by decide +kernel
theorem d10_12_13 : decode prog_10_method_12_code 13 = .ok (.invokevirtual 46, 3) := by decide +kernel
theorem d10_12_16 : decode prog_10_method_12_code 16 = .ok (.iload_n 2, 1) := by decide +kernel
theorem d10_12_17 : decode prog_10_method_12_code 17 = .ok (.invokevirtual 62, 3) := by decide +kernel
theorem k699 : (Jvm.Cond.methodLink "PagedValues$Store" (62 : Nat) ({ cls := "PagedValues$Store", name := "document", desc := "(II)LPagedValues$Value;" } : Jvm.MethodName)) ∈ TB := tk_3 219 rfl rfl
theorem d10_12_20 : decode prog_10_method_12_code 20 = .ok (.ifnonnull 7, 3) := by decide +kernel
theorem d10_12_23 : decode prog_10_method_12_code 23 = .ok (.iconst 0, 1) := by decide +kernel
theorem d10_12_24 : decode prog_10_method_12_code 24 = .ok (.goto 4, 3) := by decide +kernel
theorem d10_12_28 : decode prog_10_method_12_code 28 = .ok (.iadd, 1) := by decide +kernel
theorem d10_12_29 : decode prog_10_method_12_code 29 = .ok (.istore_n 1, 1) := by decide +kernel
theorem d10_12_30 : decode prog_10_method_12_code 30 = .ok (.iinc 2 1, 3) := by decide +kernel
theorem d10_12_33 : decode prog_10_method_12_code 33 = .ok (.goto (-29), 3) := by decide +kernel
theorem d10_12_36 : decode prog_10_method_12_code 36 = .ok (.iload_n 1, 1) := by decide +kernel
theorem d10_12_37 : decode prog_10_method_12_code 37 = .ok (.ireturn, 1) := by decide +kernel
def y10_12 : MethodName := { cls := "PagedValues$Store", name := "documentCount", desc := "()I" }
theorem k875 : (Jvm.Cond.code ({ cls := "PagedValues$Store", name := "documentCount", desc := "()I" } : Jvm.MethodName) prog_10_method_12_code (3 : Nat) (Option.some Jvm.ClassFile.FieldType.int)) ∈ TB := tk_4 155 rfl rfl
theorem k872 : (Jvm.Cond.methodLink "PagedValues" (109 : Nat) ({ cls := "PagedValues$Store", name := "documentCount", desc := "()I" } : Jvm.MethodName)) ∈ TB := tk_4 152 rfl rfl
theorem k873 : (Jvm.Cond.instanceMethod ({ cls := "PagedValues$Store", name := "documentCount", desc := "()I" } : Jvm.MethodName)) ∈ TB := tk_4 153 rfl rfl
theorem k874 : (Jvm.Cond.selects "PagedValues$Store" ({ cls := "PagedValues$Store", name := "documentCount", desc := "()I" } : Jvm.MethodName) ({ cls := "PagedValues$Store", name := "documentCount", desc := "()I" } : Jvm.MethodName)) ∈ TB := tk_4 154 rfl rfl
theorem d1_16_59 : decode prog_1_method_16_code 59 = .ok (.ireturn, 1) := by decide +kernel
theorem d1_16_60 : decode prog_1_method_16_code 60 = .ok (.aload_n 0, 1) := by decide +kernel
theorem d1_16_61 : decode prog_1_method_16_code 61 = .ok (.getfield 47, 3) := by decide +kernel
theorem d1_16_64 : decode prog_1_method_16_code 64 = .ok (.invokevirtual 169, 3) := by decide +kernel
theorem d10_9_0 : decode prog_10_method_9_code 0 = .ok (.iconst 0, 1) := by decide +kernel
theorem d10_9_1 : decode prog_10_method_9_code 1 = .ok (.istore_n 1, 1) := by decide +kernel
theorem d10_9_2 : decode prog_10_method_9_code 2 = .ok (.iconst 0, 1) := by decide +kernel
theorem d10_9_3 : decode prog_10_method_9_code 3 = .ok (.istore_n 2, 1) := by decide +kernel
theorem d10_9_4 : decode prog_10_method_9_code 4 = .ok (.iload_n 2, 1) := by decide +kernel
theorem d10_9_5 : decode prog_10_method_9_code 5 = .ok (.iconst 3, 1) := by decide +kernel
theorem d10_9_6 : decode prog_10_method_9_code 6 = .ok (.if_icmp .ge 26, 3) := by decide +kernel
theorem d10_9_9 : decode prog_10_method_9_code 9 = .ok (.iload_n 1, 1) := by decide +kernel
theorem d10_9_10 : decode prog_10_method_9_code 10 = .ok (.aload_n 0, 1) := by decide +kernel
theorem d10_9_11 : decode prog_10_method_9_code 11 = .ok (.getfield 24, 3) := by decide +kernel
theorem d10_9_14 : decode prog_10_method_9_code 14 = .ok (.iload_n 2, 1) := by decide +kernel
theorem d10_9_15 : decode prog_10_method_9_code 15 = .ok (.baload, 1) := by decide +kernel
theorem d10_9_16 : decode prog_10_method_9_code 16 = .ok (.ifCond .eq 7, 3) := by decide +kernel
theorem d10_9_23 : decode prog_10_method_9_code 23 = .ok (.iconst 0, 1) := by decide +kernel
theorem d10_9_24 : decode prog_10_method_9_code 24 = .ok (.iadd, 1) := by decide +kernel
theorem d10_9_25 : decode prog_10_method_9_code 25 = .ok (.istore_n 1, 1) := by decide +kernel
theorem d10_9_26 : decode prog_10_method_9_code 26 = .ok (.iinc 2 1, 3) := by decide +kernel
theorem d10_9_29 : decode prog_10_method_9_code 29 = .ok (.goto (-25), 3) := by decide +kernel
theorem d10_9_32 : decode prog_10_method_9_code 32 = .ok (.iload_n 1, 1) := by decide +kernel
theorem d10_9_33 : decode prog_10_method_9_code 33 = .ok (.ireturn, 1) := by decide +kernel
def y10_9 : MethodName := { cls := "PagedValues$Store", name := "openReaders", desc := "()I" }
theorem k1143 : (Jvm.Cond.code ({ cls := "PagedValues$Store", name := "openReaders", desc := "()I" } : Jvm.MethodName) prog_10_method_9_code (3 : Nat) (Option.some Jvm.ClassFile.FieldType.int)) ∈ TB := tk_5 183 rfl rfl
theorem k1140 : (Jvm.Cond.methodLink "PagedValues" (169 : Nat) ({ cls := "PagedValues$Store", name := "openReaders", desc := "()I" } : Jvm.MethodName)) ∈ TB := tk_5 180 rfl rfl
theorem k1141 : (Jvm.Cond.instanceMethod ({ cls := "PagedValues$Store", name := "openReaders", desc := "()I" } : Jvm.MethodName)) ∈ TB := tk_5 181 rfl rfl
theorem k1142 : (Jvm.Cond.selects "PagedValues$Store" ({ cls := "PagedValues$Store", name := "openReaders", desc := "()I" } : Jvm.MethodName) ({ cls := "PagedValues$Store", name := "openReaders", desc := "()I" } : Jvm.MethodName)) ∈ TB := tk_5 182 rfl rfl
theorem d1_16_67 : decode prog_1_method_16_code 67 = .ok (.ireturn, 1) := by decide +kernel
theorem d1_16_68 : decode prog_1_method_16_code 68 = .ok (.aload_n 0, 1) := by decide +kernel
theorem d1_16_69 : decode prog_1_method_16_code 69 = .ok (.getfield 47, 3) := by decide +kernel
theorem d1_16_72 : decode prog_1_method_16_code 72 = .ok (.getfield 172, 3) := by decide +kernel
theorem kn243 : (Jvm.Cond.fieldLinkNest "PagedValues" (172 : Nat) "PagedValues$Store" "blocks" "I" "PagedValues") ∈ NW := tn_2 3 rfl rfl
theorem d1_16_75 : decode prog_1_method_16_code 75 = .ok (.ireturn, 1) := by decide +kernel
theorem d1_16_76 : decode prog_1_method_16_code 76 = .ok (.aload_n 0, 1) := by decide +kernel
theorem d1_16_77 : decode prog_1_method_16_code 77 = .ok (.getfield 47, 3) := by decide +kernel
theorem d1_16_80 : decode prog_1_method_16_code 80 = .ok (.invokevirtual 175, 3) := by decide +kernel
theorem k1144 : (Jvm.Cond.methodLink "PagedValues" (175 : Nat) ({ cls := "PagedValues$Store", name := "currentMeta", desc := "()I" } : Jvm.MethodName)) ∈ TB := tk_5 184 rfl rfl
theorem d1_16_83 : decode prog_1_method_16_code 83 = .ok (.ireturn, 1) := by decide +kernel
theorem d1_16_84 : decode prog_1_method_16_code 84 = .ok (.aload_n 0, 1) := by decide +kernel
theorem d1_16_85 : decode prog_1_method_16_code 85 = .ok (.getfield 47, 3) := by decide +kernel
theorem d1_16_88 : decode prog_1_method_16_code 88 = .ok (.getfield 178, 3) := by decide +kernel
theorem kn238 : (Jvm.Cond.fieldLinkNest "PagedValues" (178 : Nat) "PagedValues$Store" "metaNumber" "[I" "PagedValues") ∈ NW := tn_1 238 rfl rfl
theorem d1_16_91 : decode prog_1_method_16_code 91 = .ok (.aload_n 0, 1) := by decide +kernel
theorem d1_16_92 : decode prog_1_method_16_code 92 = .ok (.getfield 47, 3) := by decide +kernel
theorem d1_16_95 : decode prog_1_method_16_code 95 = .ok (.invokevirtual 175, 3) := by decide +kernel
theorem d1_16_98 : decode prog_1_method_16_code 98 = .ok (.iaload, 1) := by decide +kernel
theorem d1_16_99 : decode prog_1_method_16_code 99 = .ok (.ireturn, 1) := by decide +kernel
theorem d1_16_100 : decode prog_1_method_16_code 100 = .ok (.aload_n 0, 1) := by decide +kernel
theorem d1_16_101 : decode prog_1_method_16_code 101 = .ok (.getfield 47, 3) := by decide +kernel
theorem d1_16_104 : decode prog_1_method_16_code 104 = .ok (.getfield 58, 3) := by decide +kernel
theorem d1_16_107 : decode prog_1_method_16_code 107 = .ok (.ifCond .eq 7, 3) := by decide +kernel
theorem d1_16_114 : decode prog_1_method_16_code 114 = .ok (.iconst 0, 1) := by decide +kernel
theorem d1_16_115 : decode prog_1_method_16_code 115 = .ok (.ireturn, 1) := by decide +kernel
theorem d1_16_116 : decode prog_1_method_16_code 116 = .ok (.iconst (-1), 1) := by decide +kernel
theorem d1_16_117 : decode prog_1_method_16_code 117 = .ok (.ireturn, 1) := by decide +kernel
def y1_16 : MethodName := { cls := "PagedValues", name := "size", desc := "(I)I" }
set_option maxHeartbeats 4000000 in
set_option maxRecDepth 100000 in
theorem bc_isId (l : Launch) (G : Gk) (Zd q : Nat → Nat) (w0 : va_W) (id : Int32) (sz : Nat) : Met l y1_17 (Cond.code y1_17 prog_1_method_17_code 1 (some .boolean) :: TB) (rmD 0 0 0) (va_Pc [.int id] (pcW G Zd w0 sz)) (qI G (fun rr (_ : Unit) => rr = wt id 0 7) (fun _ => w0) (va_A w0 sz)) 0 0 (va_A w0 sz) := by
  refine go (Qc := qI G (fun rr (_ : Unit) => rr = wt id 0 7) (fun _ => w0)) "PagedValues" rfl (by decide) (Nat.le_of_ble_eq_true rfl) ?_
  intro p e s m below meth c ls A hx hb hr hlk hml hown hts hin hl hP hD hK hS hA hZ
  have hl : lv_has ls 1 [(0, .int id)] := hl
  refine lv_iload_n hx hb d1_17_0 rfl (lv_at hl 0 rfl) ?_
  refine lv_if_lt (tgt := 14) hx hb d1_17_1 rfl (fun c1 => ?_) (fun c1 => ?_)
  ·
    refine lv_iconst (v := 0) hx hb d1_17_14 (by decide) ?_
    exact fin_z hx hb hr hlk (by decide) hS () (if_neg (show ¬ ((0 : Int32).toInt ≤ id.toInt ∧ id.toInt ≤ (7 : Int32).toInt) by have L9 := lits; have fc1 := c1; (first | replace fc1 := wt_0 fc1 | replace fc1 := wt_1 fc1 | replace fc1 := an_rd_0 fc1 | simp only [Int32.lt_iff_toInt_lt, Int32.le_iff_toInt_le, ← Int32.toInt_inj, ne_eq] at fc1 | skip); omega)).symm hP hD (Nat.le_of_ble_eq_true rfl) (Nat.le_of_ble_eq_true rfl) d1_17_15
  ·
    refine lv_iload_n hx hb d1_17_4 rfl (lv_at hl 0 rfl) ?_
    refine lv_bipush (v := 8) hx hb d1_17_5 (by decide) ?_
    refine lv_icmp_ge (tgt := 14) hx hb d1_17_7 rfl (fun c2 => ?_) (fun c2 => ?_)
    ·
      refine lv_iconst (v := 0) hx hb d1_17_14 (by decide) ?_
      exact fin_z hx hb hr hlk (by decide) hS () (if_neg (show ¬ ((0 : Int32).toInt ≤ id.toInt ∧ id.toInt ≤ (7 : Int32).toInt) by have L9 := lits; have fc1 := c1; (first | replace fc1 := wt_0 fc1 | replace fc1 := wt_1 fc1 | replace fc1 := an_rd_0 fc1 | simp only [Int32.lt_iff_toInt_lt, Int32.le_iff_toInt_le, ← Int32.toInt_inj, ne_eq] at fc1 | skip); have fc2 := c2; (first | replace fc2 := wt_0 fc2 | replace fc2 := wt_1 fc2 | replace fc2 := an_rd_0 fc2 | simp only [Int32.lt_iff_toInt_lt, Int32.le_iff_toInt_le, ← Int32.toInt_inj, ne_eq] at fc2 | skip); omega)).symm hP hD (Nat.le_of_ble_eq_true rfl) (Nat.le_of_ble_eq_true rfl) d1_17_15
    ·
      refine lv_iconst (v := 1) hx hb d1_17_10 (by decide) ?_
      refine lv_goto (tgt := 15) hx hb d1_17_11 rfl ?_
      exact fin_z hx hb hr hlk (by decide) hS () (if_pos (show (0 : Int32).toInt ≤ id.toInt ∧ id.toInt ≤ (7 : Int32).toInt by have L9 := lits; have fc1 := c1; (first | replace fc1 := wt_0 fc1 | replace fc1 := wt_1 fc1 | replace fc1 := an_rd_0 fc1 | simp only [Int32.lt_iff_toInt_lt, Int32.le_iff_toInt_le, ← Int32.toInt_inj, ne_eq] at fc1 | skip); have fc2 := c2; (first | replace fc2 := wt_0 fc2 | replace fc2 := wt_1 fc2 | replace fc2 := an_rd_0 fc2 | simp only [Int32.lt_iff_toInt_lt, Int32.le_iff_toInt_le, ← Int32.toInt_inj, ne_eq] at fc2 | skip); omega)).symm hP hD (Nat.le_of_ble_eq_true rfl) (Nat.le_of_ble_eq_true rfl) d1_17_15
set_option maxHeartbeats 4000000 in
set_option maxRecDepth 100000 in
theorem b10_4_1 (l : Launch) (G : Gk) (Zd q : Nat → Nat) (cw : Nat) (R : Nat → Option Nat) (Q : Nat → Nat → Option Nat) (pl : va_W) (x1 : Int32) (sz : Nat) : Met l y10_4 (Cond.code y10_4 prog_10_method_4_code 2 (some .boolean) :: TB) (rmD 0 0 0) (va_Pc [.ref (q 6), .int x1] (pcW G Zd (wC q G.2 cw cI0 cA0 R Q pl) sz)) (qI G (fun rr (_ : Unit) => rr = 0) (fun _ => (wC q G.2 cw cI0 cA0 R Q pl)) (va_A (wC q G.2 cw cI0 cA0 R Q pl) sz)) 0 0 (va_A (wC q G.2 cw cI0 cA0 R Q pl) sz) := by
  refine go (Qc := qI G (fun rr (_ : Unit) => rr = 0) (fun _ => (wC q G.2 cw cI0 cA0 R Q pl))) "PagedValues$Store" rfl (by decide) (Nat.le_of_ble_eq_true rfl) ?_
  intro p e s m below meth c ls A hx hb hr hlk hml hown hts hin hl hP hD hK hS hA hZ
  have hl : lv_has ls 2 [(0, .ref (q 6)), (1, .int x1)] := hl
  refine lv_iload_n hx hb d10_4_0 rfl (lv_at hl 1 rfl) ?_
  refine lv_if_lt (tgt := 22) hx hb d10_4_1 rfl (fun c1 => ?_) (fun c1 => ?_)
  ·
    refine lv_iconst (v := 0) hx hb d10_4_22 (by decide) ?_
    exact fin_z hx hb hr hlk (by decide) hS () rfl hP hD (Nat.le_of_ble_eq_true rfl) (Nat.le_of_ble_eq_true rfl) d10_4_23
  ·
    refine lv_iload_n hx hb d10_4_4 rfl (lv_at hl 1 rfl) ?_
    refine lv_iconst (v := 3) hx hb d10_4_5 (by decide) ?_
    refine lv_icmp_ge (tgt := 22) hx hb d10_4_6 rfl (fun c2 => ?_) (fun c2 => ?_)
    ·
      refine lv_iconst (v := 0) hx hb d10_4_22 (by decide) ?_
      exact fin_z hx hb hr hlk (by decide) hS () rfl hP hD (Nat.le_of_ble_eq_true rfl) (Nat.le_of_ble_eq_true rfl) d10_4_23
    ·
      refine lv_aload_n hx hb d10_4_9 rfl (lv_at hl 0 rfl) ?_
      refine va_get (D := G.1) (ci := 9) (v := .ref (q 19)) (C := r_9) (T := f_9) (N := 9) (ref := "PagedValues$Store") hx hb hts (fun w h => List.mem_cons_of_mem _ (ly_9 w h)) hown hK hP 6 rfl rfl 3 (by decide) (hts _ (List.mem_cons_of_mem _ k240)) (fun _ h9 => h9) rfl d10_4_10 ?_
      refine lv_iload_n hx hb d10_4_13 rfl (lv_at hl 1 rfl) ?_
      refine va_zald (D := G.1) hx hb hK hP 19 3 rfl rfl (i := x1) (vp_in_iff.mpr (by have L9 := lits; have fc1 := c1; simp only [Int32.lt_iff_toInt_lt, Int32.le_iff_toInt_le, ← Int32.toInt_inj, ne_eq] at fc1; have fc2 := c2; simp only [Int32.lt_iff_toInt_lt, Int32.le_iff_toInt_le, ← Int32.toInt_inj, ne_eq] at fc2; omega)) d10_4_14 ?_
      refine W.eq (g2 := F0 m 15 ls [.int 0]) rfl ?_
      refine lv_if_eq (tgt := 22) hx hb d10_4_15 rfl (fun _ => ?_) (fun hc => absurd hc (by decide))
      refine lv_iconst (v := 0) hx hb d10_4_22 (by decide) ?_
      exact fin_z hx hb hr hlk (by decide) hS () rfl hP hD (Nat.le_of_ble_eq_true rfl) (Nat.le_of_ble_eq_true rfl) d10_4_23
set_option maxHeartbeats 4000000 in
set_option maxRecDepth 100000 in
theorem bc_canRead (l : Launch) (G : Gk) (Zd q : Nat → Nat) (cw : Nat) (R : Nat → Option Nat) (Q : Nat → Nat → Option Nat) (pl : va_W) (r : Int32) (sz : Nat) : Met l y10_5 (Cond.code y10_5 prog_10_method_5_code 2 (some .boolean) :: TB) (rmD 1 0 0) (va_Pc [.ref (q 6), .int r] (pcW G Zd (wC q G.2 cw cI0 cA0 R Q pl) sz)) (qI G (fun rr (_ : Unit) => rr = an_rd r) (fun _ => (wC q G.2 cw cI0 cA0 R Q pl)) (va_A (wC q G.2 cw cI0 cA0 R Q pl) sz)) 0 0 (va_A (wC q G.2 cw cI0 cA0 R Q pl) sz) := by
  refine go (Qc := qI G (fun rr (_ : Unit) => rr = an_rd r) (fun _ => (wC q G.2 cw cI0 cA0 R Q pl))) "PagedValues$Store" rfl (by decide) (Nat.le_of_ble_eq_true rfl) ?_
  intro p e s m below meth c ls A hx hb hr hlk hml hown hts hin hl hP hD hK hS hA hZ
  have hl : lv_has ls 2 [(0, .ref (q 6)), (1, .int r)] := hl
  refine lv_iload_n hx hb d10_5_0 rfl (lv_at hl 1 rfl) ?_
  refine lv_iconst (v := (-1)) hx hb d10_5_1 (by decide) ?_
  refine lv_icmp_eq (tgt := 13) hx hb d10_5_2 rfl (fun c1 => ?_) (fun c1 => ?_)
  ·
    refine lv_iconst (v := 1) hx hb d10_5_13 (by decide) ?_
    refine lv_goto (tgt := 18) hx hb d10_5_14 rfl ?_
    exact fin_z hx hb hr hlk (by decide) hS () (if_pos (show r.toInt = -1 by have L9 := lits; have fc1 := c1; (first | replace fc1 := wt_0 fc1 | replace fc1 := wt_1 fc1 | replace fc1 := an_rd_0 fc1 | simp only [Int32.lt_iff_toInt_lt, Int32.le_iff_toInt_le, ← Int32.toInt_inj, ne_eq] at fc1 | skip); omega)).symm hP hD (Nat.le_of_ble_eq_true rfl) (Nat.le_of_ble_eq_true rfl) d10_5_18
  ·
    refine lv_aload_n hx hb d10_5_5 rfl (lv_at hl 0 rfl) ?_
    refine lv_iload_n hx hb d10_5_6 rfl (lv_at hl 1 rfl) ?_
    refine sV_i (As := [.int r]) (rest := []) ⟨hx, hb, hml, hown, hts⟩ (b10_4_1 l G Zd q cw R Q pl r _) (kw_V (n := 1) hts k887 k884 k13 k885 k886 (by decide +kernel) ⟨Nat.le_of_ble_eq_true rfl, Nat.le_of_ble_eq_true rfl⟩) hP hD hK hS hA hZ (va_recv (ci := 9) (q0 := 6) hK hP rfl rfl) rfl hl.1 rfl (Nat.le_of_ble_eq_true rfl) d10_5_7 ⟨Nat.le_of_ble_eq_true rfl, Nat.le_of_ble_eq_true rfl⟩ (fun rr u H locs hp hP hD hS => ?_)
    obtain rfl := hp
    refine W.eq (g2 := F0 m 10 ls [.int 0]) rfl ?_
    have hP : va_P G.1 vwCl (wC q G.2 cw cI0 cA0 R Q pl) H := hP
    have hD : va_D A (wC q G.2 cw cI0 cA0 R Q pl) := hD
    refine lv_if_eq (tgt := 17) hx hb d10_5_10 rfl (fun _ => ?_) (fun hc => absurd hc (by decide))
    refine lv_iconst (v := 0) hx hb d10_5_17 (by decide) ?_
    exact fin_z hx hb hr hlk (by decide) hS () (if_neg (show ¬ (r.toInt = -1) by have L9 := lits; have fc1 := c1; (first | replace fc1 := wt_0 fc1 | replace fc1 := wt_1 fc1 | replace fc1 := an_rd_0 fc1 | simp only [Int32.lt_iff_toInt_lt, Int32.le_iff_toInt_le, ← Int32.toInt_inj, ne_eq] at fc1 | skip); omega)).symm hP hD (Nat.le_of_ble_eq_true rfl) (Nat.le_of_ble_eq_true rfl) d10_5_18
set_option maxHeartbeats 4000000 in
set_option maxRecDepth 100000 in
theorem b10_10_2 (l : Launch) (G : Gk) (Zd q : Nat → Nat) (cw : Nat) (R : Nat → Option Nat) (Q : Nat → Nat → Option Nat) (pl : va_W)  (sz : Nat) : Met l y10_10 (Cond.code y10_10 prog_10_method_10_code 3 (some .int) :: TB) (rmD 0 0 0) (va_Pc [.ref (q 6), .int (-1), .int 0] (pcW G Zd (wC q G.2 cw cI0 cA0 R Q pl) sz)) (qI G (fun rr (_ : Unit) => rr = (-1)) (fun _ => (wC q G.2 cw cI0 cA0 R Q pl)) (va_A (wC q G.2 cw cI0 cA0 R Q pl) sz)) 0 0 (va_A (wC q G.2 cw cI0 cA0 R Q pl) sz) := by
  refine go (Qc := qI G (fun rr (_ : Unit) => rr = (-1)) (fun _ => (wC q G.2 cw cI0 cA0 R Q pl))) "PagedValues$Store" rfl (by decide) (Nat.le_of_ble_eq_true rfl) ?_
  intro p e s m below meth c ls A hx hb hr hlk hml hown hts hin hl hP hD hK hS hA hZ
  have hl : lv_has ls 3 [(0, .ref (q 6)), (1, .int (-1)), (2, .int 0)] := hl
  refine lv_iload_n hx hb d10_10_0 rfl (lv_at hl 1 rfl) ?_
  refine lv_iconst (v := (-1)) hx hb d10_10_1 (by decide) ?_
  refine lv_icmp_ne (tgt := 9) hx hb d10_10_2 rfl (fun hc => absurd hc (by decide)) (fun _ => ?_)
  refine lv_iconst (v := (-1)) hx hb d10_10_5 (by decide) ?_
  refine lv_goto (tgt := 20) hx hb d10_10_6 rfl ?_
  exact fin_i hx hb hr hlk hS () rfl hP hD (Nat.le_of_ble_eq_true rfl) (Nat.le_of_ble_eq_true rfl) d10_10_20
set_option maxHeartbeats 4000000 in
set_option maxRecDepth 100000 in
theorem b10_10_3 (l : Launch) (G : Gk) (Zd q : Nat → Nat) (cw : Nat) (R : Nat → Option Nat) (Q : Nat → Nat → Option Nat) (pl : va_W)  (sz : Nat) : Met l y10_10 (Cond.code y10_10 prog_10_method_10_code 3 (some .int) :: TB) (rmD 0 0 0) (va_Pc [.ref (q 6), .int (-1), .int 1] (pcW G Zd (wC q G.2 cw cI0 cA0 R Q pl) sz)) (qI G (fun rr (_ : Unit) => rr = (-1)) (fun _ => (wC q G.2 cw cI0 cA0 R Q pl)) (va_A (wC q G.2 cw cI0 cA0 R Q pl) sz)) 0 0 (va_A (wC q G.2 cw cI0 cA0 R Q pl) sz) := by
  refine go (Qc := qI G (fun rr (_ : Unit) => rr = (-1)) (fun _ => (wC q G.2 cw cI0 cA0 R Q pl))) "PagedValues$Store" rfl (by decide) (Nat.le_of_ble_eq_true rfl) ?_
  intro p e s m below meth c ls A hx hb hr hlk hml hown hts hin hl hP hD hK hS hA hZ
  have hl : lv_has ls 3 [(0, .ref (q 6)), (1, .int (-1)), (2, .int 1)] := hl
  refine lv_iload_n hx hb d10_10_0 rfl (lv_at hl 1 rfl) ?_
  refine lv_iconst (v := (-1)) hx hb d10_10_1 (by decide) ?_
  refine lv_icmp_ne (tgt := 9) hx hb d10_10_2 rfl (fun hc => absurd hc (by decide)) (fun _ => ?_)
  refine lv_iconst (v := (-1)) hx hb d10_10_5 (by decide) ?_
  refine lv_goto (tgt := 20) hx hb d10_10_6 rfl ?_
  exact fin_i hx hb hr hlk hS () rfl hP hD (Nat.le_of_ble_eq_true rfl) (Nat.le_of_ble_eq_true rfl) d10_10_20
set_option maxHeartbeats 4000000 in
set_option maxRecDepth 100000 in
theorem bc_useUnder (l : Launch) (G : Gk) (Zd q : Nat → Nat) (cw : Nat) (R : Nat → Option Nat) (Q : Nat → Nat → Option Nat) (pl : va_W) (n : Int32) (hn : 0 ≤ n.toInt) (sz : Nat) : Met l y10_14 (Cond.code y10_14 prog_10_method_14_code 3 (some .int) :: TB) (rmD 1 0 0) (va_Pc [.ref (q 6), .int (-1), .int n] (pcW G Zd (wC q G.2 cw cI0 cA0 R Q pl) sz)) (qI G (fun rr (_ : Unit) => rr = 0) (fun _ => (wC q G.2 cw cI0 cA0 R Q pl)) (va_A (wC q G.2 cw cI0 cA0 R Q pl) sz)) 0 0 (va_A (wC q G.2 cw cI0 cA0 R Q pl) sz) := by
  refine go (Qc := qI G (fun rr (_ : Unit) => rr = 0) (fun _ => (wC q G.2 cw cI0 cA0 R Q pl))) "PagedValues$Store" rfl (by decide) (Nat.le_of_ble_eq_true rfl) ?_
  intro p e s m below meth c ls A hx hb hr hlk hml hown hts hin hl hP hD hK hS hA hZ
  have hl : lv_has ls 3 [(0, .ref (q 6)), (1, .int (-1)), (2, .int n)] := hl
  refine lv_iload_n hx hb d10_14_0 rfl (lv_at hl 1 rfl) ?_
  refine lv_iload_n hx hb d10_14_1 rfl (lv_at hl 2 rfl) ?_
  refine lv_icmp_ne (tgt := 7) hx hb d10_14_2 rfl (fun c1 => ?_) (fun c1 => absurd c1 (fun e9 => by have f9 := congrArg Int32.toInt e9; have L9 := lits; omega))
  refine lv_aload_n hx hb d10_14_7 rfl (lv_at hl 0 rfl) ?_
  refine lv_iload_n hx hb d10_14_8 rfl (lv_at hl 1 rfl) ?_
  refine lv_iconst (v := 0) hx hb d10_14_9 (by decide) ?_
  refine sV_i (As := [.int (-1), .int 0]) (rest := []) ⟨hx, hb, hml, hown, hts⟩ (b10_10_2 l G Zd q cw R Q pl _) (kw_V (n := 2) hts k694 k691 k13 k693 ks8 (by decide +kernel) ⟨Nat.le_of_ble_eq_true rfl, Nat.le_of_ble_eq_true rfl⟩) hP hD hK hS hA hZ (va_recv (ci := 9) (q0 := 6) hK hP rfl rfl) rfl hl.1 rfl (Nat.le_of_ble_eq_true rfl) d10_14_10 ⟨Nat.le_of_ble_eq_true rfl, Nat.le_of_ble_eq_true rfl⟩ (fun rr u H locs hp hP hD hS => ?_)
  obtain rfl := hp
  refine W.eq (g2 := F0 m 13 ls [.int (-1)]) rfl ?_
  have hP : va_P G.1 vwCl (wC q G.2 cw cI0 cA0 R Q pl) H := hP
  have hD : va_D A (wC q G.2 cw cI0 cA0 R Q pl) := hD
  refine lv_iload_n hx hb d10_14_13 rfl (lv_at hl 2 rfl) ?_
  refine lv_icmp_eq (tgt := 27) hx hb d10_14_14 rfl (fun c2 => absurd c2 (fun e9 => by have f9 := congrArg Int32.toInt e9; have L9 := lits; omega)) (fun c2 => ?_)
  refine lv_aload_n hx hb d10_14_17 rfl (lv_at hl 0 rfl) ?_
  refine lv_iload_n hx hb d10_14_18 rfl (lv_at hl 1 rfl) ?_
  refine lv_iconst (v := 1) hx hb d10_14_19 (by decide) ?_
  refine sV_i (As := [.int (-1), .int 1]) (rest := []) ⟨hx, hb, hml, hown, hts⟩ (b10_10_3 l G Zd q cw R Q pl _) (kw_V (n := 2) hts k694 k691 k13 k693 ks8 (by decide +kernel) ⟨Nat.le_of_ble_eq_true rfl, Nat.le_of_ble_eq_true rfl⟩) hP hD hK hS hA hZ (va_recv (ci := 9) (q0 := 6) hK hP rfl rfl) rfl hl.1 rfl (Nat.le_of_ble_eq_true rfl) d10_14_20 ⟨Nat.le_of_ble_eq_true rfl, Nat.le_of_ble_eq_true rfl⟩ (fun rr u H locs hp hP hD hS => ?_)
  obtain rfl := hp
  refine W.eq (g2 := F0 m 23 ls [.int (-1)]) rfl ?_
  have hP : va_P G.1 vwCl (wC q G.2 cw cI0 cA0 R Q pl) H := hP
  have hD : va_D A (wC q G.2 cw cI0 cA0 R Q pl) := hD
  refine lv_iload_n hx hb d10_14_23 rfl (lv_at hl 2 rfl) ?_
  refine lv_icmp_ne (tgt := 31) hx hb d10_14_24 rfl (fun c3 => ?_) (fun c3 => absurd c3 (fun e9 => by have f9 := congrArg Int32.toInt e9; have L9 := lits; omega))
  refine lv_iconst (v := 0) hx hb d10_14_31 (by decide) ?_
  exact fin_i hx hb hr hlk hS () rfl hP hD (Nat.le_of_ble_eq_true rfl) (Nat.le_of_ble_eq_true rfl) d10_14_32
set_option maxHeartbeats 4000000 in
set_option maxRecDepth 100000 in
theorem bc_useOf (l : Launch) (G : Gk) (Zd q : Nat → Nat) (cw : Nat) (R : Nat → Option Nat) (Q : Nat → Nat → Option Nat) (pl : va_W) (n : Int32) (hn : 0 ≤ n.toInt) (sz : Nat) : Met l y10_13 (Cond.code y10_13 prog_10_method_13_code 4 (some .int) :: TB) (rmD 2 0 0) (va_Pc [.ref (q 6), .int n] (pcW G Zd (wC q G.2 cw cI0 cA0 R Q pl) sz)) (qI G (fun rr (_ : Unit) => rr = 0) (fun _ => (wC q G.2 cw cI0 cA0 R Q pl)) (va_A (wC q G.2 cw cI0 cA0 R Q pl) sz)) 0 0 (va_A (wC q G.2 cw cI0 cA0 R Q pl) sz) := by
  refine go (Qc := qI G (fun rr (_ : Unit) => rr = 0) (fun _ => (wC q G.2 cw cI0 cA0 R Q pl))) "PagedValues$Store" rfl (by decide) (Nat.le_of_ble_eq_true rfl) ?_
  intro p e s m below meth c ls A hx hb hr hlk hml hown hts hin hl hP hD hK hS hA hZ
  have hl : lv_has ls 4 [(0, .ref (q 6)), (1, .int n)] := hl
  refine lv_iconst (v := 0) hx hb d10_13_0 (by decide) ?_
  refine lv_istore_n (lv' := [(2, .int 0), (0, .ref (q 6)), (1, .int n)]) hx hb d10_13_1 rfl hl (by decide) rfl (fun ls hl => ?_)
  refine lv_iconst (v := 0) hx hb d10_13_2 (by decide) ?_
  refine lv_istore_n (lv' := [(3, .int 0), (2, .int 0), (0, .ref (q 6)), (1, .int n)]) hx hb d10_13_3 rfl hl (by decide) rfl (fun ls hl => ?_)
  refine lv_iload_n hx hb d10_13_4 rfl (lv_at hl 0 rfl) ?_
  refine lv_iconst (v := 2) hx hb d10_13_5 (by decide) ?_
  refine lv_icmp_ge (tgt := 31) hx hb d10_13_6 rfl (fun hc => absurd hc (by decide)) (fun _ => ?_)
  refine lv_iload_n hx hb d10_13_9 rfl (lv_at hl 1 rfl) ?_
  refine lv_aload_n hx hb d10_13_10 rfl (lv_at hl 2 rfl) ?_
  refine lv_aload_n hx hb d10_13_11 rfl (lv_at hl 2 rfl) ?_
  refine va_get (D := G.1) (ci := 9) (v := .ref (q 18)) (C := r_9) (T := f_9) (N := 9) (ref := "PagedValues$Store") hx hb hts (fun w h => List.mem_cons_of_mem _ (ly_9 w h)) hown hK hP 6 rfl rfl 2 (by decide) (hts _ (List.mem_cons_of_mem _ k239)) (fun _ h9 => h9) rfl d10_13_12 ?_
  refine lv_iload_n hx hb d10_13_15 rfl (lv_at hl 0 rfl) ?_
  refine va_iald (D := G.1) hx hb hK hP 18 1 rfl rfl (i := 0) (by unfold vp_in; decide) d10_13_16 ?_
  refine W.eq (g2 := F0 m 17 ls [.int (-1), .ref (q 6), .int 0]) rfl ?_
  refine lv_iload_n hx hb d10_13_17 rfl (lv_at hl 3 rfl) ?_
  refine sV_i (As := [.int (-1), .int n]) (rest := [.int 0]) ⟨hx, hb, hml, hown, hts⟩ (bc_useUnder l G Zd q cw R Q pl n hn _) (kw_V (n := 2) hts k715 k712 k13 k714 ks11 (by decide +kernel) ⟨Nat.le_of_ble_eq_true rfl, Nat.le_of_ble_eq_true rfl⟩) hP hD hK hS hA hZ (va_recv (ci := 9) (q0 := 6) hK hP rfl rfl) rfl hl.1 rfl (Nat.le_of_ble_eq_true rfl) d10_13_18 ⟨Nat.le_of_ble_eq_true rfl, Nat.le_of_ble_eq_true rfl⟩ (fun rr u H locs hp hP hD hS => ?_)
  obtain rfl := hp
  refine W.eq (g2 := F0 m 21 ls [.int 0, .int 0]) rfl ?_
  have hP : va_P G.1 vwCl (wC q G.2 cw cI0 cA0 R Q pl) H := hP
  have hD : va_D A (wC q G.2 cw cI0 cA0 R Q pl) := hD
  refine va_mmax hx hb (hml.trans hl.1.symm) hown (hts _ (List.mem_cons_of_mem _ k716)) (hts _ (List.mem_cons_of_mem _ k414)) (hts _ (List.mem_cons_of_mem _ k20)) (hts _ (List.mem_cons_of_mem _ kmax)) (Nat.le_of_ble_eq_true rfl) (Nat.le_of_ble_eq_true rfl) (Nat.le_of_ble_eq_true rfl) (Nat.le_of_ble_eq_true rfl) d10_13_21 ?_
  refine W.eq (g2 := F0 m 24 ls [.int 0]) rfl ?_
  refine lv_istore_n (lv' := [(2, .int 0), (3, .int 0), (0, .ref (q 6)), (1, .int n)]) hx hb d10_13_24 rfl hl (by decide) rfl (fun ls hl => ?_)
  refine lv_iinc (k := 1) (v := 1) (lv' := [(3, .int 1), (2, .int 0), (0, .ref (q 6)), (1, .int n)]) hx hb d10_13_25 hl rfl (by first | decide | rfl) (by decide) rfl (fun ls hl => ?_)
  refine lv_goto (tgt := 4) hx hb d10_13_28 rfl ?_
  refine lv_iload_n hx hb d10_13_4 rfl (lv_at hl 0 rfl) ?_
  refine lv_iconst (v := 2) hx hb d10_13_5 (by decide) ?_
  refine lv_icmp_ge (tgt := 31) hx hb d10_13_6 rfl (fun hc => absurd hc (by decide)) (fun _ => ?_)
  refine lv_iload_n hx hb d10_13_9 rfl (lv_at hl 1 rfl) ?_
  refine lv_aload_n hx hb d10_13_10 rfl (lv_at hl 2 rfl) ?_
  refine lv_aload_n hx hb d10_13_11 rfl (lv_at hl 2 rfl) ?_
  refine va_get (D := G.1) (ci := 9) (v := .ref (q 18)) (C := r_9) (T := f_9) (N := 9) (ref := "PagedValues$Store") hx hb hts (fun w h => List.mem_cons_of_mem _ (ly_9 w h)) hown hK hP 6 rfl rfl 2 (by decide) (hts _ (List.mem_cons_of_mem _ k239)) (fun _ h9 => h9) rfl d10_13_12 ?_
  refine lv_iload_n hx hb d10_13_15 rfl (lv_at hl 0 rfl) ?_
  refine va_iald (D := G.1) hx hb hK hP 18 1 rfl rfl (i := 1) (by unfold vp_in; decide) d10_13_16 ?_
  refine W.eq (g2 := F0 m 17 ls [.int (-1), .ref (q 6), .int 0]) rfl ?_
  refine lv_iload_n hx hb d10_13_17 rfl (lv_at hl 3 rfl) ?_
  refine sV_i (As := [.int (-1), .int n]) (rest := [.int 0]) ⟨hx, hb, hml, hown, hts⟩ (bc_useUnder l G Zd q cw R Q pl n hn _) (kw_V (n := 2) hts k715 k712 k13 k714 ks11 (by decide +kernel) ⟨Nat.le_of_ble_eq_true rfl, Nat.le_of_ble_eq_true rfl⟩) hP hD hK hS hA hZ (va_recv (ci := 9) (q0 := 6) hK hP rfl rfl) rfl hl.1 rfl (Nat.le_of_ble_eq_true rfl) d10_13_18 ⟨Nat.le_of_ble_eq_true rfl, Nat.le_of_ble_eq_true rfl⟩ (fun rr u H locs hp hP hD hS => ?_)
  obtain rfl := hp
  refine W.eq (g2 := F0 m 21 ls [.int 0, .int 0]) rfl ?_
  have hP : va_P G.1 vwCl (wC q G.2 cw cI0 cA0 R Q pl) H := hP
  have hD : va_D A (wC q G.2 cw cI0 cA0 R Q pl) := hD
  refine va_mmax hx hb (hml.trans hl.1.symm) hown (hts _ (List.mem_cons_of_mem _ k716)) (hts _ (List.mem_cons_of_mem _ k414)) (hts _ (List.mem_cons_of_mem _ k20)) (hts _ (List.mem_cons_of_mem _ kmax)) (Nat.le_of_ble_eq_true rfl) (Nat.le_of_ble_eq_true rfl) (Nat.le_of_ble_eq_true rfl) (Nat.le_of_ble_eq_true rfl) d10_13_21 ?_
  refine W.eq (g2 := F0 m 24 ls [.int 0]) rfl ?_
  refine lv_istore_n (lv' := [(2, .int 0), (3, .int 1), (0, .ref (q 6)), (1, .int n)]) hx hb d10_13_24 rfl hl (by decide) rfl (fun ls hl => ?_)
  refine lv_iinc (k := 1) (v := 2) (lv' := [(3, .int 2), (2, .int 0), (0, .ref (q 6)), (1, .int n)]) hx hb d10_13_25 hl rfl (by first | decide | rfl) (by decide) rfl (fun ls hl => ?_)
  refine lv_goto (tgt := 4) hx hb d10_13_28 rfl ?_
  refine lv_iload_n hx hb d10_13_4 rfl (lv_at hl 0 rfl) ?_
  refine lv_iconst (v := 2) hx hb d10_13_5 (by decide) ?_
  refine lv_icmp_ge (tgt := 31) hx hb d10_13_6 rfl (fun _ => ?_) (fun hc => absurd hc (by decide))
  refine lv_iconst (v := 0) hx hb d10_13_31 (by decide) ?_
  refine lv_istore_n (lv' := [(3, .int 0), (2, .int 0), (0, .ref (q 6)), (1, .int n)]) hx hb d10_13_32 rfl hl (by decide) rfl (fun ls hl => ?_)
  refine lv_iload_n hx hb d10_13_33 rfl (lv_at hl 0 rfl) ?_
  refine lv_iconst (v := 3) hx hb d10_13_34 (by decide) ?_
  refine lv_icmp_ge (tgt := 69) hx hb d10_13_35 rfl (fun hc => absurd hc (by decide)) (fun _ => ?_)
  refine lv_aload_n hx hb d10_13_38 rfl (lv_at hl 2 rfl) ?_
  refine va_get (D := G.1) (ci := 9) (v := .ref (q 19)) (C := r_9) (T := f_9) (N := 9) (ref := "PagedValues$Store") hx hb hts (fun w h => List.mem_cons_of_mem _ (ly_9 w h)) hown hK hP 6 rfl rfl 3 (by decide) (hts _ (List.mem_cons_of_mem _ k240)) (fun _ h9 => h9) rfl d10_13_39 ?_
  refine lv_iload_n hx hb d10_13_42 rfl (lv_at hl 0 rfl) ?_
  refine va_zald (D := G.1) hx hb hK hP 19 3 rfl rfl (i := 0) (by unfold vp_in; decide) d10_13_43 ?_
  refine W.eq (g2 := F0 m 44 ls [.int 0]) rfl ?_
  refine lv_if_eq (tgt := 63) hx hb d10_13_44 rfl (fun _ => ?_) (fun hc => absurd hc (by decide))
  refine lv_iinc (k := 0) (v := 1) (lv' := [(3, .int 1), (2, .int 0), (0, .ref (q 6)), (1, .int n)]) hx hb d10_13_63 hl rfl (by first | decide | rfl) (by decide) rfl (fun ls hl => ?_)
  refine lv_goto (tgt := 33) hx hb d10_13_66 rfl ?_
  refine lv_iload_n hx hb d10_13_33 rfl (lv_at hl 0 rfl) ?_
  refine lv_iconst (v := 3) hx hb d10_13_34 (by decide) ?_
  refine lv_icmp_ge (tgt := 69) hx hb d10_13_35 rfl (fun hc => absurd hc (by decide)) (fun _ => ?_)
  refine lv_aload_n hx hb d10_13_38 rfl (lv_at hl 2 rfl) ?_
  refine va_get (D := G.1) (ci := 9) (v := .ref (q 19)) (C := r_9) (T := f_9) (N := 9) (ref := "PagedValues$Store") hx hb hts (fun w h => List.mem_cons_of_mem _ (ly_9 w h)) hown hK hP 6 rfl rfl 3 (by decide) (hts _ (List.mem_cons_of_mem _ k240)) (fun _ h9 => h9) rfl d10_13_39 ?_
  refine lv_iload_n hx hb d10_13_42 rfl (lv_at hl 0 rfl) ?_
  refine va_zald (D := G.1) hx hb hK hP 19 3 rfl rfl (i := 1) (by unfold vp_in; decide) d10_13_43 ?_
  refine W.eq (g2 := F0 m 44 ls [.int 0]) rfl ?_
  refine lv_if_eq (tgt := 63) hx hb d10_13_44 rfl (fun _ => ?_) (fun hc => absurd hc (by decide))
  refine lv_iinc (k := 0) (v := 2) (lv' := [(3, .int 2), (2, .int 0), (0, .ref (q 6)), (1, .int n)]) hx hb d10_13_63 hl rfl (by first | decide | rfl) (by decide) rfl (fun ls hl => ?_)
  refine lv_goto (tgt := 33) hx hb d10_13_66 rfl ?_
  refine lv_iload_n hx hb d10_13_33 rfl (lv_at hl 0 rfl) ?_
  refine lv_iconst (v := 3) hx hb d10_13_34 (by decide) ?_
  refine lv_icmp_ge (tgt := 69) hx hb d10_13_35 rfl (fun hc => absurd hc (by decide)) (fun _ => ?_)
  refine lv_aload_n hx hb d10_13_38 rfl (lv_at hl 2 rfl) ?_
  refine va_get (D := G.1) (ci := 9) (v := .ref (q 19)) (C := r_9) (T := f_9) (N := 9) (ref := "PagedValues$Store") hx hb hts (fun w h => List.mem_cons_of_mem _ (ly_9 w h)) hown hK hP 6 rfl rfl 3 (by decide) (hts _ (List.mem_cons_of_mem _ k240)) (fun _ h9 => h9) rfl d10_13_39 ?_
  refine lv_iload_n hx hb d10_13_42 rfl (lv_at hl 0 rfl) ?_
  refine va_zald (D := G.1) hx hb hK hP 19 3 rfl rfl (i := 2) (by unfold vp_in; decide) d10_13_43 ?_
  refine W.eq (g2 := F0 m 44 ls [.int 0]) rfl ?_
  refine lv_if_eq (tgt := 63) hx hb d10_13_44 rfl (fun _ => ?_) (fun hc => absurd hc (by decide))
  refine lv_iinc (k := 0) (v := 3) (lv' := [(3, .int 3), (2, .int 0), (0, .ref (q 6)), (1, .int n)]) hx hb d10_13_63 hl rfl (by first | decide | rfl) (by decide) rfl (fun ls hl => ?_)
  refine lv_goto (tgt := 33) hx hb d10_13_66 rfl ?_
  refine lv_iload_n hx hb d10_13_33 rfl (lv_at hl 0 rfl) ?_
  refine lv_iconst (v := 3) hx hb d10_13_34 (by decide) ?_
  refine lv_icmp_ge (tgt := 69) hx hb d10_13_35 rfl (fun _ => ?_) (fun hc => absurd hc (by decide))
  refine lv_iload_n hx hb d10_13_69 rfl (lv_at hl 1 rfl) ?_
  exact fin_i hx hb hr hlk hS () rfl hP hD (Nat.le_of_ble_eq_true rfl) (Nat.le_of_ble_eq_true rfl) d10_13_70
set_option maxHeartbeats 4000000 in
set_option maxRecDepth 100000 in
theorem b11_2_4 (l : Launch) (G : Gk) (Zd q : Nat → Nat) (cw : Nat) (R : Nat → Option Nat) (Q : Nat → Nat → Option Nat) (pl : va_W) (x1 : Int32) (sz : Nat) : Met l y11_2 (Cond.code y11_2 prog_11_method_2_code 2 (some .boolean) :: TB) (rmD 0 0 0) (va_Pc [.ref (q 1), .int x1] (pcW G Zd (wC q G.2 cw cI0 cA0 R Q pl) sz)) (qI G (fun rr (_ : Unit) => rr = 1) (fun _ => (wC q G.2 cw (upd cI0 0 1) (va_up cA0 0 (upd (cA0 0) (0 : Int32).toNatClampNeg (vp_nar .char x1))) R Q pl)) (va_A (wC q G.2 cw cI0 cA0 R Q pl) sz)) 0 0 (va_A (wC q G.2 cw cI0 cA0 R Q pl) sz) := by
  refine go (Qc := qI G (fun rr (_ : Unit) => rr = 1) (fun _ => (wC q G.2 cw (upd cI0 0 1) (va_up cA0 0 (upd (cA0 0) (0 : Int32).toNatClampNeg (vp_nar .char x1))) R Q pl))) "PagedValues$Text" rfl (by decide) (Nat.le_of_ble_eq_true rfl) ?_
  intro p e s m below meth c ls A hx hb hr hlk hml hown hts hin hl hP hD hK hS hA hZ
  have hl : lv_has ls 2 [(0, .ref (q 1)), (1, .int x1)] := hl
  refine lv_aload_n hx hb d11_2_0 rfl (lv_at hl 0 rfl) ?_
  refine va_get (D := G.1) (ci := 1) (v := .int 0) (C := r_1) (T := f_1) (N := 5) (ref := "PagedValues$Text") hx hb hts (fun w h => List.mem_cons_of_mem _ (ly_1 w h)) hown hK hP 1 rfl rfl 2 (by decide) (hts _ (List.mem_cons_of_mem _ k77)) (fun _ h9 => h9) rfl d11_2_1 ?_
  refine lv_bipush (v := 80) hx hb d11_2_4 (by decide) ?_
  refine lv_icmp_lt (tgt := 11) hx hb d11_2_6 rfl (fun _ => ?_) (fun hc => absurd hc (by decide))
  refine lv_aload_n hx hb d11_2_11 rfl (lv_at hl 0 rfl) ?_
  refine va_get (D := G.1) (ci := 1) (v := .ref (q 8)) (C := r_1) (T := f_1) (N := 5) (ref := "PagedValues$Text") hx hb hts (fun w h => List.mem_cons_of_mem _ (ly_1 w h)) hown hK hP 1 rfl rfl 0 (by decide) (hts _ (List.mem_cons_of_mem _ k75)) (fun _ h9 => h9) rfl d11_2_12 ?_
  refine lv_aload_n hx hb d11_2_15 rfl (lv_at hl 0 rfl) ?_
  refine va_get (D := G.1) (ci := 1) (v := .int 0) (C := r_1) (T := f_1) (N := 5) (ref := "PagedValues$Text") hx hb hts (fun w h => List.mem_cons_of_mem _ (ly_1 w h)) hown hK hP 1 rfl rfl 2 (by decide) (hts _ (List.mem_cons_of_mem _ k77)) (fun _ h9 => h9) rfl d11_2_16 ?_
  refine lv_iload_n hx hb d11_2_19 rfl (lv_at hl 1 rfl) ?_
  refine va_cast (D := G.1) hx hb hK hP hD hS 8 0 rfl rfl (i := 0) (x := x1) (by unfold vp_in; decide) d11_2_20 (fun H locs hP hD hS => ?_)
  have hP : va_P G.1 vwCl (wC q G.2 cw cI0 (va_up cA0 0 (upd (cA0 0) (0 : Int32).toNatClampNeg (vp_nar .char x1))) R Q pl) H := hP
  have hD : va_D A (wC q G.2 cw cI0 (va_up cA0 0 (upd (cA0 0) (0 : Int32).toNatClampNeg (vp_nar .char x1))) R Q pl) := hD
  refine lv_aload_n hx hb d11_2_21 rfl (lv_at hl 0 rfl) ?_
  refine lv_dup hx hb d11_2_22 rfl ?_
  refine va_get (D := G.1) (ci := 1) (v := .int 0) (C := r_1) (T := f_1) (N := 5) (ref := "PagedValues$Text") hx hb hts (fun w h => List.mem_cons_of_mem _ (ly_1 w h)) hown hK hP 1 rfl rfl 2 (by decide) (hts _ (List.mem_cons_of_mem _ k77)) (fun _ h9 => h9) rfl d11_2_23 ?_
  refine lv_iconst (v := 1) hx hb d11_2_26 (by decide) ?_
  refine lv_iadd hx hb d11_2_27 ?_
  refine W.eq (g2 := F0 m 28 ls [.int 1, .ref (q 1)]) rfl ?_
  refine va_put (D := G.1) (ci := 1) (v := .int 1) (ty := .int) (C := r_1) (T := f_1) (N := 5) (ref := "PagedValues$Text") hx hb hts (fun w h => List.mem_cons_of_mem _ (ly_1 w h)) ft_1 ft_1_ok nm_1 hown hK hP hD hS 1 rfl rfl 2 (by decide) (hts _ (List.mem_cons_of_mem _ k77)) (fun _ h9 => h9) rfl (by decide +kernel) rfl rfl (Nat.le_of_ble_eq_true rfl) d11_2_28 (fun H locs hP hD hS => ?_)
  have hP : va_P G.1 vwCl (wC q G.2 cw (upd cI0 0 1) (va_up cA0 0 (upd (cA0 0) (0 : Int32).toNatClampNeg (vp_nar .char x1))) R Q pl) H := hP
  have hD : va_D A (wC q G.2 cw (upd cI0 0 1) (va_up cA0 0 (upd (cA0 0) (0 : Int32).toNatClampNeg (vp_nar .char x1))) R Q pl) := hD
  refine lv_iconst (v := 1) hx hb d11_2_31 (by decide) ?_
  exact fin_z hx hb hr hlk (by decide) hS () rfl hP hD (Nat.le_of_ble_eq_true rfl) (Nat.le_of_ble_eq_true rfl) d11_2_32
set_option maxHeartbeats 4000000 in
set_option maxRecDepth 100000 in
theorem tc_type (l : Launch) (G : Gk) (Zd q : Nat → Nat) (cw : Nat) (R : Nat → Option Nat) (Q : Nat → Nat → Option Nat) (pl : va_W) (ch : Int32) (sz : Nat) : Met l y1_2 (Cond.code y1_2 prog_1_method_2_code 2 (some .int) :: TB) (rmD 1 0 0) (va_Pc [.ref (q 0), .int ch] (pcW G Zd (wC q G.2 cw cI0 cA0 R Q pl) sz)) (qI G (fun rr (_ : Unit) => rr = 1) (fun _ => []) (va_A (wC q G.2 cw cI0 cA0 R Q pl) sz)) 0 0 (va_A (wC q G.2 cw cI0 cA0 R Q pl) sz) := by
  refine go (Qc := qI G (fun rr (_ : Unit) => rr = 1) (fun _ => [])) "PagedValues" rfl (by decide) (Nat.le_of_ble_eq_true rfl) ?_
  intro p e s m below meth c ls A hx hb hr hlk hml hown hts hin hl hP hD hK hS hA hZ
  have hl : lv_has ls 2 [(0, .ref (q 0)), (1, .int ch)] := hl
  refine lv_aload_n hx hb d1_2_0 rfl (lv_at hl 0 rfl) ?_
  refine va_get (D := G.1) (ci := 0) (v := .ref (q 6)) (C := r_0) (T := f_0) (N := 7) (ref := "PagedValues") hx hb hts (fun w h => List.mem_cons_of_mem _ (ly_0 w h)) hown hK hP 0 rfl rfl 5 (by decide) (hts _ (List.mem_cons_of_mem _ k275)) (fun _ h9 => h9) rfl d1_2_1 ?_
  refine va_getN (D := G.1) (ci := 9) (v := .int 0) (C := r_9) (T := f_9) (N := 9) (ref := "PagedValues$Store") hx hb hts (fun w h => List.mem_cons_of_mem _ (ly_9 w h)) hown hK hP 6 rfl rfl 8 (by decide) (va_Nw.use rfl (hZ.1 _ kn247)) (fun _ h9 => h9) rfl d1_2_4 ?_
  refine lv_if_eq (tgt := 13) hx hb d1_2_7 rfl (fun _ => ?_) (fun hc => absurd hc (by decide))
  refine lv_aload_n hx hb d1_2_13 rfl (lv_at hl 0 rfl) ?_
  refine va_get (D := G.1) (ci := 0) (v := .ref (q 1)) (C := r_0) (T := f_0) (N := 7) (ref := "PagedValues") hx hb hts (fun w h => List.mem_cons_of_mem _ (ly_0 w h)) hown hK hP 0 rfl rfl 0 (by decide) (hts _ (List.mem_cons_of_mem _ k270)) (fun _ h9 => h9) rfl d1_2_14 ?_
  refine lv_iload_n hx hb d1_2_17 rfl (lv_at hl 1 rfl) ?_
  refine sV_i (As := [.int ch]) (rest := []) ⟨hx, hb, hml, hown, hts⟩ (b11_2_4 l G Zd q cw R Q pl ch _) (kw_V (n := 1) hts k299 k296 k2 k297 k298 (by decide +kernel) ⟨Nat.le_of_ble_eq_true rfl, Nat.le_of_ble_eq_true rfl⟩) hP hD hK hS hA hZ (va_recv (ci := 1) (q0 := 1) hK hP rfl rfl) rfl hl.1 rfl (Nat.le_of_ble_eq_true rfl) d1_2_18 ⟨Nat.le_of_ble_eq_true rfl, Nat.le_of_ble_eq_true rfl⟩ (fun rr u H locs hp hP hD hS => ?_)
  obtain rfl := hp
  refine W.eq (g2 := F0 m 21 ls [.int 1]) rfl ?_
  have hP : va_P G.1 vwCl (wC q G.2 cw (upd cI0 0 1) (va_up cA0 0 (upd (cA0 0) (0 : Int32).toNatClampNeg (vp_nar .char ch))) R Q pl) H := hP
  have hD : va_D A (wC q G.2 cw (upd cI0 0 1) (va_up cA0 0 (upd (cA0 0) (0 : Int32).toNatClampNeg (vp_nar .char ch))) R Q pl) := hD
  refine lv_if_eq (tgt := 34) hx hb d1_2_21 rfl (fun hc => absurd hc (by decide)) (fun _ => ?_)
  refine lv_aload_n hx hb d1_2_24 rfl (lv_at hl 0 rfl) ?_
  refine va_get (D := G.1) (ci := 0) (v := .ref (q 1)) (C := r_0) (T := f_0) (N := 7) (ref := "PagedValues") hx hb hts (fun w h => List.mem_cons_of_mem _ (ly_0 w h)) hown hK hP 0 rfl rfl 0 (by decide) (hts _ (List.mem_cons_of_mem _ k270)) (fun _ h9 => h9) rfl d1_2_25 ?_
  refine va_getN (D := G.1) (ci := 1) (v := .int 1) (C := r_1) (T := f_1) (N := 5) (ref := "PagedValues$Text") hx hb hts (fun w h => List.mem_cons_of_mem _ (ly_1 w h)) hown hK hP 1 rfl rfl 2 (by decide) (va_Nw.use rfl (hZ.1 _ kn78)) (fun _ h9 => h9) rfl d1_2_28 ?_
  refine lv_goto (tgt := 35) hx hb d1_2_31 rfl ?_
  exact fin_i hx hb hr hlk hS () rfl (fun k q h => by simp at h) ⟨fun i j x y h => by simp at h, fun k q h => by simp at h⟩ (Nat.le_of_ble_eq_true rfl) (Nat.le_of_ble_eq_true rfl) d1_2_35
set_option maxHeartbeats 4000000 in
set_option maxRecDepth 100000 in
theorem b11_4_5 (l : Launch) (G : Gk) (Zd q : Nat → Nat) (cw : Nat) (R : Nat → Option Nat) (Q : Nat → Nat → Option Nat) (pl : va_W)  (sz : Nat) : Met l y11_4 (Cond.code y11_4 prog_11_method_4_code 1 none :: TB) (rmD 0 0 0) (va_Pc [.ref (q 1)] (pcW G Zd (wC q G.2 cw (upd cI0 3 0) cA0 R Q pl) sz)) (qV G (fun (_ : Unit) => True) (fun _ => (wC q G.2 cw (upd (upd (upd cI0 3 0) 1 0) 2 (-1)) cA0 R Q pl)) (va_A (wC q G.2 cw (upd cI0 3 0) cA0 R Q pl) sz)) 0 0 (va_A (wC q G.2 cw (upd cI0 3 0) cA0 R Q pl) sz) := by
  refine go (Qc := qV G (fun (_ : Unit) => True) (fun _ => (wC q G.2 cw (upd (upd (upd cI0 3 0) 1 0) 2 (-1)) cA0 R Q pl))) "PagedValues$Text" rfl (by decide) (Nat.le_of_ble_eq_true rfl) ?_
  intro p e s m below meth c ls A hx hb hr hlk hml hown hts hin hl hP hD hK hS hA hZ
  have hl : lv_has ls 1 [(0, .ref (q 1))] := hl
  refine lv_aload_n hx hb d11_4_0 rfl (lv_at hl 0 rfl) ?_
  refine lv_iconst (v := 0) hx hb d11_4_1 (by decide) ?_
  refine va_put (D := G.1) (ci := 1) (v := .int 0) (ty := .int) (C := r_1) (T := f_1) (N := 5) (ref := "PagedValues$Text") hx hb hts (fun w h => List.mem_cons_of_mem _ (ly_1 w h)) ft_1 ft_1_ok nm_1 hown hK hP hD hS 1 rfl rfl 3 (by decide) (hts _ (List.mem_cons_of_mem _ k79)) (fun _ h9 => h9) rfl (by decide +kernel) rfl rfl (Nat.le_of_ble_eq_true rfl) d11_4_2 (fun H locs hP hD hS => ?_)
  have hP : va_P G.1 vwCl (wC q G.2 cw (upd (upd cI0 3 0) 1 0) cA0 R Q pl) H := hP
  have hD : va_D A (wC q G.2 cw (upd (upd cI0 3 0) 1 0) cA0 R Q pl) := hD
  refine lv_aload_n hx hb d11_4_5 rfl (lv_at hl 0 rfl) ?_
  refine lv_iconst (v := (-1)) hx hb d11_4_6 (by decide) ?_
  refine va_put (D := G.1) (ci := 1) (v := .int (-1)) (ty := .int) (C := r_1) (T := f_1) (N := 5) (ref := "PagedValues$Text") hx hb hts (fun w h => List.mem_cons_of_mem _ (ly_1 w h)) ft_1 ft_1_ok nm_1 hown hK hP hD hS 1 rfl rfl 4 (by decide) (hts _ (List.mem_cons_of_mem _ k81)) (fun _ h9 => h9) rfl (by decide +kernel) rfl rfl (Nat.le_of_ble_eq_true rfl) d11_4_7 (fun H locs hP hD hS => ?_)
  have hP : va_P G.1 vwCl (wC q G.2 cw (upd (upd (upd cI0 3 0) 1 0) 2 (-1)) cA0 R Q pl) H := hP
  have hD : va_D A (wC q G.2 cw (upd (upd (upd cI0 3 0) 1 0) 2 (-1)) cA0 R Q pl) := hD
  exact fin_v hx hb hr hlk hS () trivial hP hD (Nat.le_of_ble_eq_true rfl) (Nat.le_of_ble_eq_true rfl) d11_4_10
set_option maxHeartbeats 4000000 in
set_option maxRecDepth 100000 in
theorem b11_12_6 (l : Launch) (G : Gk) (Zd q : Nat → Nat) (cw : Nat) (R : Nat → Option Nat) (Q : Nat → Nat → Option Nat) (pl : va_W)  (sz : Nat) : Met l y11_12 (Cond.code y11_12 prog_11_method_12_code 1 none :: TB) (rmD 0 0 0) (va_Pc [.ref (q 1)] (pcW G Zd (wC q G.2 cw (upd (upd (upd cI0 3 0) 1 0) 2 (-1)) cA0 R Q pl) sz)) (qV G (fun (_ : Unit) => True) (fun _ => (wC q G.2 cw (upd (upd (upd cI0 3 0) 1 0) 2 (-1)) cA0 R Q pl)) (va_A (wC q G.2 cw (upd (upd (upd cI0 3 0) 1 0) 2 (-1)) cA0 R Q pl) sz)) 0 0 (va_A (wC q G.2 cw (upd (upd (upd cI0 3 0) 1 0) 2 (-1)) cA0 R Q pl) sz) := by
  refine go (Qc := qV G (fun (_ : Unit) => True) (fun _ => (wC q G.2 cw (upd (upd (upd cI0 3 0) 1 0) 2 (-1)) cA0 R Q pl))) "PagedValues$Text" rfl (by decide) (Nat.le_of_ble_eq_true rfl) ?_
  intro p e s m below meth c ls A hx hb hr hlk hml hown hts hin hl hP hD hK hS hA hZ
  have hl : lv_has ls 1 [(0, .ref (q 1))] := hl
  refine lv_aload_n hx hb d11_12_0 rfl (lv_at hl 0 rfl) ?_
  refine va_get (D := G.1) (ci := 1) (v := .int 0) (C := r_1) (T := f_1) (N := 5) (ref := "PagedValues$Text") hx hb hts (fun w h => List.mem_cons_of_mem _ (ly_1 w h)) hown hK hP 1 rfl rfl 3 (by decide) (hts _ (List.mem_cons_of_mem _ k79)) (fun _ h9 => h9) rfl d11_12_1 ?_
  refine lv_aload_n hx hb d11_12_4 rfl (lv_at hl 0 rfl) ?_
  refine va_get (D := G.1) (ci := 1) (v := .int 0) (C := r_1) (T := f_1) (N := 5) (ref := "PagedValues$Text") hx hb hts (fun w h => List.mem_cons_of_mem _ (ly_1 w h)) hown hK hP 1 rfl rfl 2 (by decide) (hts _ (List.mem_cons_of_mem _ k77)) (fun _ h9 => h9) rfl d11_12_5 ?_
  refine lv_icmp_ge (tgt := 34) hx hb d11_12_8 rfl (fun _ => ?_) (fun hc => absurd hc (by decide))
  exact fin_v hx hb hr hlk hS () trivial hP hD (Nat.le_of_ble_eq_true rfl) (Nat.le_of_ble_eq_true rfl) d11_12_34
set_option maxHeartbeats 4000000 in
set_option maxRecDepth 100000 in
theorem b11_9_7 (l : Launch) (G : Gk) (Zd q : Nat → Nat) (cw : Nat) (R : Nat → Option Nat) (Q : Nat → Nat → Option Nat) (pl : va_W)  (sz : Nat) : Met l y11_9 (Cond.code y11_9 prog_11_method_9_code 1 (some .int) :: TB) (rmD 0 0 0) (va_Pc [.ref (q 1)] (pcW G Zd (wC q G.2 cw (upd (upd (upd cI0 1 0) 2 (-1)) 3 1) cA0 R Q pl) sz)) (qI G (fun rr (_ : Unit) => rr = (-1)) (fun _ => (wC q G.2 cw (upd (upd (upd cI0 1 0) 2 (-1)) 3 1) cA0 R Q pl)) (va_A (wC q G.2 cw (upd (upd (upd cI0 1 0) 2 (-1)) 3 1) cA0 R Q pl) sz)) 0 0 (va_A (wC q G.2 cw (upd (upd (upd cI0 1 0) 2 (-1)) 3 1) cA0 R Q pl) sz) := by
  refine go (Qc := qI G (fun rr (_ : Unit) => rr = (-1)) (fun _ => (wC q G.2 cw (upd (upd (upd cI0 1 0) 2 (-1)) 3 1) cA0 R Q pl))) "PagedValues$Text" rfl (by decide) (Nat.le_of_ble_eq_true rfl) ?_
  intro p e s m below meth c ls A hx hb hr hlk hml hown hts hin hl hP hD hK hS hA hZ
  have hl : lv_has ls 1 [(0, .ref (q 1))] := hl
  refine lv_aload_n hx hb d11_9_0 rfl (lv_at hl 0 rfl) ?_
  refine va_get (D := G.1) (ci := 1) (v := .int 0) (C := r_1) (T := f_1) (N := 5) (ref := "PagedValues$Text") hx hb hts (fun w h => List.mem_cons_of_mem _ (ly_1 w h)) hown hK hP 1 rfl rfl 3 (by decide) (hts _ (List.mem_cons_of_mem _ k79)) (fun _ h9 => h9) rfl d11_9_1 ?_
  refine lv_aload_n hx hb d11_9_4 rfl (lv_at hl 0 rfl) ?_
  refine va_get (D := G.1) (ci := 1) (v := .int 0) (C := r_1) (T := f_1) (N := 5) (ref := "PagedValues$Text") hx hb hts (fun w h => List.mem_cons_of_mem _ (ly_1 w h)) hown hK hP 1 rfl rfl 2 (by decide) (hts _ (List.mem_cons_of_mem _ k77)) (fun _ h9 => h9) rfl d11_9_5 ?_
  refine lv_icmp_ge (tgt := 23) hx hb d11_9_8 rfl (fun _ => ?_) (fun hc => absurd hc (by decide))
  refine lv_iconst (v := (-1)) hx hb d11_9_23 (by decide) ?_
  exact fin_i hx hb hr hlk hS () rfl hP hD (Nat.le_of_ble_eq_true rfl) (Nat.le_of_ble_eq_true rfl) d11_9_24
set_option maxHeartbeats 4000000 in
set_option maxRecDepth 100000 in
theorem b11_10_8 (l : Launch) (G : Gk) (Zd q : Nat → Nat) (cw : Nat) (R : Nat → Option Nat) (Q : Nat → Nat → Option Nat) (pl : va_W)  (sz : Nat) : Met l y11_10 (Cond.code y11_10 prog_11_method_10_code 2 (some .boolean) :: TB) (rmD 0 0 0) (va_Pc [.ref (q 1), .int 45] (pcW G Zd (wC q G.2 cw (upd (upd (upd cI0 1 0) 2 (-1)) 3 1) cA0 R Q pl) sz)) (qI G (fun rr (_ : Unit) => rr = 0) (fun _ => (wC q G.2 cw (upd (upd (upd cI0 1 0) 2 (-1)) 3 1) cA0 R Q pl)) (va_A (wC q G.2 cw (upd (upd (upd cI0 1 0) 2 (-1)) 3 1) cA0 R Q pl) sz)) 0 0 (va_A (wC q G.2 cw (upd (upd (upd cI0 1 0) 2 (-1)) 3 1) cA0 R Q pl) sz) := by
  refine go (Qc := qI G (fun rr (_ : Unit) => rr = 0) (fun _ => (wC q G.2 cw (upd (upd (upd cI0 1 0) 2 (-1)) 3 1) cA0 R Q pl))) "PagedValues$Text" rfl (by decide) (Nat.le_of_ble_eq_true rfl) ?_
  intro p e s m below meth c ls A hx hb hr hlk hml hown hts hin hl hP hD hK hS hA hZ
  have hl : lv_has ls 2 [(0, .ref (q 1)), (1, .int 45)] := hl
  refine lv_aload_n hx hb d11_10_0 rfl (lv_at hl 0 rfl) ?_
  refine va_get (D := G.1) (ci := 1) (v := .int 0) (C := r_1) (T := f_1) (N := 5) (ref := "PagedValues$Text") hx hb hts (fun w h => List.mem_cons_of_mem _ (ly_1 w h)) hown hK hP 1 rfl rfl 3 (by decide) (hts _ (List.mem_cons_of_mem _ k79)) (fun _ h9 => h9) rfl d11_10_1 ?_
  refine lv_aload_n hx hb d11_10_4 rfl (lv_at hl 0 rfl) ?_
  refine va_get (D := G.1) (ci := 1) (v := .int 0) (C := r_1) (T := f_1) (N := 5) (ref := "PagedValues$Text") hx hb hts (fun w h => List.mem_cons_of_mem _ (ly_1 w h)) hown hK hP 1 rfl rfl 2 (by decide) (hts _ (List.mem_cons_of_mem _ k77)) (fun _ h9 => h9) rfl d11_10_5 ?_
  refine lv_icmp_ge (tgt := 24) hx hb d11_10_8 rfl (fun _ => ?_) (fun hc => absurd hc (by decide))
  refine lv_iconst (v := 0) hx hb d11_10_24 (by decide) ?_
  exact fin_z hx hb hr hlk (by decide) hS () rfl hP hD (Nat.le_of_ble_eq_true rfl) (Nat.le_of_ble_eq_true rfl) d11_10_25
set_option maxHeartbeats 4000000 in
set_option maxRecDepth 100000 in
theorem b11_18_9 (l : Launch) (G : Gk) (Zd q : Nat → Nat) (cw : Nat) (R : Nat → Option Nat) (Q : Nat → Nat → Option Nat) (pl : va_W)  (sz : Nat) : Met l y11_18 (Cond.code y11_18 prog_11_method_18_code 1 (some .boolean) :: TB) (rmD 0 0 0) (va_Pc [.int (-1)] (pcW G Zd (wC q G.2 cw (upd (upd (upd cI0 1 0) 2 (-1)) 3 1) cA0 R Q pl) sz)) (qI G (fun rr (_ : Unit) => rr = 0) (fun _ => (wC q G.2 cw (upd (upd (upd cI0 1 0) 2 (-1)) 3 1) cA0 R Q pl)) (va_A (wC q G.2 cw (upd (upd (upd cI0 1 0) 2 (-1)) 3 1) cA0 R Q pl) sz)) 0 0 (va_A (wC q G.2 cw (upd (upd (upd cI0 1 0) 2 (-1)) 3 1) cA0 R Q pl) sz) := by
  refine go (Qc := qI G (fun rr (_ : Unit) => rr = 0) (fun _ => (wC q G.2 cw (upd (upd (upd cI0 1 0) 2 (-1)) 3 1) cA0 R Q pl))) "PagedValues$Text" rfl (by decide) (Nat.le_of_ble_eq_true rfl) ?_
  intro p e s m below meth c ls A hx hb hr hlk hml hown hts hin hl hP hD hK hS hA hZ
  have hl : lv_has ls 1 [(0, .int (-1))] := hl
  refine lv_iload_n hx hb d11_18_0 rfl (lv_at hl 0 rfl) ?_
  refine lv_bipush (v := 48) hx hb d11_18_1 (by decide) ?_
  refine lv_icmp_lt (tgt := 16) hx hb d11_18_3 rfl (fun _ => ?_) (fun hc => absurd hc (by decide))
  refine lv_iconst (v := 0) hx hb d11_18_16 (by decide) ?_
  exact fin_z hx hb hr hlk (by decide) hS () rfl hP hD (Nat.le_of_ble_eq_true rfl) (Nat.le_of_ble_eq_true rfl) d11_18_17
set_option maxHeartbeats 4000000 in
set_option maxRecDepth 100000 in
theorem b11_8_10 (l : Launch) (G : Gk) (Zd q : Nat → Nat) (cw : Nat) (R : Nat → Option Nat) (Q : Nat → Nat → Option Nat) (pl : va_W)  (sz : Nat) : Met l y11_8 (Cond.code y11_8 prog_11_method_8_code 1 none :: TB) (rmD 0 0 0) (va_Pc [.ref (q 1)] (pcW G Zd (wC q G.2 cw (upd (upd (upd cI0 1 0) 2 (-1)) 3 1) cA0 R Q pl) sz)) (qV G (fun (_ : Unit) => True) (fun _ => (wC q G.2 cw (upd (upd (upd cI0 1 0) 3 1) 2 0) cA0 R Q pl)) (va_A (wC q G.2 cw (upd (upd (upd cI0 1 0) 2 (-1)) 3 1) cA0 R Q pl) sz)) 0 0 (va_A (wC q G.2 cw (upd (upd (upd cI0 1 0) 2 (-1)) 3 1) cA0 R Q pl) sz) := by
  refine go (Qc := qV G (fun (_ : Unit) => True) (fun _ => (wC q G.2 cw (upd (upd (upd cI0 1 0) 3 1) 2 0) cA0 R Q pl))) "PagedValues$Text" rfl (by decide) (Nat.le_of_ble_eq_true rfl) ?_
  intro p e s m below meth c ls A hx hb hr hlk hml hown hts hin hl hP hD hK hS hA hZ
  have hl : lv_has ls 1 [(0, .ref (q 1))] := hl
  refine lv_aload_n hx hb d11_8_0 rfl (lv_at hl 0 rfl) ?_
  refine va_get (D := G.1) (ci := 1) (v := .int (-1)) (C := r_1) (T := f_1) (N := 5) (ref := "PagedValues$Text") hx hb hts (fun w h => List.mem_cons_of_mem _ (ly_1 w h)) hown hK hP 1 rfl rfl 4 (by decide) (hts _ (List.mem_cons_of_mem _ k81)) (fun _ h9 => h9) rfl d11_8_1 ?_
  refine lv_iconst (v := (-1)) hx hb d11_8_4 (by decide) ?_
  refine lv_icmp_ne (tgt := 16) hx hb d11_8_5 rfl (fun hc => absurd hc (by decide)) (fun _ => ?_)
  refine lv_aload_n hx hb d11_8_8 rfl (lv_at hl 0 rfl) ?_
  refine lv_aload_n hx hb d11_8_9 rfl (lv_at hl 0 rfl) ?_
  refine va_get (D := G.1) (ci := 1) (v := .int 0) (C := r_1) (T := f_1) (N := 5) (ref := "PagedValues$Text") hx hb hts (fun w h => List.mem_cons_of_mem _ (ly_1 w h)) hown hK hP 1 rfl rfl 3 (by decide) (hts _ (List.mem_cons_of_mem _ k79)) (fun _ h9 => h9) rfl d11_8_10 ?_
  refine va_put (D := G.1) (ci := 1) (v := .int 0) (ty := .int) (C := r_1) (T := f_1) (N := 5) (ref := "PagedValues$Text") hx hb hts (fun w h => List.mem_cons_of_mem _ (ly_1 w h)) ft_1 ft_1_ok nm_1 hown hK hP hD hS 1 rfl rfl 4 (by decide) (hts _ (List.mem_cons_of_mem _ k81)) (fun _ h9 => h9) rfl (by decide +kernel) rfl rfl (Nat.le_of_ble_eq_true rfl) d11_8_13 (fun H locs hP hD hS => ?_)
  have hP : va_P G.1 vwCl (wC q G.2 cw (upd (upd (upd cI0 1 0) 3 1) 2 0) cA0 R Q pl) H := hP
  have hD : va_D A (wC q G.2 cw (upd (upd (upd cI0 1 0) 3 1) 2 0) cA0 R Q pl) := hD
  exact fin_v hx hb hr hlk hS () trivial hP hD (Nat.le_of_ble_eq_true rfl) (Nat.le_of_ble_eq_true rfl) d11_8_16
set_option maxHeartbeats 4000000 in
set_option maxRecDepth 100000 in
theorem b11_13_11 (l : Launch) (G : Gk) (Zd q : Nat → Nat) (cw : Nat) (R : Nat → Option Nat) (Q : Nat → Nat → Option Nat) (pl : va_W)  (sz : Nat) : Met l y11_13 (Cond.code y11_13 prog_11_method_13_code 4 (some .int) :: TB) (rmD 1 0 0) (va_Pc [.ref (q 1), .int 6] (pcW G Zd (wC q G.2 cw (upd (upd (upd cI0 1 0) 2 (-1)) 3 1) cA0 R Q pl) sz)) (qI G (fun rr (_ : Unit) => rr = 0) (fun _ => (wC q G.2 cw (upd (upd (upd cI0 1 0) 3 1) 2 0) cA0 R Q pl)) (va_A (wC q G.2 cw (upd (upd (upd cI0 1 0) 2 (-1)) 3 1) cA0 R Q pl) sz)) 0 0 (va_A (wC q G.2 cw (upd (upd (upd cI0 1 0) 2 (-1)) 3 1) cA0 R Q pl) sz) := by
  refine go (Qc := qI G (fun rr (_ : Unit) => rr = 0) (fun _ => (wC q G.2 cw (upd (upd (upd cI0 1 0) 3 1) 2 0) cA0 R Q pl))) "PagedValues$Text" rfl (by decide) (Nat.le_of_ble_eq_true rfl) ?_
  intro p e s m below meth c ls A hx hb hr hlk hml hown hts hin hl hP hD hK hS hA hZ
  have hl : lv_has ls 4 [(0, .ref (q 1)), (1, .int 6)] := hl
  refine lv_aload_n hx hb d11_13_0 rfl (lv_at hl 0 rfl) ?_
  refine sV_i (As := []) (rest := []) ⟨hx, hb, hml, hown, hts⟩ (b11_9_7 l G Zd q cw R Q pl _) (kw_V (n := 0) hts k326 k323 k2 k324 k325 (by decide +kernel) ⟨Nat.le_of_ble_eq_true rfl, Nat.le_of_ble_eq_true rfl⟩) hP hD hK hS hA hZ (va_recv (ci := 1) (q0 := 1) hK hP rfl rfl) rfl hl.1 rfl (Nat.le_of_ble_eq_true rfl) d11_13_1 ⟨Nat.le_of_ble_eq_true rfl, Nat.le_of_ble_eq_true rfl⟩ (fun rr u H locs hp hP hD hS => ?_)
  obtain rfl := hp
  refine W.eq (g2 := F0 m 4 ls [.int (-1)]) rfl ?_
  have hP : va_P G.1 vwCl (wC q G.2 cw (upd (upd (upd cI0 1 0) 2 (-1)) 3 1) cA0 R Q pl) H := hP
  have hD : va_D A (wC q G.2 cw (upd (upd (upd cI0 1 0) 2 (-1)) 3 1) cA0 R Q pl) := hD
  refine sS_i (As := [.int (-1)]) (rest := []) ⟨hx, hb, hml, hown, hts⟩ (b11_18_9 l G Zd q cw R Q pl _) (kw_S (n := 1) hts k664 k662 k2 k663 (by decide +kernel) ⟨Nat.le_of_ble_eq_true rfl, Nat.le_of_ble_eq_true rfl⟩) hP hD hK hS hA hZ rfl hl.1 rfl (Nat.le_of_ble_eq_true rfl) d11_13_4 ⟨Nat.le_of_ble_eq_true rfl, Nat.le_of_ble_eq_true rfl⟩ (fun rr u H locs hp hP hD hS => ?_)
  obtain rfl := hp
  refine W.eq (g2 := F0 m 7 ls [.int 0]) rfl ?_
  have hP : va_P G.1 vwCl (wC q G.2 cw (upd (upd (upd cI0 1 0) 2 (-1)) 3 1) cA0 R Q pl) H := hP
  have hD : va_D A (wC q G.2 cw (upd (upd (upd cI0 1 0) 2 (-1)) 3 1) cA0 R Q pl) := hD
  refine lv_if_ne (tgt := 16) hx hb d11_13_7 rfl (fun hc => absurd hc (by decide)) (fun _ => ?_)
  refine lv_aload_n hx hb d11_13_10 rfl (lv_at hl 0 rfl) ?_
  refine sV_v (As := []) (rest := []) ⟨hx, hb, hml, hown, hts⟩ (b11_8_10 l G Zd q cw R Q pl _) (kw_V (n := 0) hts k333 k385 k2 k331 k332 (by decide +kernel) ⟨Nat.le_of_ble_eq_true rfl, Nat.le_of_ble_eq_true rfl⟩) hP hD hK hS hA hZ (va_recv (ci := 1) (q0 := 1) hK hP rfl rfl) rfl hl.1 rfl (Nat.le_of_ble_eq_true rfl) d11_13_11 ⟨Nat.le_of_ble_eq_true rfl, Nat.le_of_ble_eq_true rfl⟩ (fun u H locs hp hP hD hS => ?_)
  refine W.eq (g2 := F0 m 14 ls []) rfl ?_
  have hP : va_P G.1 vwCl (wC q G.2 cw (upd (upd (upd cI0 1 0) 3 1) 2 0) cA0 R Q pl) H := hP
  have hD : va_D A (wC q G.2 cw (upd (upd (upd cI0 1 0) 3 1) 2 0) cA0 R Q pl) := hD
  refine lv_iconst (v := 0) hx hb d11_13_14 (by decide) ?_
  exact fin_i hx hb hr hlk hS () rfl hP hD (Nat.le_of_ble_eq_true rfl) (Nat.le_of_ble_eq_true rfl) d11_13_15
set_option maxHeartbeats 4000000 in
set_option maxRecDepth 100000 in
theorem b11_5_12 (l : Launch) (G : Gk) (Zd q : Nat → Nat) (cw : Nat) (R : Nat → Option Nat) (Q : Nat → Nat → Option Nat) (pl : va_W)  (sz : Nat) : Met l y11_5 (Cond.code y11_5 prog_11_method_5_code 1 (some .boolean) :: TB) (rmD 0 0 0) (va_Pc [.ref (q 1)] (pcW G Zd (wC q G.2 cw (upd (upd (upd cI0 1 0) 3 1) 2 0) cA0 R Q pl) sz)) (qI G (fun rr (_ : Unit) => rr = 0) (fun _ => (wC q G.2 cw (upd (upd (upd cI0 1 0) 3 1) 2 0) cA0 R Q pl)) (va_A (wC q G.2 cw (upd (upd (upd cI0 1 0) 3 1) 2 0) cA0 R Q pl) sz)) 0 0 (va_A (wC q G.2 cw (upd (upd (upd cI0 1 0) 3 1) 2 0) cA0 R Q pl) sz) := by
  refine go (Qc := qI G (fun rr (_ : Unit) => rr = 0) (fun _ => (wC q G.2 cw (upd (upd (upd cI0 1 0) 3 1) 2 0) cA0 R Q pl))) "PagedValues$Text" rfl (by decide) (Nat.le_of_ble_eq_true rfl) ?_
  intro p e s m below meth c ls A hx hb hr hlk hml hown hts hin hl hP hD hK hS hA hZ
  have hl : lv_has ls 1 [(0, .ref (q 1))] := hl
  refine lv_aload_n hx hb d11_5_0 rfl (lv_at hl 0 rfl) ?_
  refine va_get (D := G.1) (ci := 1) (v := .int 0) (C := r_1) (T := f_1) (N := 5) (ref := "PagedValues$Text") hx hb hts (fun w h => List.mem_cons_of_mem _ (ly_1 w h)) hown hK hP 1 rfl rfl 4 (by decide) (hts _ (List.mem_cons_of_mem _ k81)) (fun _ h9 => h9) rfl d11_5_1 ?_
  refine lv_iconst (v := (-1)) hx hb d11_5_4 (by decide) ?_
  refine lv_icmp_ne (tgt := 12) hx hb d11_5_5 rfl (fun _ => ?_) (fun hc => absurd hc (by decide))
  refine lv_iconst (v := 0) hx hb d11_5_12 (by decide) ?_
  exact fin_z hx hb hr hlk (by decide) hS () rfl hP hD (Nat.le_of_ble_eq_true rfl) (Nat.le_of_ble_eq_true rfl) d11_5_13
set_option maxHeartbeats 4000000 in
set_option maxRecDepth 100000 in
theorem b13_8_13 (l : Launch) (G : Gk) (Zd q : Nat → Nat) (cw : Nat) (R : Nat → Option Nat) (Q : Nat → Nat → Option Nat) (pl : va_W)  (sz : Nat) : Met l y13_8 (Cond.code y13_8 prog_13_method_8_code 4 (some (.object "PagedValues$Value")) :: TB) (rmD 2 0 0) (va_Pc [.ref (q 2), .ref (q 1)] (pcW G Zd (wC q G.2 cw (upd (upd (upd cI0 1 0) 2 (-1)) 3 1) cA0 R Q pl) sz)) (qQ G (fun rr (_ : Unit) => rr = none) (fun _ => (wC q G.2 cw (upd (upd (upd cI0 1 0) 3 1) 2 0) cA0 R Q pl)) (va_A (wC q G.2 cw (upd (upd (upd cI0 1 0) 2 (-1)) 3 1) cA0 R Q pl) sz)) 0 0 (va_A (wC q G.2 cw (upd (upd (upd cI0 1 0) 2 (-1)) 3 1) cA0 R Q pl) sz) := by
  refine go (Qc := qQ G (fun rr (_ : Unit) => rr = none) (fun _ => (wC q G.2 cw (upd (upd (upd cI0 1 0) 3 1) 2 0) cA0 R Q pl))) "PagedValues$ValueParser" rfl (by decide) (Nat.le_of_ble_eq_true rfl) ?_
  intro p e s m below meth c ls A hx hb hr hlk hml hown hts hin hl hP hD hK hS hA hZ
  have hl : lv_has ls 4 [(0, .ref (q 2)), (1, .ref (q 1))] := hl
  refine lv_aload_n hx hb d13_8_0 rfl (lv_at hl 1 rfl) ?_
  refine lv_bipush (v := 45) hx hb d13_8_1 (by decide) ?_
  refine sV_i (As := [.int 45]) (rest := []) ⟨hx, hb, hml, hown, hts⟩ (b11_10_8 l G Zd q cw R Q pl _) (kw_V (n := 1) hts k384 k386 k2 k382 k383 (by decide +kernel) ⟨Nat.le_of_ble_eq_true rfl, Nat.le_of_ble_eq_true rfl⟩) hP hD hK hS hA hZ (va_recv (ci := 1) (q0 := 1) hK hP rfl rfl) rfl hl.1 rfl (Nat.le_of_ble_eq_true rfl) d13_8_3 ⟨Nat.le_of_ble_eq_true rfl, Nat.le_of_ble_eq_true rfl⟩ (fun rr u H locs hp hP hD hS => ?_)
  obtain rfl := hp
  refine W.eq (g2 := F0 m 6 ls [.int 0]) rfl ?_
  have hP : va_P G.1 vwCl (wC q G.2 cw (upd (upd (upd cI0 1 0) 2 (-1)) 3 1) cA0 R Q pl) H := hP
  have hD : va_D A (wC q G.2 cw (upd (upd (upd cI0 1 0) 2 (-1)) 3 1) cA0 R Q pl) := hD
  refine lv_istore_n (lv' := [(2, .int 0), (0, .ref (q 2)), (1, .ref (q 1))]) hx hb d13_8_6 rfl hl (by decide) rfl (fun ls hl => ?_)
  refine lv_aload_n hx hb d13_8_7 rfl (lv_at hl 2 rfl) ?_
  refine lv_bipush (v := 6) hx hb d13_8_8 (by decide) ?_
  refine sV_i (As := [.int 6]) (rest := []) ⟨hx, hb, hml, hown, hts⟩ (b11_13_11 l G Zd q cw R Q pl _) (kw_V (n := 1) hts k661 k658 k2 k659 k660 (by decide +kernel) ⟨Nat.le_of_ble_eq_true rfl, Nat.le_of_ble_eq_true rfl⟩) hP hD hK hS hA hZ (va_recv (ci := 1) (q0 := 1) hK hP rfl rfl) rfl hl.1 rfl (Nat.le_of_ble_eq_true rfl) d13_8_10 ⟨Nat.le_of_ble_eq_true rfl, Nat.le_of_ble_eq_true rfl⟩ (fun rr u H locs hp hP hD hS => ?_)
  obtain rfl := hp
  refine W.eq (g2 := F0 m 13 ls [.int 0]) rfl ?_
  have hP : va_P G.1 vwCl (wC q G.2 cw (upd (upd (upd cI0 1 0) 3 1) 2 0) cA0 R Q pl) H := hP
  have hD : va_D A (wC q G.2 cw (upd (upd (upd cI0 1 0) 3 1) 2 0) cA0 R Q pl) := hD
  refine lv_istore_n (lv' := [(3, .int 0), (2, .int 0), (0, .ref (q 2)), (1, .ref (q 1))]) hx hb d13_8_13 rfl hl (by decide) rfl (fun ls hl => ?_)
  refine lv_aload_n hx hb d13_8_14 rfl (lv_at hl 3 rfl) ?_
  refine sV_i (As := []) (rest := []) ⟨hx, hb, hml, hown, hts⟩ (b11_5_12 l G Zd q cw R Q pl _) (kw_V (n := 0) hts k580 k577 k2 k578 k579 (by decide +kernel) ⟨Nat.le_of_ble_eq_true rfl, Nat.le_of_ble_eq_true rfl⟩) hP hD hK hS hA hZ (va_recv (ci := 1) (q0 := 1) hK hP rfl rfl) rfl hl.1 rfl (Nat.le_of_ble_eq_true rfl) d13_8_15 ⟨Nat.le_of_ble_eq_true rfl, Nat.le_of_ble_eq_true rfl⟩ (fun rr u H locs hp hP hD hS => ?_)
  obtain rfl := hp
  refine W.eq (g2 := F0 m 18 ls [.int 0]) rfl ?_
  have hP : va_P G.1 vwCl (wC q G.2 cw (upd (upd (upd cI0 1 0) 3 1) 2 0) cA0 R Q pl) H := hP
  have hD : va_D A (wC q G.2 cw (upd (upd (upd cI0 1 0) 3 1) 2 0) cA0 R Q pl) := hD
  refine lv_if_eq (tgt := 46) hx hb d13_8_18 rfl (fun _ => ?_) (fun hc => absurd hc (by decide))
  refine lv_null hx hb d13_8_46 ?_
  exact fin_q hx hb hr hlk (by first | exact Or.inl ⟨_, rfl⟩ | exact Or.inr ⟨_, rfl⟩) (r := none) hS () rfl hP hD (Nat.le_of_ble_eq_true rfl) (Nat.le_of_ble_eq_true rfl) d13_8_47
set_option maxHeartbeats 4000000 in
set_option maxRecDepth 100000 in
theorem b13_3_14 (l : Launch) (G : Gk) (Zd q : Nat → Nat) (cw : Nat) (R : Nat → Option Nat) (Q : Nat → Nat → Option Nat) (pl : va_W)  (sz : Nat) : Met l y13_3 (Cond.code y13_3 prog_13_method_3_code 3 (some (.object "PagedValues$Value")) :: TB) (rmD 3 0 0) (va_Pc [.ref (q 2), .ref (q 1), .int 0] (pcW G Zd (wC q G.2 cw (upd (upd (upd cI0 3 0) 1 0) 2 (-1)) cA0 R Q pl) sz)) (qQ G (fun rr (_ : Unit) => rr = none) (fun _ => (wC q G.2 cw (upd (upd (upd cI0 1 0) 3 1) 2 0) cA0 R Q pl)) (va_A (wC q G.2 cw (upd (upd (upd cI0 3 0) 1 0) 2 (-1)) cA0 R Q pl) sz)) 0 0 (va_A (wC q G.2 cw (upd (upd (upd cI0 3 0) 1 0) 2 (-1)) cA0 R Q pl) sz) := by
  refine go (Qc := qQ G (fun rr (_ : Unit) => rr = none) (fun _ => (wC q G.2 cw (upd (upd (upd cI0 1 0) 3 1) 2 0) cA0 R Q pl))) "PagedValues$ValueParser" rfl (by decide) (Nat.le_of_ble_eq_true rfl) ?_
  intro p e s m below meth c ls A hx hb hr hlk hml hown hts hin hl hP hD hK hS hA hZ
  have hl : lv_has ls 3 [(0, .ref (q 2)), (1, .ref (q 1)), (2, .int 0)] := hl
  refine lv_aload_n hx hb d13_3_0 rfl (lv_at hl 1 rfl) ?_
  refine sV_v (As := []) (rest := []) ⟨hx, hb, hml, hown, hts⟩ (b11_12_6 l G Zd q cw R Q pl _) (kw_V (n := 0) hts k322 k319 k2 k320 k321 (by decide +kernel) ⟨Nat.le_of_ble_eq_true rfl, Nat.le_of_ble_eq_true rfl⟩) hP hD hK hS hA hZ (va_recv (ci := 1) (q0 := 1) hK hP rfl rfl) rfl hl.1 rfl (Nat.le_of_ble_eq_true rfl) d13_3_1 ⟨Nat.le_of_ble_eq_true rfl, Nat.le_of_ble_eq_true rfl⟩ (fun u H locs hp hP hD hS => ?_)
  refine W.eq (g2 := F0 m 4 ls []) rfl ?_
  have hP : va_P G.1 vwCl (wC q G.2 cw (upd (upd (upd cI0 3 0) 1 0) 2 (-1)) cA0 R Q pl) H := hP
  have hD : va_D A (wC q G.2 cw (upd (upd (upd cI0 3 0) 1 0) 2 (-1)) cA0 R Q pl) := hD
  refine lv_aload_n hx hb d13_3_4 rfl (lv_at hl 0 rfl) ?_
  refine va_get (D := G.1) (ci := 3) (v := .int 0) (C := r_3) (T := f_3) (N := 1) (ref := "PagedValues$ValueParser") hx hb hts (fun w h => List.mem_cons_of_mem _ (ly_3 w h)) hown hK hP 2 rfl rfl 0 (by decide) (hts _ (List.mem_cons_of_mem _ k100)) (fun _ h9 => h9) rfl d13_3_5 ?_
  refine lv_bipush (v := 24) hx hb d13_3_8 (by decide) ?_
  refine lv_icmp_lt (tgt := 19) hx hb d13_3_10 rfl (fun _ => ?_) (fun hc => absurd hc (by decide))
  refine lv_aload_n hx hb d13_3_19 rfl (lv_at hl 0 rfl) ?_
  refine lv_dup hx hb d13_3_20 rfl ?_
  refine va_get (D := G.1) (ci := 3) (v := .int 0) (C := r_3) (T := f_3) (N := 1) (ref := "PagedValues$ValueParser") hx hb hts (fun w h => List.mem_cons_of_mem _ (ly_3 w h)) hown hK hP 2 rfl rfl 0 (by decide) (hts _ (List.mem_cons_of_mem _ k100)) (fun _ h9 => h9) rfl d13_3_21 ?_
  refine lv_iconst (v := 1) hx hb d13_3_24 (by decide) ?_
  refine lv_iadd hx hb d13_3_25 ?_
  refine W.eq (g2 := F0 m 26 ls [.int 1, .ref (q 2)]) rfl ?_
  refine va_put (D := G.1) (ci := 3) (v := .int 1) (ty := .int) (C := r_3) (T := f_3) (N := 1) (ref := "PagedValues$ValueParser") hx hb hts (fun w h => List.mem_cons_of_mem _ (ly_3 w h)) ft_3 ft_3_ok nm_3 hown hK hP hD hS 2 rfl rfl 0 (by decide) (hts _ (List.mem_cons_of_mem _ k100)) (fun _ h9 => h9) rfl (by decide +kernel) rfl rfl (Nat.le_of_ble_eq_true rfl) d13_3_26 (fun H locs hP hD hS => ?_)
  have hP : va_P G.1 vwCl (wC q G.2 cw (upd (upd (upd cI0 1 0) 2 (-1)) 3 1) cA0 R Q pl) H := hP
  have hD : va_D A (wC q G.2 cw (upd (upd (upd cI0 1 0) 2 (-1)) 3 1) cA0 R Q pl) := hD
  refine lv_aload_n hx hb d13_3_29 rfl (lv_at hl 1 rfl) ?_
  refine sV_i (As := []) (rest := []) ⟨hx, hb, hml, hown, hts⟩ (b11_9_7 l G Zd q cw R Q pl _) (kw_V (n := 0) hts k326 k334 k2 k324 k325 (by decide +kernel) ⟨Nat.le_of_ble_eq_true rfl, Nat.le_of_ble_eq_true rfl⟩) hP hD hK hS hA hZ (va_recv (ci := 1) (q0 := 1) hK hP rfl rfl) rfl hl.1 rfl (Nat.le_of_ble_eq_true rfl) d13_3_30 ⟨Nat.le_of_ble_eq_true rfl, Nat.le_of_ble_eq_true rfl⟩ (fun rr u H locs hp hP hD hS => ?_)
  obtain rfl := hp
  refine W.eq (g2 := F0 m 33 ls [.int (-1)]) rfl ?_
  have hP : va_P G.1 vwCl (wC q G.2 cw (upd (upd (upd cI0 1 0) 2 (-1)) 3 1) cA0 R Q pl) H := hP
  have hD : va_D A (wC q G.2 cw (upd (upd (upd cI0 1 0) 2 (-1)) 3 1) cA0 R Q pl) := hD
  refine lv_lookup (tgt := 151) (off := 118) hx hb d13_3_33 (by decide) (by decide) rfl ?_
  refine lv_aload_n hx hb d13_3_151 rfl (lv_at hl 0 rfl) ?_
  refine lv_aload_n hx hb d13_3_152 rfl (lv_at hl 1 rfl) ?_
  refine sV_q (As := [.ref (q 1)]) (rest := []) ⟨hx, hb, hml, hown, hts⟩ (b13_8_13 l G Zd q cw R Q pl _) (kw_V (n := 1) hts k657 k654 k7 k656 ks6 (by decide +kernel) ⟨Nat.le_of_ble_eq_true rfl, Nat.le_of_ble_eq_true rfl⟩) hP hD hK hS hA hZ (va_recv (ci := 3) (q0 := 2) hK hP rfl rfl) rfl hl.1 rfl (Nat.le_of_ble_eq_true rfl) d13_3_153 ⟨Nat.le_of_ble_eq_true rfl, Nat.le_of_ble_eq_true rfl⟩ (fun rr u H locs hp hP hD hS => ?_)
  obtain rfl := hp
  refine W.eq (g2 := F0 m 156 ls [.null]) rfl ?_
  have hP : va_P G.1 vwCl (wC q G.2 cw (upd (upd (upd cI0 1 0) 3 1) 2 0) cA0 R Q pl) H := hP
  have hD : va_D A (wC q G.2 cw (upd (upd (upd cI0 1 0) 3 1) 2 0) cA0 R Q pl) := hD
  exact fin_q hx hb hr hlk (by first | exact Or.inl ⟨_, rfl⟩ | exact Or.inr ⟨_, rfl⟩) (r := none) hS () rfl hP hD (Nat.le_of_ble_eq_true rfl) (Nat.le_of_ble_eq_true rfl) d13_3_156
set_option maxHeartbeats 4000000 in
set_option maxRecDepth 100000 in
theorem b11_12_15 (l : Launch) (G : Gk) (Zd q : Nat → Nat) (cw : Nat) (R : Nat → Option Nat) (Q : Nat → Nat → Option Nat) (pl : va_W)  (sz : Nat) : Met l y11_12 (Cond.code y11_12 prog_11_method_12_code 1 none :: TB) (rmD 0 0 0) (va_Pc [.ref (q 1)] (pcW G Zd (wC q G.2 cw (upd (upd (upd cI0 1 0) 3 1) 2 0) cA0 R Q pl) sz)) (qV G (fun (_ : Unit) => True) (fun _ => (wC q G.2 cw (upd (upd (upd cI0 1 0) 3 1) 2 0) cA0 R Q pl)) (va_A (wC q G.2 cw (upd (upd (upd cI0 1 0) 3 1) 2 0) cA0 R Q pl) sz)) 0 0 (va_A (wC q G.2 cw (upd (upd (upd cI0 1 0) 3 1) 2 0) cA0 R Q pl) sz) := by
  refine go (Qc := qV G (fun (_ : Unit) => True) (fun _ => (wC q G.2 cw (upd (upd (upd cI0 1 0) 3 1) 2 0) cA0 R Q pl))) "PagedValues$Text" rfl (by decide) (Nat.le_of_ble_eq_true rfl) ?_
  intro p e s m below meth c ls A hx hb hr hlk hml hown hts hin hl hP hD hK hS hA hZ
  have hl : lv_has ls 1 [(0, .ref (q 1))] := hl
  refine lv_aload_n hx hb d11_12_0 rfl (lv_at hl 0 rfl) ?_
  refine va_get (D := G.1) (ci := 1) (v := .int 0) (C := r_1) (T := f_1) (N := 5) (ref := "PagedValues$Text") hx hb hts (fun w h => List.mem_cons_of_mem _ (ly_1 w h)) hown hK hP 1 rfl rfl 3 (by decide) (hts _ (List.mem_cons_of_mem _ k79)) (fun _ h9 => h9) rfl d11_12_1 ?_
  refine lv_aload_n hx hb d11_12_4 rfl (lv_at hl 0 rfl) ?_
  refine va_get (D := G.1) (ci := 1) (v := .int 0) (C := r_1) (T := f_1) (N := 5) (ref := "PagedValues$Text") hx hb hts (fun w h => List.mem_cons_of_mem _ (ly_1 w h)) hown hK hP 1 rfl rfl 2 (by decide) (hts _ (List.mem_cons_of_mem _ k77)) (fun _ h9 => h9) rfl d11_12_5 ?_
  refine lv_icmp_ge (tgt := 34) hx hb d11_12_8 rfl (fun _ => ?_) (fun hc => absurd hc (by decide))
  exact fin_v hx hb hr hlk hS () trivial hP hD (Nat.le_of_ble_eq_true rfl) (Nat.le_of_ble_eq_true rfl) d11_12_34
set_option maxHeartbeats 4000000 in
set_option maxRecDepth 100000 in
theorem b11_6_16 (l : Launch) (G : Gk) (Zd q : Nat → Nat) (cw : Nat) (R : Nat → Option Nat) (Q : Nat → Nat → Option Nat) (pl : va_W)  (sz : Nat) : Met l y11_6 (Cond.code y11_6 prog_11_method_6_code 1 (some .boolean) :: TB) (rmD 0 0 0) (va_Pc [.ref (q 1)] (pcW G Zd (wC q G.2 cw (upd (upd (upd cI0 1 0) 3 1) 2 0) cA0 R Q pl) sz)) (qI G (fun rr (_ : Unit) => rr = 1) (fun _ => (wC q G.2 cw (upd (upd (upd cI0 1 0) 3 1) 2 0) cA0 R Q pl)) (va_A (wC q G.2 cw (upd (upd (upd cI0 1 0) 3 1) 2 0) cA0 R Q pl) sz)) 0 0 (va_A (wC q G.2 cw (upd (upd (upd cI0 1 0) 3 1) 2 0) cA0 R Q pl) sz) := by
  refine go (Qc := qI G (fun rr (_ : Unit) => rr = 1) (fun _ => (wC q G.2 cw (upd (upd (upd cI0 1 0) 3 1) 2 0) cA0 R Q pl))) "PagedValues$Text" rfl (by decide) (Nat.le_of_ble_eq_true rfl) ?_
  intro p e s m below meth c ls A hx hb hr hlk hml hown hts hin hl hP hD hK hS hA hZ
  have hl : lv_has ls 1 [(0, .ref (q 1))] := hl
  refine lv_aload_n hx hb d11_6_0 rfl (lv_at hl 0 rfl) ?_
  refine va_get (D := G.1) (ci := 1) (v := .int 0) (C := r_1) (T := f_1) (N := 5) (ref := "PagedValues$Text") hx hb hts (fun w h => List.mem_cons_of_mem _ (ly_1 w h)) hown hK hP 1 rfl rfl 3 (by decide) (hts _ (List.mem_cons_of_mem _ k79)) (fun _ h9 => h9) rfl d11_6_1 ?_
  refine lv_aload_n hx hb d11_6_4 rfl (lv_at hl 0 rfl) ?_
  refine va_get (D := G.1) (ci := 1) (v := .int 0) (C := r_1) (T := f_1) (N := 5) (ref := "PagedValues$Text") hx hb hts (fun w h => List.mem_cons_of_mem _ (ly_1 w h)) hown hK hP 1 rfl rfl 2 (by decide) (hts _ (List.mem_cons_of_mem _ k77)) (fun _ h9 => h9) rfl d11_6_5 ?_
  refine lv_icmp_lt (tgt := 15) hx hb d11_6_8 rfl (fun hc => absurd hc (by decide)) (fun _ => ?_)
  refine lv_iconst (v := 1) hx hb d11_6_11 (by decide) ?_
  refine lv_goto (tgt := 16) hx hb d11_6_12 rfl ?_
  exact fin_z hx hb hr hlk (by decide) hS () rfl hP hD (Nat.le_of_ble_eq_true rfl) (Nat.le_of_ble_eq_true rfl) d11_6_16
set_option maxHeartbeats 4000000 in
set_option maxRecDepth 100000 in
theorem b13_2_17 (l : Launch) (G : Gk) (Zd q : Nat → Nat) (cw : Nat) (R : Nat → Option Nat) (Q : Nat → Nat → Option Nat) (pl : va_W)  (sz : Nat) : Met l y13_2 (Cond.code y13_2 prog_13_method_2_code 3 (some (.object "PagedValues$Value")) :: TB) (rmD 4 0 0) (va_Pc [.ref (q 2), .ref (q 1)] (pcW G Zd (wC q G.2 cw cI0 cA0 R Q pl) sz)) (qQ G (fun rr (_ : Unit) => rr = none) (fun _ => (wC q G.2 cw (upd (upd (upd cI0 1 0) 3 1) 2 0) cA0 R Q pl)) (va_A (wC q G.2 cw cI0 cA0 R Q pl) sz)) 0 0 (va_A (wC q G.2 cw cI0 cA0 R Q pl) sz) := by
  refine go (Qc := qQ G (fun rr (_ : Unit) => rr = none) (fun _ => (wC q G.2 cw (upd (upd (upd cI0 1 0) 3 1) 2 0) cA0 R Q pl))) "PagedValues$ValueParser" rfl (by decide) (Nat.le_of_ble_eq_true rfl) ?_
  intro p e s m below meth c ls A hx hb hr hlk hml hown hts hin hl hP hD hK hS hA hZ
  have hl : lv_has ls 3 [(0, .ref (q 2)), (1, .ref (q 1))] := hl
  refine lv_aload_n hx hb d13_2_0 rfl (lv_at hl 0 rfl) ?_
  refine lv_iconst (v := 0) hx hb d13_2_1 (by decide) ?_
  refine va_put (D := G.1) (ci := 3) (v := .int 0) (ty := .int) (C := r_3) (T := f_3) (N := 1) (ref := "PagedValues$ValueParser") hx hb hts (fun w h => List.mem_cons_of_mem _ (ly_3 w h)) ft_3 ft_3_ok nm_3 hown hK hP hD hS 2 rfl rfl 0 (by decide) (hts _ (List.mem_cons_of_mem _ k100)) (fun _ h9 => h9) rfl (by decide +kernel) rfl rfl (Nat.le_of_ble_eq_true rfl) d13_2_2 (fun H locs hP hD hS => ?_)
  have hP : va_P G.1 vwCl (wC q G.2 cw (upd cI0 3 0) cA0 R Q pl) H := hP
  have hD : va_D A (wC q G.2 cw (upd cI0 3 0) cA0 R Q pl) := hD
  refine lv_aload_n hx hb d13_2_5 rfl (lv_at hl 1 rfl) ?_
  refine sV_v (As := []) (rest := []) ⟨hx, hb, hml, hown, hts⟩ (b11_4_5 l G Zd q cw R Q pl _) (kw_V (n := 0) hts k314 k311 k2 k312 k313 (by decide +kernel) ⟨Nat.le_of_ble_eq_true rfl, Nat.le_of_ble_eq_true rfl⟩) hP hD hK hS hA hZ (va_recv (ci := 1) (q0 := 1) hK hP rfl rfl) rfl hl.1 rfl (Nat.le_of_ble_eq_true rfl) d13_2_6 ⟨Nat.le_of_ble_eq_true rfl, Nat.le_of_ble_eq_true rfl⟩ (fun u H locs hp hP hD hS => ?_)
  refine W.eq (g2 := F0 m 9 ls []) rfl ?_
  have hP : va_P G.1 vwCl (wC q G.2 cw (upd (upd (upd cI0 3 0) 1 0) 2 (-1)) cA0 R Q pl) H := hP
  have hD : va_D A (wC q G.2 cw (upd (upd (upd cI0 3 0) 1 0) 2 (-1)) cA0 R Q pl) := hD
  refine lv_aload_n hx hb d13_2_9 rfl (lv_at hl 0 rfl) ?_
  refine lv_aload_n hx hb d13_2_10 rfl (lv_at hl 1 rfl) ?_
  refine lv_iconst (v := 0) hx hb d13_2_11 (by decide) ?_
  refine sV_q (As := [.ref (q 1), .int 0]) (rest := []) ⟨hx, hb, hml, hown, hts⟩ (b13_3_14 l G Zd q cw R Q pl _) (kw_V (n := 2) hts k318 k315 k7 k317 ks0 (by decide +kernel) ⟨Nat.le_of_ble_eq_true rfl, Nat.le_of_ble_eq_true rfl⟩) hP hD hK hS hA hZ (va_recv (ci := 3) (q0 := 2) hK hP rfl rfl) rfl hl.1 rfl (Nat.le_of_ble_eq_true rfl) d13_2_12 ⟨Nat.le_of_ble_eq_true rfl, Nat.le_of_ble_eq_true rfl⟩ (fun rr u H locs hp hP hD hS => ?_)
  obtain rfl := hp
  refine W.eq (g2 := F0 m 15 ls [.null]) rfl ?_
  have hP : va_P G.1 vwCl (wC q G.2 cw (upd (upd (upd cI0 1 0) 3 1) 2 0) cA0 R Q pl) H := hP
  have hD : va_D A (wC q G.2 cw (upd (upd (upd cI0 1 0) 3 1) 2 0) cA0 R Q pl) := hD
  refine lv_astore_nN (lv' := [(2, .null), (0, .ref (q 2)), (1, .ref (q 1))]) hx hb d13_2_15 rfl hl (by decide) rfl (fun ls hl => ?_)
  refine lv_aload_n hx hb d13_2_16 rfl (lv_at hl 2 rfl) ?_
  refine sV_v (As := []) (rest := []) ⟨hx, hb, hml, hown, hts⟩ (b11_12_15 l G Zd q cw R Q pl _) (kw_V (n := 0) hts k322 k319 k2 k320 k321 (by decide +kernel) ⟨Nat.le_of_ble_eq_true rfl, Nat.le_of_ble_eq_true rfl⟩) hP hD hK hS hA hZ (va_recv (ci := 1) (q0 := 1) hK hP rfl rfl) rfl hl.1 rfl (Nat.le_of_ble_eq_true rfl) d13_2_17 ⟨Nat.le_of_ble_eq_true rfl, Nat.le_of_ble_eq_true rfl⟩ (fun u H locs hp hP hD hS => ?_)
  refine W.eq (g2 := F0 m 20 ls []) rfl ?_
  have hP : va_P G.1 vwCl (wC q G.2 cw (upd (upd (upd cI0 1 0) 3 1) 2 0) cA0 R Q pl) H := hP
  have hD : va_D A (wC q G.2 cw (upd (upd (upd cI0 1 0) 3 1) 2 0) cA0 R Q pl) := hD
  refine lv_aload_n hx hb d13_2_20 rfl (lv_at hl 2 rfl) ?_
  refine sV_i (As := []) (rest := []) ⟨hx, hb, hml, hown, hts⟩ (b11_6_16 l G Zd q cw R Q pl _) (kw_V (n := 0) hts k670 k667 k2 k668 k669 (by decide +kernel) ⟨Nat.le_of_ble_eq_true rfl, Nat.le_of_ble_eq_true rfl⟩) hP hD hK hS hA hZ (va_recv (ci := 1) (q0 := 1) hK hP rfl rfl) rfl hl.1 rfl (Nat.le_of_ble_eq_true rfl) d13_2_21 ⟨Nat.le_of_ble_eq_true rfl, Nat.le_of_ble_eq_true rfl⟩ (fun rr u H locs hp hP hD hS => ?_)
  obtain rfl := hp
  refine W.eq (g2 := F0 m 24 ls [.int 1]) rfl ?_
  have hP : va_P G.1 vwCl (wC q G.2 cw (upd (upd (upd cI0 1 0) 3 1) 2 0) cA0 R Q pl) H := hP
  have hD : va_D A (wC q G.2 cw (upd (upd (upd cI0 1 0) 3 1) 2 0) cA0 R Q pl) := hD
  refine lv_if_ne (tgt := 31) hx hb d13_2_24 rfl (fun _ => ?_) (fun hc => absurd hc (by decide))
  refine lv_aload_n hx hb d13_2_31 rfl (lv_at hl 2 rfl) ?_
  refine sV_i (As := []) (rest := []) ⟨hx, hb, hml, hown, hts⟩ (b11_5_12 l G Zd q cw R Q pl _) (kw_V (n := 0) hts k580 k577 k2 k578 k579 (by decide +kernel) ⟨Nat.le_of_ble_eq_true rfl, Nat.le_of_ble_eq_true rfl⟩) hP hD hK hS hA hZ (va_recv (ci := 1) (q0 := 1) hK hP rfl rfl) rfl hl.1 rfl (Nat.le_of_ble_eq_true rfl) d13_2_32 ⟨Nat.le_of_ble_eq_true rfl, Nat.le_of_ble_eq_true rfl⟩ (fun rr u H locs hp hP hD hS => ?_)
  obtain rfl := hp
  refine W.eq (g2 := F0 m 35 ls [.int 0]) rfl ?_
  have hP : va_P G.1 vwCl (wC q G.2 cw (upd (upd (upd cI0 1 0) 3 1) 2 0) cA0 R Q pl) H := hP
  have hD : va_D A (wC q G.2 cw (upd (upd (upd cI0 1 0) 3 1) 2 0) cA0 R Q pl) := hD
  refine lv_if_eq (tgt := 42) hx hb d13_2_35 rfl (fun _ => ?_) (fun hc => absurd hc (by decide))
  refine lv_null hx hb d13_2_42 ?_
  exact fin_q hx hb hr hlk (by first | exact Or.inl ⟨_, rfl⟩ | exact Or.inr ⟨_, rfl⟩) (r := none) hS () rfl hP hD (Nat.le_of_ble_eq_true rfl) (Nat.le_of_ble_eq_true rfl) d13_2_43
set_option maxHeartbeats 4000000 in
set_option maxRecDepth 100000 in
theorem b11_3_18 (l : Launch) (G : Gk) (Zd q : Nat → Nat) (cw : Nat) (R : Nat → Option Nat) (Q : Nat → Nat → Option Nat) (pl : va_W)  (sz : Nat) : Met l y11_3 (Cond.code y11_3 prog_11_method_3_code 1 none :: TB) (rmD 0 0 0) (va_Pc [.ref (q 1)] (pcW G Zd (wC q G.2 cw (upd (upd (upd cI0 1 0) 3 1) 2 0) cA0 R Q pl) sz)) (qV G (fun (_ : Unit) => True) (fun _ => (wC q G.2 cw (upd (upd (upd (upd cI0 1 0) 3 1) 2 0) 0 0) cA0 R Q pl)) (va_A (wC q G.2 cw (upd (upd (upd cI0 1 0) 3 1) 2 0) cA0 R Q pl) sz)) 0 0 (va_A (wC q G.2 cw (upd (upd (upd cI0 1 0) 3 1) 2 0) cA0 R Q pl) sz) := by
  refine go (Qc := qV G (fun (_ : Unit) => True) (fun _ => (wC q G.2 cw (upd (upd (upd (upd cI0 1 0) 3 1) 2 0) 0 0) cA0 R Q pl))) "PagedValues$Text" rfl (by decide) (Nat.le_of_ble_eq_true rfl) ?_
  intro p e s m below meth c ls A hx hb hr hlk hml hown hts hin hl hP hD hK hS hA hZ
  have hl : lv_has ls 1 [(0, .ref (q 1))] := hl
  refine lv_aload_n hx hb d11_3_0 rfl (lv_at hl 0 rfl) ?_
  refine lv_iconst (v := 0) hx hb d11_3_1 (by decide) ?_
  refine va_put (D := G.1) (ci := 1) (v := .int 0) (ty := .int) (C := r_1) (T := f_1) (N := 5) (ref := "PagedValues$Text") hx hb hts (fun w h => List.mem_cons_of_mem _ (ly_1 w h)) ft_1 ft_1_ok nm_1 hown hK hP hD hS 1 rfl rfl 2 (by decide) (hts _ (List.mem_cons_of_mem _ k77)) (fun _ h9 => h9) rfl (by decide +kernel) rfl rfl (Nat.le_of_ble_eq_true rfl) d11_3_2 (fun H locs hP hD hS => ?_)
  have hP : va_P G.1 vwCl (wC q G.2 cw (upd (upd (upd (upd cI0 1 0) 3 1) 2 0) 0 0) cA0 R Q pl) H := hP
  have hD : va_D A (wC q G.2 cw (upd (upd (upd (upd cI0 1 0) 3 1) 2 0) 0 0) cA0 R Q pl) := hD
  exact fin_v hx hb hr hlk hS () trivial hP hD (Nat.le_of_ble_eq_true rfl) (Nat.le_of_ble_eq_true rfl) d11_3_5
set_option maxHeartbeats 4000000 in
set_option maxRecDepth 100000 in
theorem tc_put (l : Launch) (G : Gk) (Zd q : Nat → Nat) (cw : Nat) (R : Nat → Option Nat) (Q : Nat → Nat → Option Nat) (pl : va_W) (id : Int32) (sz : Nat) : Met l y1_3 (Cond.code y1_3 prog_1_method_3_code 4 (some .int) :: TB) (rmD 5 0 0) (va_Pc [.ref (q 0), .int id] (pcW G Zd (wC q G.2 cw cI0 cA0 R Q pl) sz)) (qI G (fun rr (_ : Unit) => rr = an_put id) (fun _ => []) (va_A (wC q G.2 cw cI0 cA0 R Q pl) sz)) 0 0 (va_A (wC q G.2 cw cI0 cA0 R Q pl) sz) := by
  refine go (Qc := qI G (fun rr (_ : Unit) => rr = an_put id) (fun _ => [])) "PagedValues" rfl (by decide) (Nat.le_of_ble_eq_true rfl) ?_
  intro p e s m below meth c ls A hx hb hr hlk hml hown hts hin hl hP hD hK hS hA hZ
  have hl : lv_has ls 4 [(0, .ref (q 0)), (1, .int id)] := hl
  refine lv_aload_n hx hb d1_3_0 rfl (lv_at hl 0 rfl) ?_
  refine va_get (D := G.1) (ci := 0) (v := .ref (q 6)) (C := r_0) (T := f_0) (N := 7) (ref := "PagedValues") hx hb hts (fun w h => List.mem_cons_of_mem _ (ly_0 w h)) hown hK hP 0 rfl rfl 5 (by decide) (hts _ (List.mem_cons_of_mem _ k275)) (fun _ h9 => h9) rfl d1_3_1 ?_
  refine va_getN (D := G.1) (ci := 9) (v := .int 0) (C := r_9) (T := f_9) (N := 9) (ref := "PagedValues$Store") hx hb hts (fun w h => List.mem_cons_of_mem _ (ly_9 w h)) hown hK hP 6 rfl rfl 8 (by decide) (va_Nw.use rfl (hZ.1 _ kn247)) (fun _ h9 => h9) rfl d1_3_4 ?_
  refine lv_if_eq (tgt := 13) hx hb d1_3_7 rfl (fun _ => ?_) (fun hc => absurd hc (by decide))
  refine lv_iload_n hx hb d1_3_13 rfl (lv_at hl 1 rfl) ?_
  refine sS_i (As := [.int id]) (rest := []) ⟨hx, hb, hml, hown, hts⟩ (bc_isId l G Zd q _ id _) (kw_S (n := 1) hts k306 k304 k1 k305 (by decide +kernel) ⟨Nat.le_of_ble_eq_true rfl, Nat.le_of_ble_eq_true rfl⟩) hP hD hK hS hA hZ rfl hl.1 rfl (Nat.le_of_ble_eq_true rfl) d1_3_14 ⟨Nat.le_of_ble_eq_true rfl, Nat.le_of_ble_eq_true rfl⟩ (fun rr u H locs hp hP hD hS => ?_)
  obtain rfl := hp
  refine W.eq (g2 := F0 m 17 ls [.int (wt id 0 7)]) rfl ?_
  have hP : va_P G.1 vwCl (wC q G.2 cw cI0 cA0 R Q pl) H := hP
  have hD : va_D A (wC q G.2 cw cI0 cA0 R Q pl) := hD
  refine lv_if_ne (tgt := 22) hx hb d1_3_17 rfl (fun c1 => ?_) (fun c1 => ?_)
  ·
    refine lv_aload_n hx hb d1_3_22 rfl (lv_at hl 0 rfl) ?_
    refine va_get (D := G.1) (ci := 0) (v := .ref (q 2)) (C := r_0) (T := f_0) (N := 7) (ref := "PagedValues") hx hb hts (fun w h => List.mem_cons_of_mem _ (ly_0 w h)) hown hK hP 0 rfl rfl 1 (by decide) (hts _ (List.mem_cons_of_mem _ k271)) (fun _ h9 => h9) rfl d1_3_23 ?_
    refine lv_aload_n hx hb d1_3_26 rfl (lv_at hl 0 rfl) ?_
    refine va_get (D := G.1) (ci := 0) (v := .ref (q 1)) (C := r_0) (T := f_0) (N := 7) (ref := "PagedValues") hx hb hts (fun w h => List.mem_cons_of_mem _ (ly_0 w h)) hown hK hP 0 rfl rfl 0 (by decide) (hts _ (List.mem_cons_of_mem _ k270)) (fun _ h9 => h9) rfl d1_3_27 ?_
    refine sV_q (As := [.ref (q 1)]) (rest := []) ⟨hx, hb, hml, hown, hts⟩ (b13_2_17 l G Zd q cw R Q pl _) (kw_V (n := 1) hts k310 k307 k7 k308 k309 (by decide +kernel) ⟨Nat.le_of_ble_eq_true rfl, Nat.le_of_ble_eq_true rfl⟩) hP hD hK hS hA hZ (va_recv (ci := 3) (q0 := 2) hK hP rfl rfl) rfl hl.1 rfl (Nat.le_of_ble_eq_true rfl) d1_3_30 ⟨Nat.le_of_ble_eq_true rfl, Nat.le_of_ble_eq_true rfl⟩ (fun rr u H locs hp hP hD hS => ?_)
    obtain rfl := hp
    refine W.eq (g2 := F0 m 33 ls [.null]) rfl ?_
    have hP : va_P G.1 vwCl (wC q G.2 cw (upd (upd (upd cI0 1 0) 3 1) 2 0) cA0 R Q pl) H := hP
    have hD : va_D A (wC q G.2 cw (upd (upd (upd cI0 1 0) 3 1) 2 0) cA0 R Q pl) := hD
    refine lv_astore_nN (lv' := [(2, .null), (0, .ref (q 0)), (1, .int id)]) hx hb d1_3_33 rfl hl (by decide) rfl (fun ls hl => ?_)
    refine lv_aload_n hx hb d1_3_34 rfl (lv_at hl 1 rfl) ?_
    refine va_get (D := G.1) (ci := 0) (v := .ref (q 1)) (C := r_0) (T := f_0) (N := 7) (ref := "PagedValues") hx hb hts (fun w h => List.mem_cons_of_mem _ (ly_0 w h)) hown hK hP 0 rfl rfl 0 (by decide) (hts _ (List.mem_cons_of_mem _ k270)) (fun _ h9 => h9) rfl d1_3_35 ?_
    refine sV_v (As := []) (rest := []) ⟨hx, hb, hml, hown, hts⟩ (b11_3_18 l G Zd q cw R Q pl _) (kw_V (n := 0) hts k674 k671 k2 k672 k673 (by decide +kernel) ⟨Nat.le_of_ble_eq_true rfl, Nat.le_of_ble_eq_true rfl⟩) hP hD hK hS hA hZ (va_recv (ci := 1) (q0 := 1) hK hP rfl rfl) rfl hl.1 rfl (Nat.le_of_ble_eq_true rfl) d1_3_38 ⟨Nat.le_of_ble_eq_true rfl, Nat.le_of_ble_eq_true rfl⟩ (fun u H locs hp hP hD hS => ?_)
    refine W.eq (g2 := F0 m 41 ls []) rfl ?_
    have hP : va_P G.1 vwCl (wC q G.2 cw (upd (upd (upd (upd cI0 1 0) 3 1) 2 0) 0 0) cA0 R Q pl) H := hP
    have hD : va_D A (wC q G.2 cw (upd (upd (upd (upd cI0 1 0) 3 1) 2 0) 0 0) cA0 R Q pl) := hD
    refine lv_aload_nN hx hb d1_3_41 rfl (lv_at hl 0 rfl) ?_
    refine lv_ifnonnullN hx hb d1_3_42 ?_
    refine lv_bipush (v := (-100)) hx hb d1_3_45 (by decide) ?_
    refine lv_aload_n hx hb d1_3_47 rfl (lv_at hl 1 rfl) ?_
    refine va_get (D := G.1) (ci := 0) (v := .ref (q 1)) (C := r_0) (T := f_0) (N := 7) (ref := "PagedValues") hx hb hts (fun w h => List.mem_cons_of_mem _ (ly_0 w h)) hown hK hP 0 rfl rfl 0 (by decide) (hts _ (List.mem_cons_of_mem _ k270)) (fun _ h9 => h9) rfl d1_3_48 ?_
    refine va_getN (D := G.1) (ci := 1) (v := .int 0) (C := r_1) (T := f_1) (N := 5) (ref := "PagedValues$Text") hx hb hts (fun w h => List.mem_cons_of_mem _ (ly_1 w h)) hown hK hP 1 rfl rfl 4 (by decide) (va_Nw.use rfl (hZ.1 _ kn82)) (fun _ h9 => h9) rfl d1_3_51 ?_
    refine lv_isub hx hb d1_3_54 ?_
    refine W.eq (g2 := F0 m 55 ls [.int (-100)]) rfl ?_
    exact fin_i hx hb hr hlk hS () (if_pos (show 0 ≤ id.toInt ∧ id.toInt ≤ 7 by have L9 := lits; have fc1 := c1; (first | replace fc1 := wt_0 fc1 | replace fc1 := wt_1 fc1 | replace fc1 := an_rd_0 fc1 | simp only [Int32.lt_iff_toInt_lt, Int32.le_iff_toInt_le, ← Int32.toInt_inj, ne_eq] at fc1 | skip); omega)).symm (fun k q h => by simp at h) ⟨fun i j x y h => by simp at h, fun k q h => by simp at h⟩ (Nat.le_of_ble_eq_true rfl) (Nat.le_of_ble_eq_true rfl) d1_3_55
  ·
    refine lv_iconst (v := (-1)) hx hb d1_3_20 (by decide) ?_
    exact fin_i hx hb hr hlk hS () (if_neg (show ¬ (0 ≤ id.toInt ∧ id.toInt ≤ 7) by have L9 := lits; have fc1 := c1; (first | replace fc1 := wt_0 fc1 | replace fc1 := wt_1 fc1 | replace fc1 := an_rd_0 fc1 | simp only [Int32.lt_iff_toInt_lt, Int32.le_iff_toInt_le, ← Int32.toInt_inj, ne_eq] at fc1 | skip); omega)).symm (fun k q h => by simp at h) ⟨fun i j x y h => by simp at h, fun k q h => by simp at h⟩ (Nat.le_of_ble_eq_true rfl) (Nat.le_of_ble_eq_true rfl) d1_3_21
set_option maxHeartbeats 4000000 in
set_option maxRecDepth 100000 in
theorem b10_2_19 (l : Launch) (G : Gk) (Zd q : Nat → Nat) (cw : Nat) (R : Nat → Option Nat) (Q : Nat → Nat → Option Nat) (pl : va_W)  (sz : Nat) : Met l y10_2 (Cond.code y10_2 prog_10_method_2_code 1 (some .int) :: TB) (rmD 0 0 0) (va_Pc [.ref (q 6)] (pcW G Zd (wC q G.2 cw cI0 cA0 R Q pl) sz)) (qI G (fun rr (_ : Unit) => rr = 0) (fun _ => (wC q G.2 cw cI0 cA0 R Q pl)) (va_A (wC q G.2 cw cI0 cA0 R Q pl) sz)) 0 0 (va_A (wC q G.2 cw cI0 cA0 R Q pl) sz) := by
  refine go (Qc := qI G (fun rr (_ : Unit) => rr = 0) (fun _ => (wC q G.2 cw cI0 cA0 R Q pl))) "PagedValues$Store" rfl (by decide) (Nat.le_of_ble_eq_true rfl) ?_
  intro p e s m below meth c ls A hx hb hr hlk hml hown hts hin hl hP hD hK hS hA hZ
  have hl : lv_has ls 1 [(0, .ref (q 6))] := hl
  refine lv_aload_n hx hb d10_2_0 rfl (lv_at hl 0 rfl) ?_
  refine va_get (D := G.1) (ci := 9) (v := .ref (q 17)) (C := r_9) (T := f_9) (N := 9) (ref := "PagedValues$Store") hx hb hts (fun w h => List.mem_cons_of_mem _ (ly_9 w h)) hown hK hP 6 rfl rfl 1 (by decide) (hts _ (List.mem_cons_of_mem _ k237)) (fun _ h9 => h9) rfl d10_2_1 ?_
  refine lv_iconst (v := 1) hx hb d10_2_4 (by decide) ?_
  refine va_iald (D := G.1) hx hb hK hP 17 1 rfl rfl (i := 1) (by unfold vp_in; decide) d10_2_5 ?_
  refine W.eq (g2 := F0 m 6 ls [.int 0]) rfl ?_
  refine lv_aload_n hx hb d10_2_6 rfl (lv_at hl 0 rfl) ?_
  refine va_get (D := G.1) (ci := 9) (v := .ref (q 17)) (C := r_9) (T := f_9) (N := 9) (ref := "PagedValues$Store") hx hb hts (fun w h => List.mem_cons_of_mem _ (ly_9 w h)) hown hK hP 6 rfl rfl 1 (by decide) (hts _ (List.mem_cons_of_mem _ k237)) (fun _ h9 => h9) rfl d10_2_7 ?_
  refine lv_iconst (v := 0) hx hb d10_2_10 (by decide) ?_
  refine va_iald (D := G.1) hx hb hK hP 17 1 rfl rfl (i := 0) (by unfold vp_in; decide) d10_2_11 ?_
  refine W.eq (g2 := F0 m 12 ls [.int 0, .int 0]) rfl ?_
  refine lv_icmp_le (tgt := 19) hx hb d10_2_12 rfl (fun _ => ?_) (fun hc => absurd hc (by decide))
  refine lv_iconst (v := 0) hx hb d10_2_19 (by decide) ?_
  exact fin_i hx hb hr hlk hS () rfl hP hD (Nat.le_of_ble_eq_true rfl) (Nat.le_of_ble_eq_true rfl) d10_2_20
set_option maxHeartbeats 4000000 in
set_option maxRecDepth 100000 in
theorem b10_3_20 (l : Launch) (G : Gk) (Zd q : Nat → Nat) (cw : Nat) (R : Nat → Option Nat) (Q : Nat → Nat → Option Nat) (pl : va_W)  (sz : Nat) : Met l y10_3 (Cond.code y10_3 prog_10_method_3_code 1 (some .int) :: TB) (rmD 1 0 0) (va_Pc [.ref (q 6)] (pcW G Zd (wC q G.2 cw cI0 cA0 R Q pl) sz)) (qI G (fun rr (_ : Unit) => rr = (-1)) (fun _ => (wC q G.2 cw cI0 cA0 R Q pl)) (va_A (wC q G.2 cw cI0 cA0 R Q pl) sz)) 0 0 (va_A (wC q G.2 cw cI0 cA0 R Q pl) sz) := by
  refine go (Qc := qI G (fun rr (_ : Unit) => rr = (-1)) (fun _ => (wC q G.2 cw cI0 cA0 R Q pl))) "PagedValues$Store" rfl (by decide) (Nat.le_of_ble_eq_true rfl) ?_
  intro p e s m below meth c ls A hx hb hr hlk hml hown hts hin hl hP hD hK hS hA hZ
  have hl : lv_has ls 1 [(0, .ref (q 6))] := hl
  refine lv_aload_n hx hb d10_3_0 rfl (lv_at hl 0 rfl) ?_
  refine va_get (D := G.1) (ci := 9) (v := .ref (q 18)) (C := r_9) (T := f_9) (N := 9) (ref := "PagedValues$Store") hx hb hts (fun w h => List.mem_cons_of_mem _ (ly_9 w h)) hown hK hP 6 rfl rfl 2 (by decide) (hts _ (List.mem_cons_of_mem _ k239)) (fun _ h9 => h9) rfl d10_3_1 ?_
  refine lv_aload_n hx hb d10_3_4 rfl (lv_at hl 0 rfl) ?_
  refine sV_i (As := []) (rest := [.ref (q 18)]) ⟨hx, hb, hml, hown, hts⟩ (b10_2_19 l G Zd q cw R Q pl _) (kw_V (n := 0) hts k690 k687 k13 k688 k689 (by decide +kernel) ⟨Nat.le_of_ble_eq_true rfl, Nat.le_of_ble_eq_true rfl⟩) hP hD hK hS hA hZ (va_recv (ci := 9) (q0 := 6) hK hP rfl rfl) rfl hl.1 rfl (Nat.le_of_ble_eq_true rfl) d10_3_5 ⟨Nat.le_of_ble_eq_true rfl, Nat.le_of_ble_eq_true rfl⟩ (fun rr u H locs hp hP hD hS => ?_)
  obtain rfl := hp
  refine W.eq (g2 := F0 m 8 ls [.int 0, .ref (q 18)]) rfl ?_
  have hP : va_P G.1 vwCl (wC q G.2 cw cI0 cA0 R Q pl) H := hP
  have hD : va_D A (wC q G.2 cw cI0 cA0 R Q pl) := hD
  refine va_iald (D := G.1) hx hb hK hP 18 1 rfl rfl (i := 0) (by unfold vp_in; decide) d10_3_8 ?_
  refine W.eq (g2 := F0 m 9 ls [.int (-1)]) rfl ?_
  exact fin_i hx hb hr hlk hS () rfl hP hD (Nat.le_of_ble_eq_true rfl) (Nat.le_of_ble_eq_true rfl) d10_3_9
set_option maxHeartbeats 4000000 in
set_option maxRecDepth 100000 in
theorem b10_10_21 (l : Launch) (G : Gk) (Zd q : Nat → Nat) (cw : Nat) (R : Nat → Option Nat) (Q : Nat → Nat → Option Nat) (pl : va_W) (x2 : Int32) (sz : Nat) : Met l y10_10 (Cond.code y10_10 prog_10_method_10_code 3 (some .int) :: TB) (rmD 0 0 0) (va_Pc [.ref (q 6), .int (-1), .int x2] (pcW G Zd (wC q G.2 cw cI0 cA0 R Q pl) sz)) (qI G (fun rr (_ : Unit) => rr = (-1)) (fun _ => (wC q G.2 cw cI0 cA0 R Q pl)) (va_A (wC q G.2 cw cI0 cA0 R Q pl) sz)) 0 0 (va_A (wC q G.2 cw cI0 cA0 R Q pl) sz) := by
  refine go (Qc := qI G (fun rr (_ : Unit) => rr = (-1)) (fun _ => (wC q G.2 cw cI0 cA0 R Q pl))) "PagedValues$Store" rfl (by decide) (Nat.le_of_ble_eq_true rfl) ?_
  intro p e s m below meth c ls A hx hb hr hlk hml hown hts hin hl hP hD hK hS hA hZ
  have hl : lv_has ls 3 [(0, .ref (q 6)), (1, .int (-1)), (2, .int x2)] := hl
  refine lv_iload_n hx hb d10_10_0 rfl (lv_at hl 1 rfl) ?_
  refine lv_iconst (v := (-1)) hx hb d10_10_1 (by decide) ?_
  refine lv_icmp_ne (tgt := 9) hx hb d10_10_2 rfl (fun hc => absurd hc (by decide)) (fun _ => ?_)
  refine lv_iconst (v := (-1)) hx hb d10_10_5 (by decide) ?_
  refine lv_goto (tgt := 20) hx hb d10_10_6 rfl ?_
  exact fin_i hx hb hr hlk hS () rfl hP hD (Nat.le_of_ble_eq_true rfl) (Nat.le_of_ble_eq_true rfl) d10_10_20
set_option maxHeartbeats 4000000 in
set_option maxRecDepth 100000 in
theorem b10_11_22 (l : Launch) (G : Gk) (Zd q : Nat → Nat) (cw : Nat) (R : Nat → Option Nat) (Q : Nat → Nat → Option Nat) (pl : va_W) (x2 : Int32) (sz : Nat) : Met l y10_11 (Cond.code y10_11 prog_10_method_11_code 4 (some (.object "PagedValues$Value")) :: TB) (rmD 1 0 0) (va_Pc [.ref (q 6), .int (-1), .int x2] (pcW G Zd (wC q G.2 cw cI0 cA0 R Q pl) sz)) (qQ G (fun rr (_ : Unit) => rr = none) (fun _ => (wC q G.2 cw cI0 cA0 R Q pl)) (va_A (wC q G.2 cw cI0 cA0 R Q pl) sz)) 0 0 (va_A (wC q G.2 cw cI0 cA0 R Q pl) sz) := by
  refine go (Qc := qQ G (fun rr (_ : Unit) => rr = none) (fun _ => (wC q G.2 cw cI0 cA0 R Q pl))) "PagedValues$Store" rfl (by decide) (Nat.le_of_ble_eq_true rfl) ?_
  intro p e s m below meth c ls A hx hb hr hlk hml hown hts hin hl hP hD hK hS hA hZ
  have hl : lv_has ls 4 [(0, .ref (q 6)), (1, .int (-1)), (2, .int x2)] := hl
  refine lv_iload_n hx hb d10_11_0 rfl (lv_at hl 2 rfl) ?_
  refine sSN_i (As := [.int x2]) (rest := []) ⟨hx, hb, hml, hown, hts⟩ (bc_isId l G Zd q _ x2 _) (kw_SN (n := 1) hts hZ.1 k306 kn703 k1 k305 (by decide +kernel) ⟨Nat.le_of_ble_eq_true rfl, Nat.le_of_ble_eq_true rfl⟩) hP hD hK hS hA hZ rfl hl.1 rfl (Nat.le_of_ble_eq_true rfl) d10_11_1 ⟨Nat.le_of_ble_eq_true rfl, Nat.le_of_ble_eq_true rfl⟩ (fun rr u H locs hp hP hD hS => ?_)
  obtain rfl := hp
  refine W.eq (g2 := F0 m 4 ls [.int (wt x2 0 7)]) rfl ?_
  have hP : va_P G.1 vwCl (wC q G.2 cw cI0 cA0 R Q pl) H := hP
  have hD : va_D A (wC q G.2 cw cI0 cA0 R Q pl) := hD
  refine lv_if_ne (tgt := 9) hx hb d10_11_4 rfl (fun c1 => ?_) (fun c1 => ?_)
  ·
    refine lv_aload_n hx hb d10_11_9 rfl (lv_at hl 0 rfl) ?_
    refine lv_iload_n hx hb d10_11_10 rfl (lv_at hl 1 rfl) ?_
    refine lv_iload_n hx hb d10_11_11 rfl (lv_at hl 2 rfl) ?_
    refine lv_iconst (v := 4) hx hb d10_11_12 (by decide) ?_
    refine lv_idiv hx hb d10_11_13 (by decide) ?_
    refine sV_i (As := [.int (-1), .int (x2 / 4)]) (rest := []) ⟨hx, hb, hml, hown, hts⟩ (b10_10_21 l G Zd q cw R Q pl (x2 / 4) _) (kw_V (n := 2) hts k694 k691 k13 k693 ks8 (by decide +kernel) ⟨Nat.le_of_ble_eq_true rfl, Nat.le_of_ble_eq_true rfl⟩) hP hD hK hS hA hZ (va_recv (ci := 9) (q0 := 6) hK hP rfl rfl) rfl hl.1 rfl (Nat.le_of_ble_eq_true rfl) d10_11_14 ⟨Nat.le_of_ble_eq_true rfl, Nat.le_of_ble_eq_true rfl⟩ (fun rr u H locs hp hP hD hS => ?_)
    obtain rfl := hp
    refine W.eq (g2 := F0 m 17 ls [.int (-1)]) rfl ?_
    have hP : va_P G.1 vwCl (wC q G.2 cw cI0 cA0 R Q pl) H := hP
    have hD : va_D A (wC q G.2 cw cI0 cA0 R Q pl) := hD
    refine lv_istore_n (lv' := [(3, .int (-1)), (0, .ref (q 6)), (1, .int (-1)), (2, .int x2)]) hx hb d10_11_17 rfl hl (by decide) rfl (fun ls hl => ?_)
    refine lv_iload_n hx hb d10_11_18 rfl (lv_at hl 0 rfl) ?_
    refine lv_iconst (v := (-1)) hx hb d10_11_19 (by decide) ?_
    refine lv_icmp_ne (tgt := 27) hx hb d10_11_20 rfl (fun hc => absurd hc (by decide)) (fun _ => ?_)
    refine lv_null hx hb d10_11_23 ?_
    refine lv_goto (tgt := 40) hx hb d10_11_24 rfl ?_
    exact fin_q hx hb hr hlk (by first | exact Or.inl ⟨_, rfl⟩ | exact Or.inr ⟨_, rfl⟩) (r := none) hS () rfl hP hD (Nat.le_of_ble_eq_true rfl) (Nat.le_of_ble_eq_true rfl) d10_11_40
  ·
    refine lv_null hx hb d10_11_7 ?_
    exact fin_q hx hb hr hlk (by first | exact Or.inl ⟨_, rfl⟩ | exact Or.inr ⟨_, rfl⟩) (r := none) hS () rfl hP hD (Nat.le_of_ble_eq_true rfl) (Nat.le_of_ble_eq_true rfl) d10_11_8
set_option maxHeartbeats 4000000 in
set_option maxRecDepth 100000 in
theorem tc_patch (l : Launch) (G : Gk) (Zd q : Nat → Nat) (cw : Nat) (R : Nat → Option Nat) (Q : Nat → Nat → Option Nat) (pl : va_W) (id : Int32) (sz : Nat) : Met l y1_4 (Cond.code y1_4 prog_1_method_4_code 5 (some .int) :: TB) (rmD 2 0 0) (va_Pc [.ref (q 0), .int id] (pcW G Zd (wC q G.2 cw cI0 cA0 R Q pl) sz)) (qI G (fun rr (_ : Unit) => rr = -1) (fun _ => []) (va_A (wC q G.2 cw cI0 cA0 R Q pl) sz)) 0 0 (va_A (wC q G.2 cw cI0 cA0 R Q pl) sz) := by
  refine go (Qc := qI G (fun rr (_ : Unit) => rr = -1) (fun _ => [])) "PagedValues" rfl (by decide) (Nat.le_of_ble_eq_true rfl) ?_
  intro p e s m below meth c ls A hx hb hr hlk hml hown hts hin hl hP hD hK hS hA hZ
  have hl : lv_has ls 5 [(0, .ref (q 0)), (1, .int id)] := hl
  refine lv_aload_n hx hb d1_4_0 rfl (lv_at hl 0 rfl) ?_
  refine va_get (D := G.1) (ci := 0) (v := .ref (q 6)) (C := r_0) (T := f_0) (N := 7) (ref := "PagedValues") hx hb hts (fun w h => List.mem_cons_of_mem _ (ly_0 w h)) hown hK hP 0 rfl rfl 5 (by decide) (hts _ (List.mem_cons_of_mem _ k275)) (fun _ h9 => h9) rfl d1_4_1 ?_
  refine va_getN (D := G.1) (ci := 9) (v := .int 0) (C := r_9) (T := f_9) (N := 9) (ref := "PagedValues$Store") hx hb hts (fun w h => List.mem_cons_of_mem _ (ly_9 w h)) hown hK hP 6 rfl rfl 8 (by decide) (va_Nw.use rfl (hZ.1 _ kn247)) (fun _ h9 => h9) rfl d1_4_4 ?_
  refine lv_if_eq (tgt := 13) hx hb d1_4_7 rfl (fun _ => ?_) (fun hc => absurd hc (by decide))
  refine lv_aload_n hx hb d1_4_13 rfl (lv_at hl 0 rfl) ?_
  refine va_get (D := G.1) (ci := 0) (v := .ref (q 6)) (C := r_0) (T := f_0) (N := 7) (ref := "PagedValues") hx hb hts (fun w h => List.mem_cons_of_mem _ (ly_0 w h)) hown hK hP 0 rfl rfl 5 (by decide) (hts _ (List.mem_cons_of_mem _ k275)) (fun _ h9 => h9) rfl d1_4_14 ?_
  refine lv_aload_n hx hb d1_4_17 rfl (lv_at hl 0 rfl) ?_
  refine va_get (D := G.1) (ci := 0) (v := .ref (q 6)) (C := r_0) (T := f_0) (N := 7) (ref := "PagedValues") hx hb hts (fun w h => List.mem_cons_of_mem _ (ly_0 w h)) hown hK hP 0 rfl rfl 5 (by decide) (hts _ (List.mem_cons_of_mem _ k275)) (fun _ h9 => h9) rfl d1_4_18 ?_
  refine sV_i (As := []) (rest := [.ref (q 6)]) ⟨hx, hb, hml, hown, hts⟩ (b10_3_20 l G Zd q cw R Q pl _) (kw_V (n := 0) hts k686 k745 k13 k684 k685 (by decide +kernel) ⟨Nat.le_of_ble_eq_true rfl, Nat.le_of_ble_eq_true rfl⟩) hP hD hK hS hA hZ (va_recv (ci := 9) (q0 := 6) hK hP rfl rfl) rfl hl.1 rfl (Nat.le_of_ble_eq_true rfl) d1_4_21 ⟨Nat.le_of_ble_eq_true rfl, Nat.le_of_ble_eq_true rfl⟩ (fun rr u H locs hp hP hD hS => ?_)
  obtain rfl := hp
  refine W.eq (g2 := F0 m 24 ls [.int (-1), .ref (q 6)]) rfl ?_
  have hP : va_P G.1 vwCl (wC q G.2 cw cI0 cA0 R Q pl) H := hP
  have hD : va_D A (wC q G.2 cw cI0 cA0 R Q pl) := hD
  refine lv_iload_n hx hb d1_4_24 rfl (lv_at hl 1 rfl) ?_
  refine sV_q (As := [.int (-1), .int id]) (rest := []) ⟨hx, hb, hml, hown, hts⟩ (b10_11_22 l G Zd q cw R Q pl id _) (kw_V (n := 2) hts k702 k746 k13 k700 k701 (by decide +kernel) ⟨Nat.le_of_ble_eq_true rfl, Nat.le_of_ble_eq_true rfl⟩) hP hD hK hS hA hZ (va_recv (ci := 9) (q0 := 6) hK hP rfl rfl) rfl hl.1 rfl (Nat.le_of_ble_eq_true rfl) d1_4_25 ⟨Nat.le_of_ble_eq_true rfl, Nat.le_of_ble_eq_true rfl⟩ (fun rr u H locs hp hP hD hS => ?_)
  obtain rfl := hp
  refine W.eq (g2 := F0 m 28 ls [.null]) rfl ?_
  have hP : va_P G.1 vwCl (wC q G.2 cw cI0 cA0 R Q pl) H := hP
  have hD : va_D A (wC q G.2 cw cI0 cA0 R Q pl) := hD
  refine lv_astore_nN (lv' := [(2, .null), (0, .ref (q 0)), (1, .int id)]) hx hb d1_4_28 rfl hl (by decide) rfl (fun ls hl => ?_)
  refine lv_aload_nN hx hb d1_4_29 rfl (lv_at hl 0 rfl) ?_
  refine lv_ifnonnullN hx hb d1_4_30 ?_
  refine lv_iconst (v := (-1)) hx hb d1_4_33 (by decide) ?_
  exact fin_i hx hb hr hlk hS () rfl (fun k q h => by simp at h) ⟨fun i j x y h => by simp at h, fun k q h => by simp at h⟩ (Nat.le_of_ble_eq_true rfl) (Nat.le_of_ble_eq_true rfl) d1_4_34
set_option maxHeartbeats 4000000 in
set_option maxRecDepth 100000 in
theorem tc_remove (l : Launch) (G : Gk) (Zd q : Nat → Nat) (cw : Nat) (R : Nat → Option Nat) (Q : Nat → Nat → Option Nat) (pl : va_W) (id : Int32) (sz : Nat) : Met l y1_5 (Cond.code y1_5 prog_1_method_5_code 3 (some .int) :: TB) (rmD 2 0 0) (va_Pc [.ref (q 0), .int id] (pcW G Zd (wC q G.2 cw cI0 cA0 R Q pl) sz)) (qI G (fun rr (_ : Unit) => rr = -1) (fun _ => []) (va_A (wC q G.2 cw cI0 cA0 R Q pl) sz)) 0 0 (va_A (wC q G.2 cw cI0 cA0 R Q pl) sz) := by
  refine go (Qc := qI G (fun rr (_ : Unit) => rr = -1) (fun _ => [])) "PagedValues" rfl (by decide) (Nat.le_of_ble_eq_true rfl) ?_
  intro p e s m below meth c ls A hx hb hr hlk hml hown hts hin hl hP hD hK hS hA hZ
  have hl : lv_has ls 3 [(0, .ref (q 0)), (1, .int id)] := hl
  refine lv_aload_n hx hb d1_5_0 rfl (lv_at hl 0 rfl) ?_
  refine va_get (D := G.1) (ci := 0) (v := .ref (q 6)) (C := r_0) (T := f_0) (N := 7) (ref := "PagedValues") hx hb hts (fun w h => List.mem_cons_of_mem _ (ly_0 w h)) hown hK hP 0 rfl rfl 5 (by decide) (hts _ (List.mem_cons_of_mem _ k275)) (fun _ h9 => h9) rfl d1_5_1 ?_
  refine va_getN (D := G.1) (ci := 9) (v := .int 0) (C := r_9) (T := f_9) (N := 9) (ref := "PagedValues$Store") hx hb hts (fun w h => List.mem_cons_of_mem _ (ly_9 w h)) hown hK hP 6 rfl rfl 8 (by decide) (va_Nw.use rfl (hZ.1 _ kn247)) (fun _ h9 => h9) rfl d1_5_4 ?_
  refine lv_if_eq (tgt := 13) hx hb d1_5_7 rfl (fun _ => ?_) (fun hc => absurd hc (by decide))
  refine lv_aload_n hx hb d1_5_13 rfl (lv_at hl 0 rfl) ?_
  refine va_get (D := G.1) (ci := 0) (v := .ref (q 6)) (C := r_0) (T := f_0) (N := 7) (ref := "PagedValues") hx hb hts (fun w h => List.mem_cons_of_mem _ (ly_0 w h)) hown hK hP 0 rfl rfl 5 (by decide) (hts _ (List.mem_cons_of_mem _ k275)) (fun _ h9 => h9) rfl d1_5_14 ?_
  refine lv_aload_n hx hb d1_5_17 rfl (lv_at hl 0 rfl) ?_
  refine va_get (D := G.1) (ci := 0) (v := .ref (q 6)) (C := r_0) (T := f_0) (N := 7) (ref := "PagedValues") hx hb hts (fun w h => List.mem_cons_of_mem _ (ly_0 w h)) hown hK hP 0 rfl rfl 5 (by decide) (hts _ (List.mem_cons_of_mem _ k275)) (fun _ h9 => h9) rfl d1_5_18 ?_
  refine sV_i (As := []) (rest := [.ref (q 6)]) ⟨hx, hb, hml, hown, hts⟩ (b10_3_20 l G Zd q cw R Q pl _) (kw_V (n := 0) hts k686 k745 k13 k684 k685 (by decide +kernel) ⟨Nat.le_of_ble_eq_true rfl, Nat.le_of_ble_eq_true rfl⟩) hP hD hK hS hA hZ (va_recv (ci := 9) (q0 := 6) hK hP rfl rfl) rfl hl.1 rfl (Nat.le_of_ble_eq_true rfl) d1_5_21 ⟨Nat.le_of_ble_eq_true rfl, Nat.le_of_ble_eq_true rfl⟩ (fun rr u H locs hp hP hD hS => ?_)
  obtain rfl := hp
  refine W.eq (g2 := F0 m 24 ls [.int (-1), .ref (q 6)]) rfl ?_
  have hP : va_P G.1 vwCl (wC q G.2 cw cI0 cA0 R Q pl) H := hP
  have hD : va_D A (wC q G.2 cw cI0 cA0 R Q pl) := hD
  refine lv_iload_n hx hb d1_5_24 rfl (lv_at hl 1 rfl) ?_
  refine sV_q (As := [.int (-1), .int id]) (rest := []) ⟨hx, hb, hml, hown, hts⟩ (b10_11_22 l G Zd q cw R Q pl id _) (kw_V (n := 2) hts k702 k746 k13 k700 k701 (by decide +kernel) ⟨Nat.le_of_ble_eq_true rfl, Nat.le_of_ble_eq_true rfl⟩) hP hD hK hS hA hZ (va_recv (ci := 9) (q0 := 6) hK hP rfl rfl) rfl hl.1 rfl (Nat.le_of_ble_eq_true rfl) d1_5_25 ⟨Nat.le_of_ble_eq_true rfl, Nat.le_of_ble_eq_true rfl⟩ (fun rr u H locs hp hP hD hS => ?_)
  obtain rfl := hp
  refine W.eq (g2 := F0 m 28 ls [.null]) rfl ?_
  have hP : va_P G.1 vwCl (wC q G.2 cw cI0 cA0 R Q pl) H := hP
  have hD : va_D A (wC q G.2 cw cI0 cA0 R Q pl) := hD
  refine lv_ifnonnullN hx hb d1_5_28 ?_
  refine lv_iconst (v := (-1)) hx hb d1_5_31 (by decide) ?_
  exact fin_i hx hb hr hlk hS () rfl (fun k q h => by simp at h) ⟨fun i j x y h => by simp at h, fun k q h => by simp at h⟩ (Nat.le_of_ble_eq_true rfl) (Nat.le_of_ble_eq_true rfl) d1_5_32
set_option maxHeartbeats 4000000 in
set_option maxRecDepth 100000 in
theorem b3_3_23 (l : Launch) (G : Gk) (Zd q : Nat → Nat) (cw : Nat) (R : Nat → Option Nat) (Q : Nat → Nat → Option Nat) (pl : va_W) (x1 : Int32) (sz : Nat) : Met l y3_3 (Cond.code y3_3 prog_3_method_3_code 2 (some .boolean) :: TB) (rmD 0 0 0) (va_Pc [.ref (q 5), .int x1] (pcW G Zd (wC q G.2 cw cI0 cA0 R Q pl) sz)) (qI G (fun rr (_ : Unit) => rr = 0) (fun _ => (wC q G.2 cw cI0 cA0 R Q pl)) (va_A (wC q G.2 cw cI0 cA0 R Q pl) sz)) 0 0 (va_A (wC q G.2 cw cI0 cA0 R Q pl) sz) := by
  refine go (Qc := qI G (fun rr (_ : Unit) => rr = 0) (fun _ => (wC q G.2 cw cI0 cA0 R Q pl))) "PagedValues$Finder" rfl (by decide) (Nat.le_of_ble_eq_true rfl) ?_
  intro p e s m below meth c ls A hx hb hr hlk hml hown hts hin hl hP hD hK hS hA hZ
  have hl : lv_has ls 2 [(0, .ref (q 5)), (1, .int x1)] := hl
  refine lv_iload_n hx hb d3_3_0 rfl (lv_at hl 1 rfl) ?_
  refine lv_if_lt (tgt := 16) hx hb d3_3_1 rfl (fun c1 => ?_) (fun c1 => ?_)
  ·
    refine lv_iconst (v := 0) hx hb d3_3_16 (by decide) ?_
    exact fin_z hx hb hr hlk (by decide) hS () rfl hP hD (Nat.le_of_ble_eq_true rfl) (Nat.le_of_ble_eq_true rfl) d3_3_17
  ·
    refine lv_iload_n hx hb d3_3_4 rfl (lv_at hl 1 rfl) ?_
    refine lv_aload_n hx hb d3_3_5 rfl (lv_at hl 0 rfl) ?_
    refine va_get (D := G.1) (ci := 8) (v := .int 0) (C := r_8) (T := f_8) (N := 8) (ref := "PagedValues$Finder") hx hb hts (fun w h => List.mem_cons_of_mem _ (ly_8 w h)) hown hK hP 5 rfl rfl 4 (by decide) (hts _ (List.mem_cons_of_mem _ k189)) (fun _ h9 => h9) rfl d3_3_6 ?_
    refine lv_icmp_ge (tgt := 16) hx hb d3_3_9 rfl (fun c2 => ?_) (fun c2 => absurd c2 (fun e9 => by have L9 := lits; have fc1 := c1; simp only [Int32.lt_iff_toInt_lt, Int32.le_iff_toInt_le, ← Int32.toInt_inj, ne_eq, Decidable.not_not] at fc1; have fe9 := e9; simp only [Int32.lt_iff_toInt_lt, Int32.le_iff_toInt_le, ← Int32.toInt_inj, ne_eq, Decidable.not_not] at fe9; omega))
    refine lv_iconst (v := 0) hx hb d3_3_16 (by decide) ?_
    exact fin_z hx hb hr hlk (by decide) hS () rfl hP hD (Nat.le_of_ble_eq_true rfl) (Nat.le_of_ble_eq_true rfl) d3_3_17
set_option maxHeartbeats 4000000 in
set_option maxRecDepth 100000 in
theorem tc_result (l : Launch) (G : Gk) (Zd q : Nat → Nat) (cw : Nat) (R : Nat → Option Nat) (Q : Nat → Nat → Option Nat) (pl : va_W) (i : Int32) (sz : Nat) : Met l y1_7 (Cond.code y1_7 prog_1_method_7_code 2 (some .int) :: TB) (rmD 1 0 0) (va_Pc [.ref (q 0), .int i] (pcW G Zd (wC q G.2 cw cI0 cA0 R Q pl) sz)) (qI G (fun rr (_ : Unit) => rr = -1) (fun _ => []) (va_A (wC q G.2 cw cI0 cA0 R Q pl) sz)) 0 0 (va_A (wC q G.2 cw cI0 cA0 R Q pl) sz) := by
  refine go (Qc := qI G (fun rr (_ : Unit) => rr = -1) (fun _ => [])) "PagedValues" rfl (by decide) (Nat.le_of_ble_eq_true rfl) ?_
  intro p e s m below meth c ls A hx hb hr hlk hml hown hts hin hl hP hD hK hS hA hZ
  have hl : lv_has ls 2 [(0, .ref (q 0)), (1, .int i)] := hl
  refine lv_aload_n hx hb d1_7_0 rfl (lv_at hl 0 rfl) ?_
  refine va_get (D := G.1) (ci := 0) (v := .ref (q 5)) (C := r_0) (T := f_0) (N := 7) (ref := "PagedValues") hx hb hts (fun w h => List.mem_cons_of_mem _ (ly_0 w h)) hown hK hP 0 rfl rfl 4 (by decide) (hts _ (List.mem_cons_of_mem _ k274)) (fun _ h9 => h9) rfl d1_7_1 ?_
  refine lv_iload_n hx hb d1_7_4 rfl (lv_at hl 1 rfl) ?_
  refine sV_i (As := [.int i]) (rest := []) ⟨hx, hb, hml, hown, hts⟩ (b3_3_23 l G Zd q cw R Q pl i _) (kw_V (n := 1) hts k990 k987 k12 k988 k989 (by decide +kernel) ⟨Nat.le_of_ble_eq_true rfl, Nat.le_of_ble_eq_true rfl⟩) hP hD hK hS hA hZ (va_recv (ci := 8) (q0 := 5) hK hP rfl rfl) rfl hl.1 rfl (Nat.le_of_ble_eq_true rfl) d1_7_5 ⟨Nat.le_of_ble_eq_true rfl, Nat.le_of_ble_eq_true rfl⟩ (fun rr u H locs hp hP hD hS => ?_)
  obtain rfl := hp
  refine W.eq (g2 := F0 m 8 ls [.int 0]) rfl ?_
  have hP : va_P G.1 vwCl (wC q G.2 cw cI0 cA0 R Q pl) H := hP
  have hD : va_D A (wC q G.2 cw cI0 cA0 R Q pl) := hD
  refine lv_if_eq (tgt := 23) hx hb d1_7_8 rfl (fun _ => ?_) (fun hc => absurd hc (by decide))
  refine lv_iconst (v := (-1)) hx hb d1_7_23 (by decide) ?_
  exact fin_i hx hb hr hlk hS () rfl (fun k q h => by simp at h) ⟨fun i j x y h => by simp at h, fun k q h => by simp at h⟩ (Nat.le_of_ble_eq_true rfl) (Nat.le_of_ble_eq_true rfl) d1_7_24
set_option maxHeartbeats 4000000 in
set_option maxRecDepth 100000 in
theorem tc_show (l : Launch) (G : Gk) (Zd q : Nat → Nat) (cw : Nat) (R : Nat → Option Nat) (Q : Nat → Nat → Option Nat) (pl : va_W) (i : Int32) (sz : Nat) : Met l y1_8 (Cond.code y1_8 prog_1_method_8_code 2 (some .int) :: TB) (rmD 1 0 0) (va_Pc [.ref (q 0), .int i] (pcW G Zd (wC q G.2 cw cI0 cA0 R Q pl) sz)) (qI G (fun rr (_ : Unit) => rr = -1) (fun _ => []) (va_A (wC q G.2 cw cI0 cA0 R Q pl) sz)) 0 0 (va_A (wC q G.2 cw cI0 cA0 R Q pl) sz) := by
  refine go (Qc := qI G (fun rr (_ : Unit) => rr = -1) (fun _ => [])) "PagedValues" rfl (by decide) (Nat.le_of_ble_eq_true rfl) ?_
  intro p e s m below meth c ls A hx hb hr hlk hml hown hts hin hl hP hD hK hS hA hZ
  have hl : lv_has ls 2 [(0, .ref (q 0)), (1, .int i)] := hl
  refine lv_aload_n hx hb d1_8_0 rfl (lv_at hl 0 rfl) ?_
  refine va_get (D := G.1) (ci := 0) (v := .ref (q 5)) (C := r_0) (T := f_0) (N := 7) (ref := "PagedValues") hx hb hts (fun w h => List.mem_cons_of_mem _ (ly_0 w h)) hown hK hP 0 rfl rfl 4 (by decide) (hts _ (List.mem_cons_of_mem _ k274)) (fun _ h9 => h9) rfl d1_8_1 ?_
  refine lv_iload_n hx hb d1_8_4 rfl (lv_at hl 1 rfl) ?_
  refine sV_i (As := [.int i]) (rest := []) ⟨hx, hb, hml, hown, hts⟩ (b3_3_23 l G Zd q cw R Q pl i _) (kw_V (n := 1) hts k990 k987 k12 k988 k989 (by decide +kernel) ⟨Nat.le_of_ble_eq_true rfl, Nat.le_of_ble_eq_true rfl⟩) hP hD hK hS hA hZ (va_recv (ci := 8) (q0 := 5) hK hP rfl rfl) rfl hl.1 rfl (Nat.le_of_ble_eq_true rfl) d1_8_5 ⟨Nat.le_of_ble_eq_true rfl, Nat.le_of_ble_eq_true rfl⟩ (fun rr u H locs hp hP hD hS => ?_)
  obtain rfl := hp
  refine W.eq (g2 := F0 m 8 ls [.int 0]) rfl ?_
  have hP : va_P G.1 vwCl (wC q G.2 cw cI0 cA0 R Q pl) H := hP
  have hD : va_D A (wC q G.2 cw cI0 cA0 R Q pl) := hD
  refine lv_if_eq (tgt := 27) hx hb d1_8_8 rfl (fun _ => ?_) (fun hc => absurd hc (by decide))
  refine lv_iconst (v := (-1)) hx hb d1_8_27 (by decide) ?_
  exact fin_i hx hb hr hlk hS () rfl (fun k q h => by simp at h) ⟨fun i j x y h => by simp at h, fun k q h => by simp at h⟩ (Nat.le_of_ble_eq_true rfl) (Nat.le_of_ble_eq_true rfl) d1_8_28
set_option maxHeartbeats 4000000 in
set_option maxRecDepth 100000 in
theorem b16_6_24 (l : Launch) (G : Gk) (Zd q : Nat → Nat) (cw : Nat) (R : Nat → Option Nat) (Q : Nat → Nat → Option Nat) (pl : va_W)  (sz : Nat) : Met l y16_6 (Cond.code y16_6 prog_16_method_6_code 1 (some .int) :: TB) (rmD 0 0 0) (va_Pc [.ref (q 7)] (pcW G Zd (wC q G.2 cw cI0 cA0 R Q pl) sz)) (qI G (fun rr (_ : Unit) => rr = 0) (fun _ => (wC q G.2 cw cI0 cA0 R Q pl)) (va_A (wC q G.2 cw cI0 cA0 R Q pl) sz)) 0 0 (va_A (wC q G.2 cw cI0 cA0 R Q pl) sz) := by
  refine go (Qc := qI G (fun rr (_ : Unit) => rr = 0) (fun _ => (wC q G.2 cw cI0 cA0 R Q pl))) "java/lang/AbstractStringBuilder" rfl (by decide) (Nat.le_of_ble_eq_true rfl) ?_
  intro p e s m below meth c ls A hx hb hr hlk hml hown hts hin hl hP hD hK hS hA hZ
  have hl : lv_has ls 1 [(0, .ref (q 7))] := hl
  refine lv_aload_n hx hb d16_6_0 rfl (lv_at hl 0 rfl) ?_
  refine va_get (D := G.1) (ci := 2) (v := .int 0) (C := r_2) (T := f_2) (N := 4) (ref := "java/lang/AbstractStringBuilder") hx hb hts (fun w h => List.mem_cons_of_mem _ (ly_2 w h)) hown hK hP 7 rfl rfl 3 (by decide) (hts _ (List.mem_cons_of_mem _ k63)) (fun _ h9 => h9) rfl d16_6_1 ?_
  exact fin_i hx hb hr hlk hS () rfl hP hD (Nat.le_of_ble_eq_true rfl) (Nat.le_of_ble_eq_true rfl) d16_6_4
set_option maxHeartbeats 4000000 in
set_option maxRecDepth 100000 in
theorem b22_93_25 (l : Launch) (G : Gk) (Zd q : Nat → Nat) (cw : Nat) (R : Nat → Option Nat) (Q : Nat → Nat → Option Nat) (pl : va_W)  (sz : Nat) : Met l y22_93 (Cond.code y22_93 prog_22_method_93_code 1 (some .int) :: TB) (rmD 1 0 0) (va_Pc [.ref (q 7)] (pcW G Zd (wC q G.2 cw cI0 cA0 R Q pl) sz)) (qI G (fun rr (_ : Unit) => rr = 0) (fun _ => (wC q G.2 cw cI0 cA0 R Q pl)) (va_A (wC q G.2 cw cI0 cA0 R Q pl) sz)) 0 0 (va_A (wC q G.2 cw cI0 cA0 R Q pl) sz) := by
  refine go (Qc := qI G (fun rr (_ : Unit) => rr = 0) (fun _ => (wC q G.2 cw cI0 cA0 R Q pl))) "java/lang/StringBuilder" rfl (by decide) (Nat.le_of_ble_eq_true rfl) ?_
  intro p e s m below meth c ls A hx hb hr hlk hml hown hts hin hl hP hD hK hS hA hZ
  have hl : lv_has ls 1 [(0, .ref (q 7))] := hl
  refine lv_aload_n hx hb d22_93_0 rfl (lv_at hl 0 rfl) ?_
  refine sSU_i (As := []) (rest := []) ⟨hx, hb, hml, hown, hts⟩ (b16_6_24 l G Zd q cw R Q pl _) (kw_SU (n := 0) hts k482 k481 k3 k476 k477 k72 (by decide +kernel) ⟨Nat.le_of_ble_eq_true rfl, Nat.le_of_ble_eq_true rfl⟩) hP hD hK hS hA hZ (hK.1 2 _ rfl).2 (va_recv (ci := 2) (q0 := 7) hK hP rfl rfl) rfl hl.1 rfl (Nat.le_of_ble_eq_true rfl) d22_93_1 ⟨Nat.le_of_ble_eq_true rfl, Nat.le_of_ble_eq_true rfl⟩ (fun rr u H locs hp hP hD hS => ?_)
  obtain rfl := hp
  refine W.eq (g2 := F0 m 4 ls [.int 0]) rfl ?_
  have hP : va_P G.1 vwCl (wC q G.2 cw cI0 cA0 R Q pl) H := hP
  have hD : va_D A (wC q G.2 cw cI0 cA0 R Q pl) := hD
  exact fin_i hx hb hr hlk hS () rfl hP hD (Nat.le_of_ble_eq_true rfl) (Nat.le_of_ble_eq_true rfl) d22_93_4
set_option maxHeartbeats 4000000 in
set_option maxRecDepth 100000 in
theorem tc_output (l : Launch) (G : Gk) (Zd q : Nat → Nat) (cw : Nat) (R : Nat → Option Nat) (Q : Nat → Nat → Option Nat) (pl : va_W) (i : Int32) (sz : Nat) : Met l y1_10 (Cond.code y1_10 prog_1_method_10_code 2 (some .int) :: TB) (rmD 2 0 0) (va_Pc [.ref (q 0), .int i] (pcW G Zd (wC q G.2 cw cI0 cA0 R Q pl) sz)) (qI G (fun rr (_ : Unit) => rr = -1) (fun _ => []) (va_A (wC q G.2 cw cI0 cA0 R Q pl) sz)) 0 0 (va_A (wC q G.2 cw cI0 cA0 R Q pl) sz) := by
  refine go (Qc := qI G (fun rr (_ : Unit) => rr = -1) (fun _ => [])) "PagedValues" rfl (by decide) (Nat.le_of_ble_eq_true rfl) ?_
  intro p e s m below meth c ls A hx hb hr hlk hml hown hts hin hl hP hD hK hS hA hZ
  have hl : lv_has ls 2 [(0, .ref (q 0)), (1, .int i)] := hl
  refine lv_iload_n hx hb d1_10_0 rfl (lv_at hl 1 rfl) ?_
  refine lv_if_lt (tgt := 26) hx hb d1_10_1 rfl (fun c1 => ?_) (fun c1 => ?_)
  ·
    refine lv_iconst (v := (-1)) hx hb d1_10_26 (by decide) ?_
    exact fin_i hx hb hr hlk hS () rfl (fun k q h => by simp at h) ⟨fun i j x y h => by simp at h, fun k q h => by simp at h⟩ (Nat.le_of_ble_eq_true rfl) (Nat.le_of_ble_eq_true rfl) d1_10_27
  ·
    refine lv_iload_n hx hb d1_10_4 rfl (lv_at hl 1 rfl) ?_
    refine lv_aload_n hx hb d1_10_5 rfl (lv_at hl 0 rfl) ?_
    refine va_get (D := G.1) (ci := 0) (v := .ref (q 7)) (C := r_0) (T := f_0) (N := 7) (ref := "PagedValues") hx hb hts (fun w h => List.mem_cons_of_mem _ (ly_0 w h)) hown hK hP 0 rfl rfl 6 (by decide) (hts _ (List.mem_cons_of_mem _ k276)) (fun _ h9 => h9) rfl d1_10_6 ?_
    refine sV_i (As := []) (rest := [.int i]) ⟨hx, hb, hml, hown, hts⟩ (b22_93_25 l G Zd q cw R Q pl _) (kw_V (n := 0) hts k480 k1088 k4 k479 k1664 (by decide +kernel) ⟨Nat.le_of_ble_eq_true rfl, Nat.le_of_ble_eq_true rfl⟩) hP hD hK hS hA hZ (va_recv (ci := 2) (q0 := 7) hK hP rfl rfl) rfl hl.1 rfl (Nat.le_of_ble_eq_true rfl) d1_10_9 ⟨Nat.le_of_ble_eq_true rfl, Nat.le_of_ble_eq_true rfl⟩ (fun rr u H locs hp hP hD hS => ?_)
    obtain rfl := hp
    refine W.eq (g2 := F0 m 12 ls [.int 0, .int i]) rfl ?_
    have hP : va_P G.1 vwCl (wC q G.2 cw cI0 cA0 R Q pl) H := hP
    have hD : va_D A (wC q G.2 cw cI0 cA0 R Q pl) := hD
    refine lv_icmp_ge (tgt := 26) hx hb d1_10_12 rfl (fun c2 => ?_) (fun c2 => absurd c2 (fun e9 => by have L9 := lits; have fc1 := c1; simp only [Int32.lt_iff_toInt_lt, Int32.le_iff_toInt_le, ← Int32.toInt_inj, ne_eq, Decidable.not_not] at fc1; have fe9 := e9; simp only [Int32.lt_iff_toInt_lt, Int32.le_iff_toInt_le, ← Int32.toInt_inj, ne_eq, Decidable.not_not] at fe9; omega))
    refine lv_iconst (v := (-1)) hx hb d1_10_26 (by decide) ?_
    exact fin_i hx hb hr hlk hS () rfl (fun k q h => by simp at h) ⟨fun i j x y h => by simp at h, fun k q h => by simp at h⟩ (Nat.le_of_ble_eq_true rfl) (Nat.le_of_ble_eq_true rfl) d1_10_27
set_option maxHeartbeats 4000000 in
set_option maxRecDepth 100000 in
theorem b10_2_26 (l : Launch) (G : Gk) (Zd q : Nat → Nat) (cw : Nat) (R : Nat → Option Nat) (Q : Nat → Nat → Option Nat) (pl : va_W)  (sz : Nat) : Met l y10_2 (Cond.code y10_2 prog_10_method_2_code 1 (some .int) :: TB) (rmD 0 0 0) (va_Pc [.ref (q 6)] (pcW G Zd (wC q G.2 cw cI0 (va_up cA0 4 (upd (cA0 4) (0 : Int32).toNatClampNeg (vp_nar .boolean 1))) R Q pl) sz)) (qI G (fun rr (_ : Unit) => rr = 0) (fun _ => (wC q G.2 cw cI0 (va_up cA0 4 (upd (cA0 4) (0 : Int32).toNatClampNeg (vp_nar .boolean 1))) R Q pl)) (va_A (wC q G.2 cw cI0 (va_up cA0 4 (upd (cA0 4) (0 : Int32).toNatClampNeg (vp_nar .boolean 1))) R Q pl) sz)) 0 0 (va_A (wC q G.2 cw cI0 (va_up cA0 4 (upd (cA0 4) (0 : Int32).toNatClampNeg (vp_nar .boolean 1))) R Q pl) sz) := by
  refine go (Qc := qI G (fun rr (_ : Unit) => rr = 0) (fun _ => (wC q G.2 cw cI0 (va_up cA0 4 (upd (cA0 4) (0 : Int32).toNatClampNeg (vp_nar .boolean 1))) R Q pl))) "PagedValues$Store" rfl (by decide) (Nat.le_of_ble_eq_true rfl) ?_
  intro p e s m below meth c ls A hx hb hr hlk hml hown hts hin hl hP hD hK hS hA hZ
  have hl : lv_has ls 1 [(0, .ref (q 6))] := hl
  refine lv_aload_n hx hb d10_2_0 rfl (lv_at hl 0 rfl) ?_
  refine va_get (D := G.1) (ci := 9) (v := .ref (q 17)) (C := r_9) (T := f_9) (N := 9) (ref := "PagedValues$Store") hx hb hts (fun w h => List.mem_cons_of_mem _ (ly_9 w h)) hown hK hP 6 rfl rfl 1 (by decide) (hts _ (List.mem_cons_of_mem _ k237)) (fun _ h9 => h9) rfl d10_2_1 ?_
  refine lv_iconst (v := 1) hx hb d10_2_4 (by decide) ?_
  refine va_iald (D := G.1) hx hb hK hP 17 1 rfl rfl (i := 1) (by unfold vp_in; decide) d10_2_5 ?_
  refine W.eq (g2 := F0 m 6 ls [.int 0]) rfl ?_
  refine lv_aload_n hx hb d10_2_6 rfl (lv_at hl 0 rfl) ?_
  refine va_get (D := G.1) (ci := 9) (v := .ref (q 17)) (C := r_9) (T := f_9) (N := 9) (ref := "PagedValues$Store") hx hb hts (fun w h => List.mem_cons_of_mem _ (ly_9 w h)) hown hK hP 6 rfl rfl 1 (by decide) (hts _ (List.mem_cons_of_mem _ k237)) (fun _ h9 => h9) rfl d10_2_7 ?_
  refine lv_iconst (v := 0) hx hb d10_2_10 (by decide) ?_
  refine va_iald (D := G.1) hx hb hK hP 17 1 rfl rfl (i := 0) (by unfold vp_in; decide) d10_2_11 ?_
  refine W.eq (g2 := F0 m 12 ls [.int 0, .int 0]) rfl ?_
  refine lv_icmp_le (tgt := 19) hx hb d10_2_12 rfl (fun _ => ?_) (fun hc => absurd hc (by decide))
  refine lv_iconst (v := 0) hx hb d10_2_19 (by decide) ?_
  exact fin_i hx hb hr hlk hS () rfl hP hD (Nat.le_of_ble_eq_true rfl) (Nat.le_of_ble_eq_true rfl) d10_2_20
set_option maxHeartbeats 4000000 in
set_option maxRecDepth 100000 in
theorem b10_3_27 (l : Launch) (G : Gk) (Zd q : Nat → Nat) (cw : Nat) (R : Nat → Option Nat) (Q : Nat → Nat → Option Nat) (pl : va_W)  (sz : Nat) : Met l y10_3 (Cond.code y10_3 prog_10_method_3_code 1 (some .int) :: TB) (rmD 1 0 0) (va_Pc [.ref (q 6)] (pcW G Zd (wC q G.2 cw cI0 (va_up cA0 4 (upd (cA0 4) (0 : Int32).toNatClampNeg (vp_nar .boolean 1))) R Q pl) sz)) (qI G (fun rr (_ : Unit) => rr = (-1)) (fun _ => (wC q G.2 cw cI0 (va_up cA0 4 (upd (cA0 4) (0 : Int32).toNatClampNeg (vp_nar .boolean 1))) R Q pl)) (va_A (wC q G.2 cw cI0 (va_up cA0 4 (upd (cA0 4) (0 : Int32).toNatClampNeg (vp_nar .boolean 1))) R Q pl) sz)) 0 0 (va_A (wC q G.2 cw cI0 (va_up cA0 4 (upd (cA0 4) (0 : Int32).toNatClampNeg (vp_nar .boolean 1))) R Q pl) sz) := by
  refine go (Qc := qI G (fun rr (_ : Unit) => rr = (-1)) (fun _ => (wC q G.2 cw cI0 (va_up cA0 4 (upd (cA0 4) (0 : Int32).toNatClampNeg (vp_nar .boolean 1))) R Q pl))) "PagedValues$Store" rfl (by decide) (Nat.le_of_ble_eq_true rfl) ?_
  intro p e s m below meth c ls A hx hb hr hlk hml hown hts hin hl hP hD hK hS hA hZ
  have hl : lv_has ls 1 [(0, .ref (q 6))] := hl
  refine lv_aload_n hx hb d10_3_0 rfl (lv_at hl 0 rfl) ?_
  refine va_get (D := G.1) (ci := 9) (v := .ref (q 18)) (C := r_9) (T := f_9) (N := 9) (ref := "PagedValues$Store") hx hb hts (fun w h => List.mem_cons_of_mem _ (ly_9 w h)) hown hK hP 6 rfl rfl 2 (by decide) (hts _ (List.mem_cons_of_mem _ k239)) (fun _ h9 => h9) rfl d10_3_1 ?_
  refine lv_aload_n hx hb d10_3_4 rfl (lv_at hl 0 rfl) ?_
  refine sV_i (As := []) (rest := [.ref (q 18)]) ⟨hx, hb, hml, hown, hts⟩ (b10_2_26 l G Zd q cw R Q pl _) (kw_V (n := 0) hts k690 k687 k13 k688 k689 (by decide +kernel) ⟨Nat.le_of_ble_eq_true rfl, Nat.le_of_ble_eq_true rfl⟩) hP hD hK hS hA hZ (va_recv (ci := 9) (q0 := 6) hK hP rfl rfl) rfl hl.1 rfl (Nat.le_of_ble_eq_true rfl) d10_3_5 ⟨Nat.le_of_ble_eq_true rfl, Nat.le_of_ble_eq_true rfl⟩ (fun rr u H locs hp hP hD hS => ?_)
  obtain rfl := hp
  refine W.eq (g2 := F0 m 8 ls [.int 0, .ref (q 18)]) rfl ?_
  have hP : va_P G.1 vwCl (wC q G.2 cw cI0 (va_up cA0 4 (upd (cA0 4) (0 : Int32).toNatClampNeg (vp_nar .boolean 1))) R Q pl) H := hP
  have hD : va_D A (wC q G.2 cw cI0 (va_up cA0 4 (upd (cA0 4) (0 : Int32).toNatClampNeg (vp_nar .boolean 1))) R Q pl) := hD
  refine va_iald (D := G.1) hx hb hK hP 18 1 rfl rfl (i := 0) (by unfold vp_in; decide) d10_3_8 ?_
  refine W.eq (g2 := F0 m 9 ls [.int (-1)]) rfl ?_
  exact fin_i hx hb hr hlk hS () rfl hP hD (Nat.le_of_ble_eq_true rfl) (Nat.le_of_ble_eq_true rfl) d10_3_9
set_option maxHeartbeats 4000000 in
set_option maxRecDepth 100000 in
theorem b10_7_28 (l : Launch) (G : Gk) (Zd q : Nat → Nat) (cw : Nat) (R : Nat → Option Nat) (Q : Nat → Nat → Option Nat) (pl : va_W)  (sz : Nat) : Met l y10_7 (Cond.code y10_7 prog_10_method_7_code 2 (some .int) :: TB) (rmD 2 0 0) (va_Pc [.ref (q 6)] (pcW G Zd (wC q G.2 cw cI0 cA0 R Q pl) sz)) (qI G (fun rr (_ : Unit) => rr = 0) (fun _ => (wC q G.2 cw cI0 (va_up (va_up cA0 4 (upd (cA0 4) (0 : Int32).toNatClampNeg (vp_nar .boolean 1))) 5 (upd (cA0 5) (0 : Int32).toNatClampNeg (-1))) R Q pl)) (va_A (wC q G.2 cw cI0 cA0 R Q pl) sz)) 0 0 (va_A (wC q G.2 cw cI0 cA0 R Q pl) sz) := by
  refine go (Qc := qI G (fun rr (_ : Unit) => rr = 0) (fun _ => (wC q G.2 cw cI0 (va_up (va_up cA0 4 (upd (cA0 4) (0 : Int32).toNatClampNeg (vp_nar .boolean 1))) 5 (upd (cA0 5) (0 : Int32).toNatClampNeg (-1))) R Q pl))) "PagedValues$Store" rfl (by decide) (Nat.le_of_ble_eq_true rfl) ?_
  intro p e s m below meth c ls A hx hb hr hlk hml hown hts hin hl hP hD hK hS hA hZ
  have hl : lv_has ls 2 [(0, .ref (q 6))] := hl
  refine lv_iconst (v := 0) hx hb d10_7_0 (by decide) ?_
  refine lv_istore_n (lv' := [(1, .int 0), (0, .ref (q 6))]) hx hb d10_7_1 rfl hl (by decide) rfl (fun ls hl => ?_)
  refine lv_iload_n hx hb d10_7_2 rfl (lv_at hl 0 rfl) ?_
  refine lv_iconst (v := 3) hx hb d10_7_3 (by decide) ?_
  refine lv_icmp_ge (tgt := 41) hx hb d10_7_4 rfl (fun hc => absurd hc (by decide)) (fun _ => ?_)
  refine lv_aload_n hx hb d10_7_7 rfl (lv_at hl 1 rfl) ?_
  refine va_get (D := G.1) (ci := 9) (v := .ref (q 19)) (C := r_9) (T := f_9) (N := 9) (ref := "PagedValues$Store") hx hb hts (fun w h => List.mem_cons_of_mem _ (ly_9 w h)) hown hK hP 6 rfl rfl 3 (by decide) (hts _ (List.mem_cons_of_mem _ k240)) (fun _ h9 => h9) rfl d10_7_8 ?_
  refine lv_iload_n hx hb d10_7_11 rfl (lv_at hl 0 rfl) ?_
  refine va_zald (D := G.1) hx hb hK hP 19 3 rfl rfl (i := 0) (by unfold vp_in; decide) d10_7_12 ?_
  refine W.eq (g2 := F0 m 13 ls [.int 0]) rfl ?_
  refine lv_if_ne (tgt := 35) hx hb d10_7_13 rfl (fun hc => absurd hc (by decide)) (fun _ => ?_)
  refine lv_aload_n hx hb d10_7_16 rfl (lv_at hl 1 rfl) ?_
  refine va_get (D := G.1) (ci := 9) (v := .ref (q 19)) (C := r_9) (T := f_9) (N := 9) (ref := "PagedValues$Store") hx hb hts (fun w h => List.mem_cons_of_mem _ (ly_9 w h)) hown hK hP 6 rfl rfl 3 (by decide) (hts _ (List.mem_cons_of_mem _ k240)) (fun _ h9 => h9) rfl d10_7_17 ?_
  refine lv_iload_n hx hb d10_7_20 rfl (lv_at hl 0 rfl) ?_
  refine lv_iconst (v := 1) hx hb d10_7_21 (by decide) ?_
  refine va_zast (D := G.1) hx hb hK hP hD hS 19 3 rfl rfl (i := 0) (x := 1) (by unfold vp_in; decide) d10_7_22 (fun H locs hP hD hS => ?_)
  have hP : va_P G.1 vwCl (wC q G.2 cw cI0 (va_up cA0 4 (upd (cA0 4) (0 : Int32).toNatClampNeg (vp_nar .boolean 1))) R Q pl) H := hP
  have hD : va_D A (wC q G.2 cw cI0 (va_up cA0 4 (upd (cA0 4) (0 : Int32).toNatClampNeg (vp_nar .boolean 1))) R Q pl) := hD
  refine lv_aload_n hx hb d10_7_23 rfl (lv_at hl 1 rfl) ?_
  refine va_get (D := G.1) (ci := 9) (v := .ref (q 20)) (C := r_9) (T := f_9) (N := 9) (ref := "PagedValues$Store") hx hb hts (fun w h => List.mem_cons_of_mem _ (ly_9 w h)) hown hK hP 6 rfl rfl 4 (by decide) (hts _ (List.mem_cons_of_mem _ k241)) (fun _ h9 => h9) rfl d10_7_24 ?_
  refine lv_iload_n hx hb d10_7_27 rfl (lv_at hl 0 rfl) ?_
  refine lv_aload_n hx hb d10_7_28 rfl (lv_at hl 1 rfl) ?_
  refine sV_i (As := []) (rest := [.int 0, .ref (q 20)]) ⟨hx, hb, hml, hown, hts⟩ (b10_3_27 l G Zd q cw R Q pl _) (kw_V (n := 0) hts k686 k683 k13 k684 k685 (by decide +kernel) ⟨Nat.le_of_ble_eq_true rfl, Nat.le_of_ble_eq_true rfl⟩) hP hD hK hS hA hZ (va_recv (ci := 9) (q0 := 6) hK hP rfl rfl) rfl hl.1 rfl (Nat.le_of_ble_eq_true rfl) d10_7_29 ⟨Nat.le_of_ble_eq_true rfl, Nat.le_of_ble_eq_true rfl⟩ (fun rr u H locs hp hP hD hS => ?_)
  obtain rfl := hp
  refine W.eq (g2 := F0 m 32 ls [.int (-1), .int 0, .ref (q 20)]) rfl ?_
  have hP : va_P G.1 vwCl (wC q G.2 cw cI0 (va_up cA0 4 (upd (cA0 4) (0 : Int32).toNatClampNeg (vp_nar .boolean 1))) R Q pl) H := hP
  have hD : va_D A (wC q G.2 cw cI0 (va_up cA0 4 (upd (cA0 4) (0 : Int32).toNatClampNeg (vp_nar .boolean 1))) R Q pl) := hD
  refine va_iast (D := G.1) hx hb hK hP hD hS 20 1 rfl rfl (i := 0) (x := (-1)) (by unfold vp_in; decide) d10_7_32 (fun H locs hP hD hS => ?_)
  have hP : va_P G.1 vwCl (wC q G.2 cw cI0 (va_up (va_up cA0 4 (upd (cA0 4) (0 : Int32).toNatClampNeg (vp_nar .boolean 1))) 5 (upd (cA0 5) (0 : Int32).toNatClampNeg (-1))) R Q pl) H := hP
  have hD : va_D A (wC q G.2 cw cI0 (va_up (va_up cA0 4 (upd (cA0 4) (0 : Int32).toNatClampNeg (vp_nar .boolean 1))) 5 (upd (cA0 5) (0 : Int32).toNatClampNeg (-1))) R Q pl) := hD
  refine lv_iload_n hx hb d10_7_33 rfl (lv_at hl 0 rfl) ?_
  exact fin_i hx hb hr hlk hS () rfl hP hD (Nat.le_of_ble_eq_true rfl) (Nat.le_of_ble_eq_true rfl) d10_7_34
set_option maxHeartbeats 4000000 in
set_option maxRecDepth 100000 in
theorem tc_open (l : Launch) (G : Gk) (Zd q : Nat → Nat) (cw : Nat) (R : Nat → Option Nat) (Q : Nat → Nat → Option Nat) (pl : va_W)  (sz : Nat) : Met l y1_11 (Cond.code y1_11 prog_1_method_11_code 1 (some .int) :: TB) (rmD 3 0 0) (va_Pc [.ref (q 0)] (pcW G Zd (wC q G.2 cw cI0 cA0 R Q pl) sz)) (qI G (fun rr (_ : Unit) => rr = 0) (fun _ => []) (va_A (wC q G.2 cw cI0 cA0 R Q pl) sz)) 0 0 (va_A (wC q G.2 cw cI0 cA0 R Q pl) sz) := by
  refine go (Qc := qI G (fun rr (_ : Unit) => rr = 0) (fun _ => [])) "PagedValues" rfl (by decide) (Nat.le_of_ble_eq_true rfl) ?_
  intro p e s m below meth c ls A hx hb hr hlk hml hown hts hin hl hP hD hK hS hA hZ
  have hl : lv_has ls 1 [(0, .ref (q 0))] := hl
  refine lv_aload_n hx hb d1_11_0 rfl (lv_at hl 0 rfl) ?_
  refine va_get (D := G.1) (ci := 0) (v := .ref (q 6)) (C := r_0) (T := f_0) (N := 7) (ref := "PagedValues") hx hb hts (fun w h => List.mem_cons_of_mem _ (ly_0 w h)) hown hK hP 0 rfl rfl 5 (by decide) (hts _ (List.mem_cons_of_mem _ k275)) (fun _ h9 => h9) rfl d1_11_1 ?_
  refine va_getN (D := G.1) (ci := 9) (v := .int 0) (C := r_9) (T := f_9) (N := 9) (ref := "PagedValues$Store") hx hb hts (fun w h => List.mem_cons_of_mem _ (ly_9 w h)) hown hK hP 6 rfl rfl 8 (by decide) (va_Nw.use rfl (hZ.1 _ kn247)) (fun _ h9 => h9) rfl d1_11_4 ?_
  refine lv_if_eq (tgt := 15) hx hb d1_11_7 rfl (fun _ => ?_) (fun hc => absurd hc (by decide))
  refine lv_aload_n hx hb d1_11_15 rfl (lv_at hl 0 rfl) ?_
  refine va_get (D := G.1) (ci := 0) (v := .ref (q 6)) (C := r_0) (T := f_0) (N := 7) (ref := "PagedValues") hx hb hts (fun w h => List.mem_cons_of_mem _ (ly_0 w h)) hown hK hP 0 rfl rfl 5 (by decide) (hts _ (List.mem_cons_of_mem _ k275)) (fun _ h9 => h9) rfl d1_11_16 ?_
  refine sV_i (As := []) (rest := []) ⟨hx, hb, hml, hown, hts⟩ (b10_7_28 l G Zd q cw R Q pl _) (kw_V (n := 0) hts k1114 k1111 k13 k1112 k1113 (by decide +kernel) ⟨Nat.le_of_ble_eq_true rfl, Nat.le_of_ble_eq_true rfl⟩) hP hD hK hS hA hZ (va_recv (ci := 9) (q0 := 6) hK hP rfl rfl) rfl hl.1 rfl (Nat.le_of_ble_eq_true rfl) d1_11_19 ⟨Nat.le_of_ble_eq_true rfl, Nat.le_of_ble_eq_true rfl⟩ (fun rr u H locs hp hP hD hS => ?_)
  obtain rfl := hp
  refine W.eq (g2 := F0 m 22 ls [.int 0]) rfl ?_
  have hP : va_P G.1 vwCl (wC q G.2 cw cI0 (va_up (va_up cA0 4 (upd (cA0 4) (0 : Int32).toNatClampNeg (vp_nar .boolean 1))) 5 (upd (cA0 5) (0 : Int32).toNatClampNeg (-1))) R Q pl) H := hP
  have hD : va_D A (wC q G.2 cw cI0 (va_up (va_up cA0 4 (upd (cA0 4) (0 : Int32).toNatClampNeg (vp_nar .boolean 1))) 5 (upd (cA0 5) (0 : Int32).toNatClampNeg (-1))) R Q pl) := hD
  exact fin_i hx hb hr hlk hS () rfl (fun k q h => by simp at h) ⟨fun i j x y h => by simp at h, fun k q h => by simp at h⟩ (Nat.le_of_ble_eq_true rfl) (Nat.le_of_ble_eq_true rfl) d1_11_22
set_option maxHeartbeats 4000000 in
set_option maxRecDepth 100000 in
theorem tc_restart (l : Launch) (G : Gk) (Zd q : Nat → Nat) (cw : Nat) (R : Nat → Option Nat) (Q : Nat → Nat → Option Nat) (pl : va_W)  (sz : Nat) : Met l y1_14 (Cond.code y1_14 prog_1_method_14_code 2 (some .boolean) :: TB) (rmD 0 0 0) (va_Pc [.ref (q 0)] (pcW G Zd (wC q G.2 cw cI0 cA0 R Q pl) sz)) (qI G (fun rr (_ : Unit) => rr = 0) (fun _ => []) (va_A (wC q G.2 cw cI0 cA0 R Q pl) sz)) 0 0 (va_A (wC q G.2 cw cI0 cA0 R Q pl) sz) := by
  refine go (Qc := qI G (fun rr (_ : Unit) => rr = 0) (fun _ => [])) "PagedValues" rfl (by decide) (Nat.le_of_ble_eq_true rfl) ?_
  intro p e s m below meth c ls A hx hb hr hlk hml hown hts hin hl hP hD hK hS hA hZ
  have hl : lv_has ls 2 [(0, .ref (q 0))] := hl
  refine lv_aload_n hx hb d1_14_0 rfl (lv_at hl 0 rfl) ?_
  refine va_get (D := G.1) (ci := 0) (v := .ref (q 6)) (C := r_0) (T := f_0) (N := 7) (ref := "PagedValues") hx hb hts (fun w h => List.mem_cons_of_mem _ (ly_0 w h)) hown hK hP 0 rfl rfl 5 (by decide) (hts _ (List.mem_cons_of_mem _ k275)) (fun _ h9 => h9) rfl d1_14_1 ?_
  refine va_getN (D := G.1) (ci := 9) (v := .int 0) (C := r_9) (T := f_9) (N := 9) (ref := "PagedValues$Store") hx hb hts (fun w h => List.mem_cons_of_mem _ (ly_9 w h)) hown hK hP 6 rfl rfl 8 (by decide) (va_Nw.use rfl (hZ.1 _ kn247)) (fun _ h9 => h9) rfl d1_14_4 ?_
  refine lv_istore_n (lv' := [(1, .int 0), (0, .ref (q 0))]) hx hb d1_14_7 rfl hl (by decide) rfl (fun ls hl => ?_)
  refine lv_aload_n hx hb d1_14_8 rfl (lv_at hl 1 rfl) ?_
  refine va_get (D := G.1) (ci := 0) (v := .ref (q 6)) (C := r_0) (T := f_0) (N := 7) (ref := "PagedValues") hx hb hts (fun w h => List.mem_cons_of_mem _ (ly_0 w h)) hown hK hP 0 rfl rfl 5 (by decide) (hts _ (List.mem_cons_of_mem _ k275)) (fun _ h9 => h9) rfl d1_14_9 ?_
  refine lv_iconst (v := 0) hx hb d1_14_12 (by decide) ?_
  refine va_putN (D := G.1) (ci := 9) (v := .int 0) (ty := .boolean) (C := r_9) (T := f_9) (N := 9) (ref := "PagedValues$Store") hx hb hts (fun w h => List.mem_cons_of_mem _ (ly_9 w h)) ft_9 ft_9_ok nm_9 hown hK hP hD hS 6 rfl rfl 8 (by decide) (va_Nw.use rfl (hZ.1 _ kn247)) (fun _ h9 => h9) rfl (by decide +kernel) (by decide) (by decide) (Nat.le_of_ble_eq_true rfl) d1_14_13 (fun H locs hP hD hS => ?_)
  have hP : va_P G.1 vwCl (wC q G.2 cw (upd cI0 11 0) cA0 R Q pl) H := hP
  have hD : va_D A (wC q G.2 cw (upd cI0 11 0) cA0 R Q pl) := hD
  refine lv_iload_n hx hb d1_14_16 rfl (lv_at hl 0 rfl) ?_
  exact fin_z hx hb hr hlk (by decide) hS () rfl (fun k q h => by simp at h) ⟨fun i j x y h => by simp at h, fun k q h => by simp at h⟩ (Nat.le_of_ble_eq_true rfl) (Nat.le_of_ble_eq_true rfl) d1_14_17
set_option maxHeartbeats 4000000 in
set_option maxRecDepth 100000 in
theorem tc_fuse (l : Launch) (G : Gk) (Zd q : Nat → Nat) (cw : Nat) (R : Nat → Option Nat) (Q : Nat → Nat → Option Nat) (pl : va_W) (k : Int32) (sz : Nat) : Met l y1_13 (Cond.code y1_13 prog_1_method_13_code 2 (some .boolean) :: TB) (rmD 0 0 0) (va_Pc [.ref (q 0), .int k] (pcW G Zd (wC q G.2 cw cI0 cA0 R Q pl) sz)) (qI G (fun rr (_ : Unit) => rr = an_fuse k) (fun _ => []) (va_A (wC q G.2 cw cI0 cA0 R Q pl) sz)) 0 0 (va_A (wC q G.2 cw cI0 cA0 R Q pl) sz) := by
  refine go (Qc := qI G (fun rr (_ : Unit) => rr = an_fuse k) (fun _ => [])) "PagedValues" rfl (by decide) (Nat.le_of_ble_eq_true rfl) ?_
  intro p e s m below meth c ls A hx hb hr hlk hml hown hts hin hl hP hD hK hS hA hZ
  have hl : lv_has ls 2 [(0, .ref (q 0)), (1, .int k)] := hl
  refine lv_aload_n hx hb d1_13_0 rfl (lv_at hl 0 rfl) ?_
  refine va_get (D := G.1) (ci := 0) (v := .ref (q 6)) (C := r_0) (T := f_0) (N := 7) (ref := "PagedValues") hx hb hts (fun w h => List.mem_cons_of_mem _ (ly_0 w h)) hown hK hP 0 rfl rfl 5 (by decide) (hts _ (List.mem_cons_of_mem _ k275)) (fun _ h9 => h9) rfl d1_13_1 ?_
  refine va_getN (D := G.1) (ci := 9) (v := .int 0) (C := r_9) (T := f_9) (N := 9) (ref := "PagedValues$Store") hx hb hts (fun w h => List.mem_cons_of_mem _ (ly_9 w h)) hown hK hP 6 rfl rfl 8 (by decide) (va_Nw.use rfl (hZ.1 _ kn247)) (fun _ h9 => h9) rfl d1_13_4 ?_
  refine lv_if_ne (tgt := 21) hx hb d1_13_7 rfl (fun hc => absurd hc (by decide)) (fun _ => ?_)
  refine lv_iload_n hx hb d1_13_10 rfl (lv_at hl 1 rfl) ?_
  refine lv_iconst (v := 1) hx hb d1_13_11 (by decide) ?_
  refine lv_icmp_lt (tgt := 21) hx hb d1_13_12 rfl (fun c1 => ?_) (fun c1 => ?_)
  ·
    refine lv_iconst (v := 0) hx hb d1_13_21 (by decide) ?_
    exact fin_z hx hb hr hlk (by decide) hS () (if_neg (show ¬ (1 ≤ k.toInt ∧ k.toInt ≤ 20) by have L9 := lits; have fc1 := c1; (first | replace fc1 := wt_0 fc1 | replace fc1 := wt_1 fc1 | replace fc1 := an_rd_0 fc1 | simp only [Int32.lt_iff_toInt_lt, Int32.le_iff_toInt_le, ← Int32.toInt_inj, ne_eq] at fc1 | skip); omega)).symm (fun k q h => by simp at h) ⟨fun i j x y h => by simp at h, fun k q h => by simp at h⟩ (Nat.le_of_ble_eq_true rfl) (Nat.le_of_ble_eq_true rfl) d1_13_22
  ·
    refine lv_iload_n hx hb d1_13_15 rfl (lv_at hl 1 rfl) ?_
    refine lv_bipush (v := 20) hx hb d1_13_16 (by decide) ?_
    refine lv_icmp_le (tgt := 23) hx hb d1_13_18 rfl (fun c2 => ?_) (fun c2 => ?_)
    ·
      refine lv_aload_n hx hb d1_13_23 rfl (lv_at hl 0 rfl) ?_
      refine va_get (D := G.1) (ci := 0) (v := .ref (q 6)) (C := r_0) (T := f_0) (N := 7) (ref := "PagedValues") hx hb hts (fun w h => List.mem_cons_of_mem _ (ly_0 w h)) hown hK hP 0 rfl rfl 5 (by decide) (hts _ (List.mem_cons_of_mem _ k275)) (fun _ h9 => h9) rfl d1_13_24 ?_
      refine lv_iload_n hx hb d1_13_27 rfl (lv_at hl 1 rfl) ?_
      refine va_putN (D := G.1) (ci := 9) (v := .int k) (ty := .int) (C := r_9) (T := f_9) (N := 9) (ref := "PagedValues$Store") hx hb hts (fun w h => List.mem_cons_of_mem _ (ly_9 w h)) ft_9 ft_9_ok nm_9 hown hK hP hD hS 6 rfl rfl 7 (by decide) (va_Nw.use rfl (hZ.1 _ kn245)) (fun _ h9 => h9) rfl (by decide +kernel) rfl rfl (Nat.le_of_ble_eq_true rfl) d1_13_28 (fun H locs hP hD hS => ?_)
      have hP : va_P G.1 vwCl (wC q G.2 cw (upd cI0 10 k) cA0 R Q pl) H := hP
      have hD : va_D A (wC q G.2 cw (upd cI0 10 k) cA0 R Q pl) := hD
      refine lv_iconst (v := 1) hx hb d1_13_31 (by decide) ?_
      exact fin_z hx hb hr hlk (by decide) hS () (if_pos (show 1 ≤ k.toInt ∧ k.toInt ≤ 20 by have L9 := lits; have fc1 := c1; (first | replace fc1 := wt_0 fc1 | replace fc1 := wt_1 fc1 | replace fc1 := an_rd_0 fc1 | simp only [Int32.lt_iff_toInt_lt, Int32.le_iff_toInt_le, ← Int32.toInt_inj, ne_eq] at fc1 | skip); have fc2 := c2; (first | replace fc2 := wt_0 fc2 | replace fc2 := wt_1 fc2 | replace fc2 := an_rd_0 fc2 | simp only [Int32.lt_iff_toInt_lt, Int32.le_iff_toInt_le, ← Int32.toInt_inj, ne_eq] at fc2 | skip); omega)).symm (fun k q h => by simp at h) ⟨fun i j x y h => by simp at h, fun k q h => by simp at h⟩ (Nat.le_of_ble_eq_true rfl) (Nat.le_of_ble_eq_true rfl) d1_13_32
    ·
      refine lv_iconst (v := 0) hx hb d1_13_21 (by decide) ?_
      exact fin_z hx hb hr hlk (by decide) hS () (if_neg (show ¬ (1 ≤ k.toInt ∧ k.toInt ≤ 20) by have L9 := lits; have fc1 := c1; (first | replace fc1 := wt_0 fc1 | replace fc1 := wt_1 fc1 | replace fc1 := an_rd_0 fc1 | simp only [Int32.lt_iff_toInt_lt, Int32.le_iff_toInt_le, ← Int32.toInt_inj, ne_eq] at fc1 | skip); have fc2 := c2; (first | replace fc2 := wt_0 fc2 | replace fc2 := wt_1 fc2 | replace fc2 := an_rd_0 fc2 | simp only [Int32.lt_iff_toInt_lt, Int32.le_iff_toInt_le, ← Int32.toInt_inj, ne_eq] at fc2 | skip); omega)).symm (fun k q h => by simp at h) ⟨fun i j x y h => by simp at h, fun k q h => by simp at h⟩ (Nat.le_of_ble_eq_true rfl) (Nat.le_of_ble_eq_true rfl) d1_13_22
set_option maxHeartbeats 4000000 in
set_option maxRecDepth 100000 in
theorem tc_page (l : Launch) (G : Gk) (Zd q : Nat → Nat) (cw : Nat) (R : Nat → Option Nat) (Q : Nat → Nat → Option Nat) (pl : va_W) (n : Int32) (sz : Nat) : Met l y1_15 (Cond.code y1_15 prog_1_method_15_code 2 (some .int) :: TB) (rmD 3 0 0) (va_Pc [.ref (q 0), .int n] (pcW G Zd (wC q G.2 cw cI0 cA0 R Q pl) sz)) (qI G (fun rr (_ : Unit) => rr = an_page n) (fun _ => []) (va_A (wC q G.2 cw cI0 cA0 R Q pl) sz)) 0 0 (va_A (wC q G.2 cw cI0 cA0 R Q pl) sz) := by
  refine go (Qc := qI G (fun rr (_ : Unit) => rr = an_page n) (fun _ => [])) "PagedValues" rfl (by decide) (Nat.le_of_ble_eq_true rfl) ?_
  intro p e s m below meth c ls A hx hb hr hlk hml hown hts hin hl hP hD hK hS hA hZ
  have hl : lv_has ls 2 [(0, .ref (q 0)), (1, .int n)] := hl
  refine lv_iload_n hx hb d1_15_0 rfl (lv_at hl 1 rfl) ?_
  refine lv_if_lt (tgt := 21) hx hb d1_15_1 rfl (fun c1 => ?_) (fun c1 => ?_)
  ·
    refine lv_iconst (v := (-1)) hx hb d1_15_21 (by decide) ?_
    exact fin_i hx hb hr hlk hS () (if_neg (show ¬ (0 ≤ n.toInt ∧ n.toInt ≤ 11) by have L9 := lits; have fc1 := c1; (first | replace fc1 := wt_0 fc1 | replace fc1 := wt_1 fc1 | replace fc1 := an_rd_0 fc1 | simp only [Int32.lt_iff_toInt_lt, Int32.le_iff_toInt_le, ← Int32.toInt_inj, ne_eq] at fc1 | skip); omega)).symm (fun k q h => by simp at h) ⟨fun i j x y h => by simp at h, fun k q h => by simp at h⟩ (Nat.le_of_ble_eq_true rfl) (Nat.le_of_ble_eq_true rfl) d1_15_22
  ·
    refine lv_iload_n hx hb d1_15_4 rfl (lv_at hl 1 rfl) ?_
    refine lv_bipush (v := 12) hx hb d1_15_5 (by decide) ?_
    refine lv_icmp_ge (tgt := 21) hx hb d1_15_7 rfl (fun c2 => ?_) (fun c2 => ?_)
    ·
      refine lv_iconst (v := (-1)) hx hb d1_15_21 (by decide) ?_
      exact fin_i hx hb hr hlk hS () (if_neg (show ¬ (0 ≤ n.toInt ∧ n.toInt ≤ 11) by have L9 := lits; have fc1 := c1; (first | replace fc1 := wt_0 fc1 | replace fc1 := wt_1 fc1 | replace fc1 := an_rd_0 fc1 | simp only [Int32.lt_iff_toInt_lt, Int32.le_iff_toInt_le, ← Int32.toInt_inj, ne_eq] at fc1 | skip); have fc2 := c2; (first | replace fc2 := wt_0 fc2 | replace fc2 := wt_1 fc2 | replace fc2 := an_rd_0 fc2 | simp only [Int32.lt_iff_toInt_lt, Int32.le_iff_toInt_le, ← Int32.toInt_inj, ne_eq] at fc2 | skip); omega)).symm (fun k q h => by simp at h) ⟨fun i j x y h => by simp at h, fun k q h => by simp at h⟩ (Nat.le_of_ble_eq_true rfl) (Nat.le_of_ble_eq_true rfl) d1_15_22
    ·
      refine lv_aload_n hx hb d1_15_10 rfl (lv_at hl 0 rfl) ?_
      refine va_get (D := G.1) (ci := 0) (v := .ref (q 6)) (C := r_0) (T := f_0) (N := 7) (ref := "PagedValues") hx hb hts (fun w h => List.mem_cons_of_mem _ (ly_0 w h)) hown hK hP 0 rfl rfl 5 (by decide) (hts _ (List.mem_cons_of_mem _ k275)) (fun _ h9 => h9) rfl d1_15_11 ?_
      refine lv_iload_n hx hb d1_15_14 rfl (lv_at hl 1 rfl) ?_
      refine sV_i (As := [.int n]) (rest := []) ⟨hx, hb, hml, hown, hts⟩ (bc_useOf l G Zd q cw R Q pl n (by have L9 := lits; have fc1 := c1; simp only [Int32.lt_iff_toInt_lt, Int32.le_iff_toInt_le, ← Int32.toInt_inj, ne_eq] at fc1; have fc2 := c2; simp only [Int32.lt_iff_toInt_lt, Int32.le_iff_toInt_le, ← Int32.toInt_inj, ne_eq] at fc2; omega) _) (kw_V (n := 1) hts k711 k1135 k13 k709 k710 (by decide +kernel) ⟨Nat.le_of_ble_eq_true rfl, Nat.le_of_ble_eq_true rfl⟩) hP hD hK hS hA hZ (va_recv (ci := 9) (q0 := 6) hK hP rfl rfl) rfl hl.1 rfl (Nat.le_of_ble_eq_true rfl) d1_15_15 ⟨Nat.le_of_ble_eq_true rfl, Nat.le_of_ble_eq_true rfl⟩ (fun rr u H locs hp hP hD hS => ?_)
      obtain rfl := hp
      refine W.eq (g2 := F0 m 18 ls [.int 0]) rfl ?_
      have hP : va_P G.1 vwCl (wC q G.2 cw cI0 cA0 R Q pl) H := hP
      have hD : va_D A (wC q G.2 cw cI0 cA0 R Q pl) := hD
      refine lv_goto (tgt := 22) hx hb d1_15_18 rfl ?_
      exact fin_i hx hb hr hlk hS () (if_pos (show 0 ≤ n.toInt ∧ n.toInt ≤ 11 by have L9 := lits; have fc1 := c1; (first | replace fc1 := wt_0 fc1 | replace fc1 := wt_1 fc1 | replace fc1 := an_rd_0 fc1 | simp only [Int32.lt_iff_toInt_lt, Int32.le_iff_toInt_le, ← Int32.toInt_inj, ne_eq] at fc1 | skip); have fc2 := c2; (first | replace fc2 := wt_0 fc2 | replace fc2 := wt_1 fc2 | replace fc2 := an_rd_0 fc2 | simp only [Int32.lt_iff_toInt_lt, Int32.le_iff_toInt_le, ← Int32.toInt_inj, ne_eq] at fc2 | skip); omega)).symm (fun k q h => by simp at h) ⟨fun i j x y h => by simp at h, fun k q h => by simp at h⟩ (Nat.le_of_ble_eq_true rfl) (Nat.le_of_ble_eq_true rfl) d1_15_22
set_option maxHeartbeats 4000000 in
set_option maxRecDepth 100000 in
theorem b10_4_29 (l : Launch) (G : Gk) (Zd q : Nat → Nat) (cw : Nat) (R : Nat → Option Nat) (Q : Nat → Nat → Option Nat) (pl : va_W)  (sz : Nat) : Met l y10_4 (Cond.code y10_4 prog_10_method_4_code 2 (some .boolean) :: TB) (rmD 0 0 0) (va_Pc [.ref (q 6), .int (-1)] (pcW G Zd (wC q G.2 cw cI0 cA0 R Q pl) sz)) (qI G (fun rr (_ : Unit) => rr = 0) (fun _ => (wC q G.2 cw cI0 cA0 R Q pl)) (va_A (wC q G.2 cw cI0 cA0 R Q pl) sz)) 0 0 (va_A (wC q G.2 cw cI0 cA0 R Q pl) sz) := by
  refine go (Qc := qI G (fun rr (_ : Unit) => rr = 0) (fun _ => (wC q G.2 cw cI0 cA0 R Q pl))) "PagedValues$Store" rfl (by decide) (Nat.le_of_ble_eq_true rfl) ?_
  intro p e s m below meth c ls A hx hb hr hlk hml hown hts hin hl hP hD hK hS hA hZ
  have hl : lv_has ls 2 [(0, .ref (q 6)), (1, .int (-1))] := hl
  refine lv_iload_n hx hb d10_4_0 rfl (lv_at hl 1 rfl) ?_
  refine lv_if_lt (tgt := 22) hx hb d10_4_1 rfl (fun _ => ?_) (fun hc => absurd hc (by decide))
  refine lv_iconst (v := 0) hx hb d10_4_22 (by decide) ?_
  exact fin_z hx hb hr hlk (by decide) hS () rfl hP hD (Nat.le_of_ble_eq_true rfl) (Nat.le_of_ble_eq_true rfl) d10_4_23
set_option maxHeartbeats 4000000 in
set_option maxRecDepth 100000 in
theorem b10_6_30 (l : Launch) (G : Gk) (Zd q : Nat → Nat) (cw : Nat) (R : Nat → Option Nat) (Q : Nat → Nat → Option Nat) (pl : va_W)  (sz : Nat) : Met l y10_6 (Cond.code y10_6 prog_10_method_6_code 2 (some .int) :: TB) (rmD 2 0 0) (va_Pc [.ref (q 6), .int (-1)] (pcW G Zd (wC q G.2 cw cI0 cA0 R Q pl) sz)) (qI G (fun rr (_ : Unit) => rr = (-1)) (fun _ => (wC q G.2 cw cI0 cA0 R Q pl)) (va_A (wC q G.2 cw cI0 cA0 R Q pl) sz)) 0 0 (va_A (wC q G.2 cw cI0 cA0 R Q pl) sz) := by
  refine go (Qc := qI G (fun rr (_ : Unit) => rr = (-1)) (fun _ => (wC q G.2 cw cI0 cA0 R Q pl))) "PagedValues$Store" rfl (by decide) (Nat.le_of_ble_eq_true rfl) ?_
  intro p e s m below meth c ls A hx hb hr hlk hml hown hts hin hl hP hD hK hS hA hZ
  have hl : lv_has ls 2 [(0, .ref (q 6)), (1, .int (-1))] := hl
  refine lv_aload_n hx hb d10_6_0 rfl (lv_at hl 0 rfl) ?_
  refine lv_iload_n hx hb d10_6_1 rfl (lv_at hl 1 rfl) ?_
  refine sV_i (As := [.int (-1)]) (rest := []) ⟨hx, hb, hml, hown, hts⟩ (b10_4_29 l G Zd q cw R Q pl _) (kw_V (n := 1) hts k887 k884 k13 k885 k886 (by decide +kernel) ⟨Nat.le_of_ble_eq_true rfl, Nat.le_of_ble_eq_true rfl⟩) hP hD hK hS hA hZ (va_recv (ci := 9) (q0 := 6) hK hP rfl rfl) rfl hl.1 rfl (Nat.le_of_ble_eq_true rfl) d10_6_2 ⟨Nat.le_of_ble_eq_true rfl, Nat.le_of_ble_eq_true rfl⟩ (fun rr u H locs hp hP hD hS => ?_)
  obtain rfl := hp
  refine W.eq (g2 := F0 m 5 ls [.int 0]) rfl ?_
  have hP : va_P G.1 vwCl (wC q G.2 cw cI0 cA0 R Q pl) H := hP
  have hD : va_D A (wC q G.2 cw cI0 cA0 R Q pl) := hD
  refine lv_if_eq (tgt := 17) hx hb d10_6_5 rfl (fun _ => ?_) (fun hc => absurd hc (by decide))
  refine lv_aload_n hx hb d10_6_17 rfl (lv_at hl 0 rfl) ?_
  refine sV_i (As := []) (rest := []) ⟨hx, hb, hml, hown, hts⟩ (b10_3_20 l G Zd q cw R Q pl _) (kw_V (n := 0) hts k686 k683 k13 k684 k685 (by decide +kernel) ⟨Nat.le_of_ble_eq_true rfl, Nat.le_of_ble_eq_true rfl⟩) hP hD hK hS hA hZ (va_recv (ci := 9) (q0 := 6) hK hP rfl rfl) rfl hl.1 rfl (Nat.le_of_ble_eq_true rfl) d10_6_18 ⟨Nat.le_of_ble_eq_true rfl, Nat.le_of_ble_eq_true rfl⟩ (fun rr u H locs hp hP hD hS => ?_)
  obtain rfl := hp
  refine W.eq (g2 := F0 m 21 ls [.int (-1)]) rfl ?_
  have hP : va_P G.1 vwCl (wC q G.2 cw cI0 cA0 R Q pl) H := hP
  have hD : va_D A (wC q G.2 cw cI0 cA0 R Q pl) := hD
  exact fin_i hx hb hr hlk hS () rfl hP hD (Nat.le_of_ble_eq_true rfl) (Nat.le_of_ble_eq_true rfl) d10_6_21
set_option maxHeartbeats 4000000 in
set_option maxRecDepth 100000 in
theorem b11_4_31 (l : Launch) (G : Gk) (Zd q : Nat → Nat) (cw : Nat) (R : Nat → Option Nat) (Q : Nat → Nat → Option Nat) (pl : va_W)  (sz : Nat) : Met l y11_4 (Cond.code y11_4 prog_11_method_4_code 1 none :: TB) (rmD 0 0 0) (va_Pc [.ref (q 1)] (pcW G Zd (wC q G.2 cw (upd cI0 4 0) cA0 R Q pl) sz)) (qV G (fun (_ : Unit) => True) (fun _ => (wC q G.2 cw (upd (upd (upd cI0 4 0) 1 0) 2 (-1)) cA0 R Q pl)) (va_A (wC q G.2 cw (upd cI0 4 0) cA0 R Q pl) sz)) 0 0 (va_A (wC q G.2 cw (upd cI0 4 0) cA0 R Q pl) sz) := by
  refine go (Qc := qV G (fun (_ : Unit) => True) (fun _ => (wC q G.2 cw (upd (upd (upd cI0 4 0) 1 0) 2 (-1)) cA0 R Q pl))) "PagedValues$Text" rfl (by decide) (Nat.le_of_ble_eq_true rfl) ?_
  intro p e s m below meth c ls A hx hb hr hlk hml hown hts hin hl hP hD hK hS hA hZ
  have hl : lv_has ls 1 [(0, .ref (q 1))] := hl
  refine lv_aload_n hx hb d11_4_0 rfl (lv_at hl 0 rfl) ?_
  refine lv_iconst (v := 0) hx hb d11_4_1 (by decide) ?_
  refine va_put (D := G.1) (ci := 1) (v := .int 0) (ty := .int) (C := r_1) (T := f_1) (N := 5) (ref := "PagedValues$Text") hx hb hts (fun w h => List.mem_cons_of_mem _ (ly_1 w h)) ft_1 ft_1_ok nm_1 hown hK hP hD hS 1 rfl rfl 3 (by decide) (hts _ (List.mem_cons_of_mem _ k79)) (fun _ h9 => h9) rfl (by decide +kernel) rfl rfl (Nat.le_of_ble_eq_true rfl) d11_4_2 (fun H locs hP hD hS => ?_)
  have hP : va_P G.1 vwCl (wC q G.2 cw (upd (upd cI0 4 0) 1 0) cA0 R Q pl) H := hP
  have hD : va_D A (wC q G.2 cw (upd (upd cI0 4 0) 1 0) cA0 R Q pl) := hD
  refine lv_aload_n hx hb d11_4_5 rfl (lv_at hl 0 rfl) ?_
  refine lv_iconst (v := (-1)) hx hb d11_4_6 (by decide) ?_
  refine va_put (D := G.1) (ci := 1) (v := .int (-1)) (ty := .int) (C := r_1) (T := f_1) (N := 5) (ref := "PagedValues$Text") hx hb hts (fun w h => List.mem_cons_of_mem _ (ly_1 w h)) ft_1 ft_1_ok nm_1 hown hK hP hD hS 1 rfl rfl 4 (by decide) (hts _ (List.mem_cons_of_mem _ k81)) (fun _ h9 => h9) rfl (by decide +kernel) rfl rfl (Nat.le_of_ble_eq_true rfl) d11_4_7 (fun H locs hP hD hS => ?_)
  have hP : va_P G.1 vwCl (wC q G.2 cw (upd (upd (upd cI0 4 0) 1 0) 2 (-1)) cA0 R Q pl) H := hP
  have hD : va_D A (wC q G.2 cw (upd (upd (upd cI0 4 0) 1 0) 2 (-1)) cA0 R Q pl) := hD
  exact fin_v hx hb hr hlk hS () trivial hP hD (Nat.le_of_ble_eq_true rfl) (Nat.le_of_ble_eq_true rfl) d11_4_10
set_option maxHeartbeats 4000000 in
set_option maxRecDepth 100000 in
theorem b11_10_32 (l : Launch) (G : Gk) (Zd q : Nat → Nat) (cw : Nat) (R : Nat → Option Nat) (Q : Nat → Nat → Option Nat) (pl : va_W)  (sz : Nat) : Met l y11_10 (Cond.code y11_10 prog_11_method_10_code 2 (some .boolean) :: TB) (rmD 0 0 0) (va_Pc [.ref (q 1), .int 36] (pcW G Zd (wC q G.2 cw (upd (upd (upd cI0 4 0) 1 0) 2 (-1)) cA0 R Q pl) sz)) (qI G (fun rr (_ : Unit) => rr = 0) (fun _ => (wC q G.2 cw (upd (upd (upd cI0 4 0) 1 0) 2 (-1)) cA0 R Q pl)) (va_A (wC q G.2 cw (upd (upd (upd cI0 4 0) 1 0) 2 (-1)) cA0 R Q pl) sz)) 0 0 (va_A (wC q G.2 cw (upd (upd (upd cI0 4 0) 1 0) 2 (-1)) cA0 R Q pl) sz) := by
  refine go (Qc := qI G (fun rr (_ : Unit) => rr = 0) (fun _ => (wC q G.2 cw (upd (upd (upd cI0 4 0) 1 0) 2 (-1)) cA0 R Q pl))) "PagedValues$Text" rfl (by decide) (Nat.le_of_ble_eq_true rfl) ?_
  intro p e s m below meth c ls A hx hb hr hlk hml hown hts hin hl hP hD hK hS hA hZ
  have hl : lv_has ls 2 [(0, .ref (q 1)), (1, .int 36)] := hl
  refine lv_aload_n hx hb d11_10_0 rfl (lv_at hl 0 rfl) ?_
  refine va_get (D := G.1) (ci := 1) (v := .int 0) (C := r_1) (T := f_1) (N := 5) (ref := "PagedValues$Text") hx hb hts (fun w h => List.mem_cons_of_mem _ (ly_1 w h)) hown hK hP 1 rfl rfl 3 (by decide) (hts _ (List.mem_cons_of_mem _ k79)) (fun _ h9 => h9) rfl d11_10_1 ?_
  refine lv_aload_n hx hb d11_10_4 rfl (lv_at hl 0 rfl) ?_
  refine va_get (D := G.1) (ci := 1) (v := .int 0) (C := r_1) (T := f_1) (N := 5) (ref := "PagedValues$Text") hx hb hts (fun w h => List.mem_cons_of_mem _ (ly_1 w h)) hown hK hP 1 rfl rfl 2 (by decide) (hts _ (List.mem_cons_of_mem _ k77)) (fun _ h9 => h9) rfl d11_10_5 ?_
  refine lv_icmp_ge (tgt := 24) hx hb d11_10_8 rfl (fun _ => ?_) (fun hc => absurd hc (by decide))
  refine lv_iconst (v := 0) hx hb d11_10_24 (by decide) ?_
  exact fin_z hx hb hr hlk (by decide) hS () rfl hP hD (Nat.le_of_ble_eq_true rfl) (Nat.le_of_ble_eq_true rfl) d11_10_25
set_option maxHeartbeats 4000000 in
set_option maxRecDepth 100000 in
theorem b11_8_33 (l : Launch) (G : Gk) (Zd q : Nat → Nat) (cw : Nat) (R : Nat → Option Nat) (Q : Nat → Nat → Option Nat) (pl : va_W)  (sz : Nat) : Met l y11_8 (Cond.code y11_8 prog_11_method_8_code 1 none :: TB) (rmD 0 0 0) (va_Pc [.ref (q 1)] (pcW G Zd (wC q G.2 cw (upd (upd (upd cI0 4 0) 1 0) 2 (-1)) cA0 R Q pl) sz)) (qV G (fun (_ : Unit) => True) (fun _ => (wC q G.2 cw (upd (upd (upd cI0 4 0) 1 0) 2 0) cA0 R Q pl)) (va_A (wC q G.2 cw (upd (upd (upd cI0 4 0) 1 0) 2 (-1)) cA0 R Q pl) sz)) 0 0 (va_A (wC q G.2 cw (upd (upd (upd cI0 4 0) 1 0) 2 (-1)) cA0 R Q pl) sz) := by
  refine go (Qc := qV G (fun (_ : Unit) => True) (fun _ => (wC q G.2 cw (upd (upd (upd cI0 4 0) 1 0) 2 0) cA0 R Q pl))) "PagedValues$Text" rfl (by decide) (Nat.le_of_ble_eq_true rfl) ?_
  intro p e s m below meth c ls A hx hb hr hlk hml hown hts hin hl hP hD hK hS hA hZ
  have hl : lv_has ls 1 [(0, .ref (q 1))] := hl
  refine lv_aload_n hx hb d11_8_0 rfl (lv_at hl 0 rfl) ?_
  refine va_get (D := G.1) (ci := 1) (v := .int (-1)) (C := r_1) (T := f_1) (N := 5) (ref := "PagedValues$Text") hx hb hts (fun w h => List.mem_cons_of_mem _ (ly_1 w h)) hown hK hP 1 rfl rfl 4 (by decide) (hts _ (List.mem_cons_of_mem _ k81)) (fun _ h9 => h9) rfl d11_8_1 ?_
  refine lv_iconst (v := (-1)) hx hb d11_8_4 (by decide) ?_
  refine lv_icmp_ne (tgt := 16) hx hb d11_8_5 rfl (fun hc => absurd hc (by decide)) (fun _ => ?_)
  refine lv_aload_n hx hb d11_8_8 rfl (lv_at hl 0 rfl) ?_
  refine lv_aload_n hx hb d11_8_9 rfl (lv_at hl 0 rfl) ?_
  refine va_get (D := G.1) (ci := 1) (v := .int 0) (C := r_1) (T := f_1) (N := 5) (ref := "PagedValues$Text") hx hb hts (fun w h => List.mem_cons_of_mem _ (ly_1 w h)) hown hK hP 1 rfl rfl 3 (by decide) (hts _ (List.mem_cons_of_mem _ k79)) (fun _ h9 => h9) rfl d11_8_10 ?_
  refine va_put (D := G.1) (ci := 1) (v := .int 0) (ty := .int) (C := r_1) (T := f_1) (N := 5) (ref := "PagedValues$Text") hx hb hts (fun w h => List.mem_cons_of_mem _ (ly_1 w h)) ft_1 ft_1_ok nm_1 hown hK hP hD hS 1 rfl rfl 4 (by decide) (hts _ (List.mem_cons_of_mem _ k81)) (fun _ h9 => h9) rfl (by decide +kernel) rfl rfl (Nat.le_of_ble_eq_true rfl) d11_8_13 (fun H locs hP hD hS => ?_)
  have hP : va_P G.1 vwCl (wC q G.2 cw (upd (upd (upd cI0 4 0) 1 0) 2 0) cA0 R Q pl) H := hP
  have hD : va_D A (wC q G.2 cw (upd (upd (upd cI0 4 0) 1 0) 2 0) cA0 R Q pl) := hD
  exact fin_v hx hb hr hlk hS () trivial hP hD (Nat.le_of_ble_eq_true rfl) (Nat.le_of_ble_eq_true rfl) d11_8_16
set_option maxHeartbeats 4000000 in
set_option maxRecDepth 100000 in
theorem b11_11_34 (l : Launch) (G : Gk) (Zd q : Nat → Nat) (cw : Nat) (R : Nat → Option Nat) (Q : Nat → Nat → Option Nat) (pl : va_W)  (sz : Nat) : Met l y11_11 (Cond.code y11_11 prog_11_method_11_code 3 (some .boolean) :: TB) (rmD 1 0 0) (va_Pc [.ref (q 1), .int 36] (pcW G Zd (wC q G.2 cw (upd (upd (upd cI0 4 0) 1 0) 2 (-1)) cA0 R Q pl) sz)) (qI G (fun rr (_ : Unit) => rr = 0) (fun _ => (wC q G.2 cw (upd (upd (upd cI0 4 0) 1 0) 2 0) cA0 R Q pl)) (va_A (wC q G.2 cw (upd (upd (upd cI0 4 0) 1 0) 2 (-1)) cA0 R Q pl) sz)) 0 0 (va_A (wC q G.2 cw (upd (upd (upd cI0 4 0) 1 0) 2 (-1)) cA0 R Q pl) sz) := by
  refine go (Qc := qI G (fun rr (_ : Unit) => rr = 0) (fun _ => (wC q G.2 cw (upd (upd (upd cI0 4 0) 1 0) 2 0) cA0 R Q pl))) "PagedValues$Text" rfl (by decide) (Nat.le_of_ble_eq_true rfl) ?_
  intro p e s m below meth c ls A hx hb hr hlk hml hown hts hin hl hP hD hK hS hA hZ
  have hl : lv_has ls 3 [(0, .ref (q 1)), (1, .int 36)] := hl
  refine lv_aload_n hx hb d11_11_0 rfl (lv_at hl 0 rfl) ?_
  refine lv_iload_n hx hb d11_11_1 rfl (lv_at hl 1 rfl) ?_
  refine sV_i (As := [.int 36]) (rest := []) ⟨hx, hb, hml, hown, hts⟩ (b11_10_32 l G Zd q cw R Q pl _) (kw_V (n := 1) hts k384 k381 k2 k382 k383 (by decide +kernel) ⟨Nat.le_of_ble_eq_true rfl, Nat.le_of_ble_eq_true rfl⟩) hP hD hK hS hA hZ (va_recv (ci := 1) (q0 := 1) hK hP rfl rfl) rfl hl.1 rfl (Nat.le_of_ble_eq_true rfl) d11_11_2 ⟨Nat.le_of_ble_eq_true rfl, Nat.le_of_ble_eq_true rfl⟩ (fun rr u H locs hp hP hD hS => ?_)
  obtain rfl := hp
  refine W.eq (g2 := F0 m 5 ls [.int 0]) rfl ?_
  have hP : va_P G.1 vwCl (wC q G.2 cw (upd (upd (upd cI0 4 0) 1 0) 2 (-1)) cA0 R Q pl) H := hP
  have hD : va_D A (wC q G.2 cw (upd (upd (upd cI0 4 0) 1 0) 2 (-1)) cA0 R Q pl) := hD
  refine lv_istore_n (lv' := [(2, .int 0), (0, .ref (q 1)), (1, .int 36)]) hx hb d11_11_5 rfl hl (by decide) rfl (fun ls hl => ?_)
  refine lv_iload_n hx hb d11_11_6 rfl (lv_at hl 0 rfl) ?_
  refine lv_if_ne (tgt := 14) hx hb d11_11_7 rfl (fun hc => absurd hc (by decide)) (fun _ => ?_)
  refine lv_aload_n hx hb d11_11_10 rfl (lv_at hl 1 rfl) ?_
  refine sV_v (As := []) (rest := []) ⟨hx, hb, hml, hown, hts⟩ (b11_8_33 l G Zd q cw R Q pl _) (kw_V (n := 0) hts k333 k385 k2 k331 k332 (by decide +kernel) ⟨Nat.le_of_ble_eq_true rfl, Nat.le_of_ble_eq_true rfl⟩) hP hD hK hS hA hZ (va_recv (ci := 1) (q0 := 1) hK hP rfl rfl) rfl hl.1 rfl (Nat.le_of_ble_eq_true rfl) d11_11_11 ⟨Nat.le_of_ble_eq_true rfl, Nat.le_of_ble_eq_true rfl⟩ (fun u H locs hp hP hD hS => ?_)
  refine W.eq (g2 := F0 m 14 ls []) rfl ?_
  have hP : va_P G.1 vwCl (wC q G.2 cw (upd (upd (upd cI0 4 0) 1 0) 2 0) cA0 R Q pl) H := hP
  have hD : va_D A (wC q G.2 cw (upd (upd (upd cI0 4 0) 1 0) 2 0) cA0 R Q pl) := hD
  refine lv_iload_n hx hb d11_11_14 rfl (lv_at hl 0 rfl) ?_
  exact fin_z hx hb hr hlk (by decide) hS () rfl hP hD (Nat.le_of_ble_eq_true rfl) (Nat.le_of_ble_eq_true rfl) d11_11_15
set_option maxHeartbeats 4000000 in
set_option maxRecDepth 100000 in
theorem b11_5_35 (l : Launch) (G : Gk) (Zd q : Nat → Nat) (cw : Nat) (R : Nat → Option Nat) (Q : Nat → Nat → Option Nat) (pl : va_W)  (sz : Nat) : Met l y11_5 (Cond.code y11_5 prog_11_method_5_code 1 (some .boolean) :: TB) (rmD 0 0 0) (va_Pc [.ref (q 1)] (pcW G Zd (wC q G.2 cw (upd (upd (upd cI0 4 0) 1 0) 2 0) cA0 R Q pl) sz)) (qI G (fun rr (_ : Unit) => rr = 0) (fun _ => (wC q G.2 cw (upd (upd (upd cI0 4 0) 1 0) 2 0) cA0 R Q pl)) (va_A (wC q G.2 cw (upd (upd (upd cI0 4 0) 1 0) 2 0) cA0 R Q pl) sz)) 0 0 (va_A (wC q G.2 cw (upd (upd (upd cI0 4 0) 1 0) 2 0) cA0 R Q pl) sz) := by
  refine go (Qc := qI G (fun rr (_ : Unit) => rr = 0) (fun _ => (wC q G.2 cw (upd (upd (upd cI0 4 0) 1 0) 2 0) cA0 R Q pl))) "PagedValues$Text" rfl (by decide) (Nat.le_of_ble_eq_true rfl) ?_
  intro p e s m below meth c ls A hx hb hr hlk hml hown hts hin hl hP hD hK hS hA hZ
  have hl : lv_has ls 1 [(0, .ref (q 1))] := hl
  refine lv_aload_n hx hb d11_5_0 rfl (lv_at hl 0 rfl) ?_
  refine va_get (D := G.1) (ci := 1) (v := .int 0) (C := r_1) (T := f_1) (N := 5) (ref := "PagedValues$Text") hx hb hts (fun w h => List.mem_cons_of_mem _ (ly_1 w h)) hown hK hP 1 rfl rfl 4 (by decide) (hts _ (List.mem_cons_of_mem _ k81)) (fun _ h9 => h9) rfl d11_5_1 ?_
  refine lv_iconst (v := (-1)) hx hb d11_5_4 (by decide) ?_
  refine lv_icmp_ne (tgt := 12) hx hb d11_5_5 rfl (fun _ => ?_) (fun hc => absurd hc (by decide))
  refine lv_iconst (v := 0) hx hb d11_5_12 (by decide) ?_
  exact fin_z hx hb hr hlk (by decide) hS () rfl hP hD (Nat.le_of_ble_eq_true rfl) (Nat.le_of_ble_eq_true rfl) d11_5_13
set_option maxHeartbeats 4000000 in
set_option maxRecDepth 100000 in
theorem b8_2_36 (l : Launch) (G : Gk) (Zd q : Nat → Nat) (cw : Nat) (R : Nat → Option Nat) (Q : Nat → Nat → Option Nat) (pl : va_W)  (sz : Nat) : Met l y8_2 (Cond.code y8_2 prog_8_method_2_code 3 none :: TB) (rmD 2 0 0) (va_Pc [.ref (q 4), .ref (q 1)] (pcW G Zd (wC q G.2 cw cI0 cA0 R Q pl) sz)) (qV G (fun (_ : Unit) => True) (fun _ => (wC q G.2 cw (upd (upd (upd cI0 4 0) 1 0) 2 0) cA0 R Q pl)) (va_A (wC q G.2 cw cI0 cA0 R Q pl) sz)) 0 0 (va_A (wC q G.2 cw cI0 cA0 R Q pl) sz) := by
  refine go (Qc := qV G (fun (_ : Unit) => True) (fun _ => (wC q G.2 cw (upd (upd (upd cI0 4 0) 1 0) 2 0) cA0 R Q pl))) "PagedValues$Query" rfl (by decide) (Nat.le_of_ble_eq_true rfl) ?_
  intro p e s m below meth c ls A hx hb hr hlk hml hown hts hin hl hP hD hK hS hA hZ
  have hl : lv_has ls 3 [(0, .ref (q 4)), (1, .ref (q 1))] := hl
  refine lv_aload_n hx hb d8_2_0 rfl (lv_at hl 0 rfl) ?_
  refine lv_iconst (v := 0) hx hb d8_2_1 (by decide) ?_
  refine va_put (D := G.1) (ci := 6) (v := .int 0) (ty := .int) (C := r_6) (T := f_6) (N := 2) (ref := "PagedValues$Query") hx hb hts (fun w h => List.mem_cons_of_mem _ (ly_6 w h)) ft_6 ft_6_ok nm_6 hown hK hP hD hS 4 rfl rfl 1 (by decide) (hts _ (List.mem_cons_of_mem _ k168)) (fun _ h9 => h9) rfl (by decide +kernel) rfl rfl (Nat.le_of_ble_eq_true rfl) d8_2_2 (fun H locs hP hD hS => ?_)
  have hP : va_P G.1 vwCl (wC q G.2 cw (upd cI0 4 0) cA0 R Q pl) H := hP
  have hD : va_D A (wC q G.2 cw (upd cI0 4 0) cA0 R Q pl) := hD
  refine lv_aload_n hx hb d8_2_5 rfl (lv_at hl 1 rfl) ?_
  refine sV_v (As := []) (rest := []) ⟨hx, hb, hml, hown, hts⟩ (b11_4_31 l G Zd q cw R Q pl _) (kw_V (n := 0) hts k314 k896 k2 k312 k313 (by decide +kernel) ⟨Nat.le_of_ble_eq_true rfl, Nat.le_of_ble_eq_true rfl⟩) hP hD hK hS hA hZ (va_recv (ci := 1) (q0 := 1) hK hP rfl rfl) rfl hl.1 rfl (Nat.le_of_ble_eq_true rfl) d8_2_6 ⟨Nat.le_of_ble_eq_true rfl, Nat.le_of_ble_eq_true rfl⟩ (fun u H locs hp hP hD hS => ?_)
  refine W.eq (g2 := F0 m 9 ls []) rfl ?_
  have hP : va_P G.1 vwCl (wC q G.2 cw (upd (upd (upd cI0 4 0) 1 0) 2 (-1)) cA0 R Q pl) H := hP
  have hD : va_D A (wC q G.2 cw (upd (upd (upd cI0 4 0) 1 0) 2 (-1)) cA0 R Q pl) := hD
  refine lv_aload_n hx hb d8_2_9 rfl (lv_at hl 1 rfl) ?_
  refine lv_bipush (v := 36) hx hb d8_2_10 (by decide) ?_
  refine sV_i (As := [.int 36]) (rest := []) ⟨hx, hb, hml, hown, hts⟩ (b11_11_34 l G Zd q cw R Q pl _) (kw_V (n := 1) hts k380 k897 k2 k378 k379 (by decide +kernel) ⟨Nat.le_of_ble_eq_true rfl, Nat.le_of_ble_eq_true rfl⟩) hP hD hK hS hA hZ (va_recv (ci := 1) (q0 := 1) hK hP rfl rfl) rfl hl.1 rfl (Nat.le_of_ble_eq_true rfl) d8_2_12 ⟨Nat.le_of_ble_eq_true rfl, Nat.le_of_ble_eq_true rfl⟩ (fun rr u H locs hp hP hD hS => ?_)
  obtain rfl := hp
  refine W.eq (g2 := F0 m 15 ls [.int 0]) rfl ?_
  have hP : va_P G.1 vwCl (wC q G.2 cw (upd (upd (upd cI0 4 0) 1 0) 2 0) cA0 R Q pl) H := hP
  have hD : va_D A (wC q G.2 cw (upd (upd (upd cI0 4 0) 1 0) 2 0) cA0 R Q pl) := hD
  refine lv_pop hx hb d8_2_15 rfl ?_
  refine lv_iconst (v := 0) hx hb d8_2_16 (by decide) ?_
  refine lv_istore_n (lv' := [(2, .int 0), (0, .ref (q 4)), (1, .ref (q 1))]) hx hb d8_2_17 rfl hl (by decide) rfl (fun ls hl => ?_)
  refine lv_iload_n hx hb d8_2_18 rfl (lv_at hl 0 rfl) ?_
  refine lv_bipush (v := 8) hx hb d8_2_19 (by decide) ?_
  refine lv_icmp_gt (tgt := 49) hx hb d8_2_21 rfl (fun hc => absurd hc (by decide)) (fun _ => ?_)
  refine lv_aload_n hx hb d8_2_24 rfl (lv_at hl 2 rfl) ?_
  refine sV_i (As := []) (rest := []) ⟨hx, hb, hml, hown, hts⟩ (b11_5_35 l G Zd q cw R Q pl _) (kw_V (n := 0) hts k580 k898 k2 k578 k579 (by decide +kernel) ⟨Nat.le_of_ble_eq_true rfl, Nat.le_of_ble_eq_true rfl⟩) hP hD hK hS hA hZ (va_recv (ci := 1) (q0 := 1) hK hP rfl rfl) rfl hl.1 rfl (Nat.le_of_ble_eq_true rfl) d8_2_25 ⟨Nat.le_of_ble_eq_true rfl, Nat.le_of_ble_eq_true rfl⟩ (fun rr u H locs hp hP hD hS => ?_)
  obtain rfl := hp
  refine W.eq (g2 := F0 m 28 ls [.int 0]) rfl ?_
  have hP : va_P G.1 vwCl (wC q G.2 cw (upd (upd (upd cI0 4 0) 1 0) 2 0) cA0 R Q pl) H := hP
  have hD : va_D A (wC q G.2 cw (upd (upd (upd cI0 4 0) 1 0) 2 0) cA0 R Q pl) := hD
  refine lv_if_eq (tgt := 49) hx hb d8_2_28 rfl (fun _ => ?_) (fun hc => absurd hc (by decide))
  exact fin_v hx hb hr hlk hS () trivial hP hD (Nat.le_of_ble_eq_true rfl) (Nat.le_of_ble_eq_true rfl) d8_2_49
set_option maxHeartbeats 4000000 in
set_option maxRecDepth 100000 in
theorem b11_3_37 (l : Launch) (G : Gk) (Zd q : Nat → Nat) (cw : Nat) (R : Nat → Option Nat) (Q : Nat → Nat → Option Nat) (pl : va_W)  (sz : Nat) : Met l y11_3 (Cond.code y11_3 prog_11_method_3_code 1 none :: TB) (rmD 0 0 0) (va_Pc [.ref (q 1)] (pcW G Zd (wC q G.2 cw (upd (upd (upd cI0 4 0) 1 0) 2 0) cA0 R Q pl) sz)) (qV G (fun (_ : Unit) => True) (fun _ => (wC q G.2 cw (upd (upd (upd (upd cI0 4 0) 1 0) 2 0) 0 0) cA0 R Q pl)) (va_A (wC q G.2 cw (upd (upd (upd cI0 4 0) 1 0) 2 0) cA0 R Q pl) sz)) 0 0 (va_A (wC q G.2 cw (upd (upd (upd cI0 4 0) 1 0) 2 0) cA0 R Q pl) sz) := by
  refine go (Qc := qV G (fun (_ : Unit) => True) (fun _ => (wC q G.2 cw (upd (upd (upd (upd cI0 4 0) 1 0) 2 0) 0 0) cA0 R Q pl))) "PagedValues$Text" rfl (by decide) (Nat.le_of_ble_eq_true rfl) ?_
  intro p e s m below meth c ls A hx hb hr hlk hml hown hts hin hl hP hD hK hS hA hZ
  have hl : lv_has ls 1 [(0, .ref (q 1))] := hl
  refine lv_aload_n hx hb d11_3_0 rfl (lv_at hl 0 rfl) ?_
  refine lv_iconst (v := 0) hx hb d11_3_1 (by decide) ?_
  refine va_put (D := G.1) (ci := 1) (v := .int 0) (ty := .int) (C := r_1) (T := f_1) (N := 5) (ref := "PagedValues$Text") hx hb hts (fun w h => List.mem_cons_of_mem _ (ly_1 w h)) ft_1 ft_1_ok nm_1 hown hK hP hD hS 1 rfl rfl 2 (by decide) (hts _ (List.mem_cons_of_mem _ k77)) (fun _ h9 => h9) rfl (by decide +kernel) rfl rfl (Nat.le_of_ble_eq_true rfl) d11_3_2 (fun H locs hP hD hS => ?_)
  have hP : va_P G.1 vwCl (wC q G.2 cw (upd (upd (upd (upd cI0 4 0) 1 0) 2 0) 0 0) cA0 R Q pl) H := hP
  have hD : va_D A (wC q G.2 cw (upd (upd (upd (upd cI0 4 0) 1 0) 2 0) 0 0) cA0 R Q pl) := hD
  exact fin_v hx hb hr hlk hS () trivial hP hD (Nat.le_of_ble_eq_true rfl) (Nat.le_of_ble_eq_true rfl) d11_3_5
set_option maxHeartbeats 4000000 in
set_option maxRecDepth 100000 in
theorem b3_2_38 (l : Launch) (G : Gk) (Zd q : Nat → Nat) (cw : Nat) (R : Nat → Option Nat) (Q : Nat → Nat → Option Nat) (pl : va_W)  (sz : Nat) : Met l y3_2 (Cond.code y3_2 prog_3_method_2_code 1 none :: TB) (rmD 0 0 0) (va_Pc [.ref (q 5)] (pcW G Zd (wC q G.2 cw (upd (upd (upd (upd cI0 4 0) 1 0) 2 0) 0 0) cA0 R Q pl) sz)) (qV G (fun (_ : Unit) => True) (fun _ => (wC q G.2 cw (upd (upd (upd (upd (upd (upd cI0 4 0) 1 0) 2 0) 0 0) 5 0) 8 0) cA0 R Q pl)) (va_A (wC q G.2 cw (upd (upd (upd (upd cI0 4 0) 1 0) 2 0) 0 0) cA0 R Q pl) sz)) 0 0 (va_A (wC q G.2 cw (upd (upd (upd (upd cI0 4 0) 1 0) 2 0) 0 0) cA0 R Q pl) sz) := by
  refine go (Qc := qV G (fun (_ : Unit) => True) (fun _ => (wC q G.2 cw (upd (upd (upd (upd (upd (upd cI0 4 0) 1 0) 2 0) 0 0) 5 0) 8 0) cA0 R Q pl))) "PagedValues$Finder" rfl (by decide) (Nat.le_of_ble_eq_true rfl) ?_
  intro p e s m below meth c ls A hx hb hr hlk hml hown hts hin hl hP hD hK hS hA hZ
  have hl : lv_has ls 1 [(0, .ref (q 5))] := hl
  refine lv_aload_n hx hb d3_2_0 rfl (lv_at hl 0 rfl) ?_
  refine lv_iconst (v := 0) hx hb d3_2_1 (by decide) ?_
  refine va_put (D := G.1) (ci := 8) (v := .int 0) (ty := .int) (C := r_8) (T := f_8) (N := 8) (ref := "PagedValues$Finder") hx hb hts (fun w h => List.mem_cons_of_mem _ (ly_8 w h)) ft_8 ft_8_ok nm_8 hown hK hP hD hS 5 rfl rfl 4 (by decide) (hts _ (List.mem_cons_of_mem _ k189)) (fun _ h9 => h9) rfl (by decide +kernel) rfl rfl (Nat.le_of_ble_eq_true rfl) d3_2_2 (fun H locs hP hD hS => ?_)
  have hP : va_P G.1 vwCl (wC q G.2 cw (upd (upd (upd (upd (upd cI0 4 0) 1 0) 2 0) 0 0) 5 0) cA0 R Q pl) H := hP
  have hD : va_D A (wC q G.2 cw (upd (upd (upd (upd (upd cI0 4 0) 1 0) 2 0) 0 0) 5 0) cA0 R Q pl) := hD
  refine lv_aload_n hx hb d3_2_5 rfl (lv_at hl 0 rfl) ?_
  refine lv_iconst (v := 0) hx hb d3_2_6 (by decide) ?_
  refine va_put (D := G.1) (ci := 8) (v := .int 0) (ty := .boolean) (C := r_8) (T := f_8) (N := 8) (ref := "PagedValues$Finder") hx hb hts (fun w h => List.mem_cons_of_mem _ (ly_8 w h)) ft_8 ft_8_ok nm_8 hown hK hP hD hS 5 rfl rfl 7 (by decide) (hts _ (List.mem_cons_of_mem _ k192)) (fun _ h9 => h9) rfl (by decide +kernel) (by decide) (by decide) (Nat.le_of_ble_eq_true rfl) d3_2_7 (fun H locs hP hD hS => ?_)
  have hP : va_P G.1 vwCl (wC q G.2 cw (upd (upd (upd (upd (upd (upd cI0 4 0) 1 0) 2 0) 0 0) 5 0) 8 0) cA0 R Q pl) H := hP
  have hD : va_D A (wC q G.2 cw (upd (upd (upd (upd (upd (upd cI0 4 0) 1 0) 2 0) 0 0) 5 0) 8 0) cA0 R Q pl) := hD
  exact fin_v hx hb hr hlk hS () trivial hP hD (Nat.le_of_ble_eq_true rfl) (Nat.le_of_ble_eq_true rfl) d3_2_10
set_option maxHeartbeats 4000000 in
set_option maxRecDepth 100000 in
theorem b11_5_39 (l : Launch) (G : Gk) (Zd q : Nat → Nat) (cw : Nat) (R : Nat → Option Nat) (Q : Nat → Nat → Option Nat) (pl : va_W)  (sz : Nat) : Met l y11_5 (Cond.code y11_5 prog_11_method_5_code 1 (some .boolean) :: TB) (rmD 0 0 0) (va_Pc [.ref (q 1)] (pcW G Zd (wC q G.2 cw (upd (upd (upd (upd (upd (upd cI0 4 0) 1 0) 2 0) 0 0) 5 0) 8 0) cA0 R Q pl) sz)) (qI G (fun rr (_ : Unit) => rr = 0) (fun _ => (wC q G.2 cw (upd (upd (upd (upd (upd (upd cI0 4 0) 1 0) 2 0) 0 0) 5 0) 8 0) cA0 R Q pl)) (va_A (wC q G.2 cw (upd (upd (upd (upd (upd (upd cI0 4 0) 1 0) 2 0) 0 0) 5 0) 8 0) cA0 R Q pl) sz)) 0 0 (va_A (wC q G.2 cw (upd (upd (upd (upd (upd (upd cI0 4 0) 1 0) 2 0) 0 0) 5 0) 8 0) cA0 R Q pl) sz) := by
  refine go (Qc := qI G (fun rr (_ : Unit) => rr = 0) (fun _ => (wC q G.2 cw (upd (upd (upd (upd (upd (upd cI0 4 0) 1 0) 2 0) 0 0) 5 0) 8 0) cA0 R Q pl))) "PagedValues$Text" rfl (by decide) (Nat.le_of_ble_eq_true rfl) ?_
  intro p e s m below meth c ls A hx hb hr hlk hml hown hts hin hl hP hD hK hS hA hZ
  have hl : lv_has ls 1 [(0, .ref (q 1))] := hl
  refine lv_aload_n hx hb d11_5_0 rfl (lv_at hl 0 rfl) ?_
  refine va_get (D := G.1) (ci := 1) (v := .int 0) (C := r_1) (T := f_1) (N := 5) (ref := "PagedValues$Text") hx hb hts (fun w h => List.mem_cons_of_mem _ (ly_1 w h)) hown hK hP 1 rfl rfl 4 (by decide) (hts _ (List.mem_cons_of_mem _ k81)) (fun _ h9 => h9) rfl d11_5_1 ?_
  refine lv_iconst (v := (-1)) hx hb d11_5_4 (by decide) ?_
  refine lv_icmp_ne (tgt := 12) hx hb d11_5_5 rfl (fun _ => ?_) (fun hc => absurd hc (by decide))
  refine lv_iconst (v := 0) hx hb d11_5_12 (by decide) ?_
  exact fin_z hx hb hr hlk (by decide) hS () rfl hP hD (Nat.le_of_ble_eq_true rfl) (Nat.le_of_ble_eq_true rfl) d11_5_13
set_option maxHeartbeats 4000000 in
set_option maxRecDepth 100000 in
theorem tc_query (l : Launch) (G : Gk) (Zd q : Nat → Nat) (cw : Nat) (R : Nat → Option Nat) (Q : Nat → Nat → Option Nat) (pl : va_W) (r id : Int32) (sz : Nat) : Met l y1_6 (Cond.code y1_6 prog_1_method_6_code 5 (some .int) :: TB) (rmD 3 0 0) (va_Pc [.ref (q 0), .int r, .int id] (pcW G Zd (wC q G.2 cw cI0 cA0 R Q pl) sz)) (qI G (fun rr (_ : Unit) => rr = an_query r id) (fun _ => []) (va_A (wC q G.2 cw cI0 cA0 R Q pl) sz)) 0 0 (va_A (wC q G.2 cw cI0 cA0 R Q pl) sz) := by
  refine go (Qc := qI G (fun rr (_ : Unit) => rr = an_query r id) (fun _ => [])) "PagedValues" rfl (by decide) (Nat.le_of_ble_eq_true rfl) ?_
  intro p e s m below meth c ls A hx hb hr hlk hml hown hts hin hl hP hD hK hS hA hZ
  have hl : lv_has ls 5 [(0, .ref (q 0)), (1, .int r), (2, .int id)] := hl
  refine lv_aload_n hx hb d1_6_0 rfl (lv_at hl 0 rfl) ?_
  refine va_get (D := G.1) (ci := 0) (v := .ref (q 6)) (C := r_0) (T := f_0) (N := 7) (ref := "PagedValues") hx hb hts (fun w h => List.mem_cons_of_mem _ (ly_0 w h)) hown hK hP 0 rfl rfl 5 (by decide) (hts _ (List.mem_cons_of_mem _ k275)) (fun _ h9 => h9) rfl d1_6_1 ?_
  refine va_getN (D := G.1) (ci := 9) (v := .int 0) (C := r_9) (T := f_9) (N := 9) (ref := "PagedValues$Store") hx hb hts (fun w h => List.mem_cons_of_mem _ (ly_9 w h)) hown hK hP 6 rfl rfl 8 (by decide) (va_Nw.use rfl (hZ.1 _ kn247)) (fun _ h9 => h9) rfl d1_6_4 ?_
  refine lv_if_eq (tgt := 13) hx hb d1_6_7 rfl (fun _ => ?_) (fun hc => absurd hc (by decide))
  refine lv_aload_n hx hb d1_6_13 rfl (lv_at hl 0 rfl) ?_
  refine va_get (D := G.1) (ci := 0) (v := .ref (q 6)) (C := r_0) (T := f_0) (N := 7) (ref := "PagedValues") hx hb hts (fun w h => List.mem_cons_of_mem _ (ly_0 w h)) hown hK hP 0 rfl rfl 5 (by decide) (hts _ (List.mem_cons_of_mem _ k275)) (fun _ h9 => h9) rfl d1_6_14 ?_
  refine lv_iload_n hx hb d1_6_17 rfl (lv_at hl 1 rfl) ?_
  refine sV_i (As := [.int r]) (rest := []) ⟨hx, hb, hml, hown, hts⟩ (bc_canRead l G Zd q cw R Q pl r _) (kw_V (n := 1) hts k883 k880 k13 k881 k882 (by decide +kernel) ⟨Nat.le_of_ble_eq_true rfl, Nat.le_of_ble_eq_true rfl⟩) hP hD hK hS hA hZ (va_recv (ci := 9) (q0 := 6) hK hP rfl rfl) rfl hl.1 rfl (Nat.le_of_ble_eq_true rfl) d1_6_18 ⟨Nat.le_of_ble_eq_true rfl, Nat.le_of_ble_eq_true rfl⟩ (fun rr u H locs hp hP hD hS => ?_)
  obtain rfl := hp
  refine W.eq (g2 := F0 m 21 ls [.int (an_rd r)]) rfl ?_
  have hP : va_P G.1 vwCl (wC q G.2 cw cI0 cA0 R Q pl) H := hP
  have hD : va_D A (wC q G.2 cw cI0 cA0 R Q pl) := hD
  refine lv_if_ne (tgt := 26) hx hb d1_6_21 rfl (fun c1 => ?_) (fun c1 => ?_)
  ·
    obtain rfl := an_rd_1 c1
    refine lv_aload_n hx hb d1_6_26 rfl (lv_at hl 0 rfl) ?_
    refine va_get (D := G.1) (ci := 0) (v := .ref (q 6)) (C := r_0) (T := f_0) (N := 7) (ref := "PagedValues") hx hb hts (fun w h => List.mem_cons_of_mem _ (ly_0 w h)) hown hK hP 0 rfl rfl 5 (by decide) (hts _ (List.mem_cons_of_mem _ k275)) (fun _ h9 => h9) rfl d1_6_27 ?_
    refine lv_iload_n hx hb d1_6_30 rfl (lv_at hl 1 rfl) ?_
    refine sV_i (As := [.int (-1)]) (rest := []) ⟨hx, hb, hml, hown, hts⟩ (b10_6_30 l G Zd q cw R Q pl _) (kw_V (n := 1) hts k891 k888 k13 k889 k890 (by decide +kernel) ⟨Nat.le_of_ble_eq_true rfl, Nat.le_of_ble_eq_true rfl⟩) hP hD hK hS hA hZ (va_recv (ci := 9) (q0 := 6) hK hP rfl rfl) rfl hl.1 rfl (Nat.le_of_ble_eq_true rfl) d1_6_31 ⟨Nat.le_of_ble_eq_true rfl, Nat.le_of_ble_eq_true rfl⟩ (fun rr u H locs hp hP hD hS => ?_)
    obtain rfl := hp
    refine W.eq (g2 := F0 m 34 ls [.int (-1)]) rfl ?_
    have hP : va_P G.1 vwCl (wC q G.2 cw cI0 cA0 R Q pl) H := hP
    have hD : va_D A (wC q G.2 cw cI0 cA0 R Q pl) := hD
    refine lv_istore_n (lv' := [(3, .int (-1)), (0, .ref (q 0)), (1, .int (-1)), (2, .int id)]) hx hb d1_6_34 rfl hl (by decide) rfl (fun ls hl => ?_)
    refine lv_iload_n hx hb d1_6_35 rfl (lv_at hl 3 rfl) ?_
    refine lv_iconst (v := (-1)) hx hb d1_6_36 (by decide) ?_
    refine lv_icmp_eq (tgt := 54) hx hb d1_6_37 rfl (fun c2 => ?_) (fun c2 => ?_)
    ·
      refine lv_aload_n hx hb d1_6_54 rfl (lv_at hl 1 rfl) ?_
      refine va_get (D := G.1) (ci := 0) (v := .ref (q 4)) (C := r_0) (T := f_0) (N := 7) (ref := "PagedValues") hx hb hts (fun w h => List.mem_cons_of_mem _ (ly_0 w h)) hown hK hP 0 rfl rfl 3 (by decide) (hts _ (List.mem_cons_of_mem _ k273)) (fun _ h9 => h9) rfl d1_6_55 ?_
      refine lv_aload_n hx hb d1_6_58 rfl (lv_at hl 1 rfl) ?_
      refine va_get (D := G.1) (ci := 0) (v := .ref (q 1)) (C := r_0) (T := f_0) (N := 7) (ref := "PagedValues") hx hb hts (fun w h => List.mem_cons_of_mem _ (ly_0 w h)) hown hK hP 0 rfl rfl 0 (by decide) (hts _ (List.mem_cons_of_mem _ k270)) (fun _ h9 => h9) rfl d1_6_59 ?_
      refine sV_v (As := [.ref (q 1)]) (rest := []) ⟨hx, hb, hml, hown, hts⟩ (b8_2_36 l G Zd q cw R Q pl _) (kw_V (n := 1) hts k895 k892 k10 k893 k894 (by decide +kernel) ⟨Nat.le_of_ble_eq_true rfl, Nat.le_of_ble_eq_true rfl⟩) hP hD hK hS hA hZ (va_recv (ci := 6) (q0 := 4) hK hP rfl rfl) rfl hl.1 rfl (Nat.le_of_ble_eq_true rfl) d1_6_62 ⟨Nat.le_of_ble_eq_true rfl, Nat.le_of_ble_eq_true rfl⟩ (fun u H locs hp hP hD hS => ?_)
      refine W.eq (g2 := F0 m 65 ls []) rfl ?_
      have hP : va_P G.1 vwCl (wC q G.2 cw (upd (upd (upd cI0 4 0) 1 0) 2 0) cA0 R Q pl) H := hP
      have hD : va_D A (wC q G.2 cw (upd (upd (upd cI0 4 0) 1 0) 2 0) cA0 R Q pl) := hD
      refine lv_aload_n hx hb d1_6_65 rfl (lv_at hl 1 rfl) ?_
      refine va_get (D := G.1) (ci := 0) (v := .ref (q 1)) (C := r_0) (T := f_0) (N := 7) (ref := "PagedValues") hx hb hts (fun w h => List.mem_cons_of_mem _ (ly_0 w h)) hown hK hP 0 rfl rfl 0 (by decide) (hts _ (List.mem_cons_of_mem _ k270)) (fun _ h9 => h9) rfl d1_6_66 ?_
      refine sV_v (As := []) (rest := []) ⟨hx, hb, hml, hown, hts⟩ (b11_3_37 l G Zd q cw R Q pl _) (kw_V (n := 0) hts k674 k671 k2 k672 k673 (by decide +kernel) ⟨Nat.le_of_ble_eq_true rfl, Nat.le_of_ble_eq_true rfl⟩) hP hD hK hS hA hZ (va_recv (ci := 1) (q0 := 1) hK hP rfl rfl) rfl hl.1 rfl (Nat.le_of_ble_eq_true rfl) d1_6_69 ⟨Nat.le_of_ble_eq_true rfl, Nat.le_of_ble_eq_true rfl⟩ (fun u H locs hp hP hD hS => ?_)
      refine W.eq (g2 := F0 m 72 ls []) rfl ?_
      have hP : va_P G.1 vwCl (wC q G.2 cw (upd (upd (upd (upd cI0 4 0) 1 0) 2 0) 0 0) cA0 R Q pl) H := hP
      have hD : va_D A (wC q G.2 cw (upd (upd (upd (upd cI0 4 0) 1 0) 2 0) 0 0) cA0 R Q pl) := hD
      refine lv_aload_n hx hb d1_6_72 rfl (lv_at hl 1 rfl) ?_
      refine va_get (D := G.1) (ci := 0) (v := .ref (q 5)) (C := r_0) (T := f_0) (N := 7) (ref := "PagedValues") hx hb hts (fun w h => List.mem_cons_of_mem _ (ly_0 w h)) hown hK hP 0 rfl rfl 4 (by decide) (hts _ (List.mem_cons_of_mem _ k274)) (fun _ h9 => h9) rfl d1_6_73 ?_
      refine sV_v (As := []) (rest := []) ⟨hx, hb, hml, hown, hts⟩ (b3_2_38 l G Zd q cw R Q pl _) (kw_V (n := 0) hts k942 k939 k12 k940 k941 (by decide +kernel) ⟨Nat.le_of_ble_eq_true rfl, Nat.le_of_ble_eq_true rfl⟩) hP hD hK hS hA hZ (va_recv (ci := 8) (q0 := 5) hK hP rfl rfl) rfl hl.1 rfl (Nat.le_of_ble_eq_true rfl) d1_6_76 ⟨Nat.le_of_ble_eq_true rfl, Nat.le_of_ble_eq_true rfl⟩ (fun u H locs hp hP hD hS => ?_)
      refine W.eq (g2 := F0 m 79 ls []) rfl ?_
      have hP : va_P G.1 vwCl (wC q G.2 cw (upd (upd (upd (upd (upd (upd cI0 4 0) 1 0) 2 0) 0 0) 5 0) 8 0) cA0 R Q pl) H := hP
      have hD : va_D A (wC q G.2 cw (upd (upd (upd (upd (upd (upd cI0 4 0) 1 0) 2 0) 0 0) 5 0) 8 0) cA0 R Q pl) := hD
      refine lv_aload_n hx hb d1_6_79 rfl (lv_at hl 1 rfl) ?_
      refine va_get (D := G.1) (ci := 0) (v := .ref (q 1)) (C := r_0) (T := f_0) (N := 7) (ref := "PagedValues") hx hb hts (fun w h => List.mem_cons_of_mem _ (ly_0 w h)) hown hK hP 0 rfl rfl 0 (by decide) (hts _ (List.mem_cons_of_mem _ k270)) (fun _ h9 => h9) rfl d1_6_80 ?_
      refine sV_i (As := []) (rest := []) ⟨hx, hb, hml, hown, hts⟩ (b11_5_39 l G Zd q cw R Q pl _) (kw_V (n := 0) hts k580 k943 k2 k578 k579 (by decide +kernel) ⟨Nat.le_of_ble_eq_true rfl, Nat.le_of_ble_eq_true rfl⟩) hP hD hK hS hA hZ (va_recv (ci := 1) (q0 := 1) hK hP rfl rfl) rfl hl.1 rfl (Nat.le_of_ble_eq_true rfl) d1_6_83 ⟨Nat.le_of_ble_eq_true rfl, Nat.le_of_ble_eq_true rfl⟩ (fun rr u H locs hp hP hD hS => ?_)
      obtain rfl := hp
      refine W.eq (g2 := F0 m 86 ls [.int 0]) rfl ?_
      have hP : va_P G.1 vwCl (wC q G.2 cw (upd (upd (upd (upd (upd (upd cI0 4 0) 1 0) 2 0) 0 0) 5 0) 8 0) cA0 R Q pl) H := hP
      have hD : va_D A (wC q G.2 cw (upd (upd (upd (upd (upd (upd cI0 4 0) 1 0) 2 0) 0 0) 5 0) 8 0) cA0 R Q pl) := hD
      refine lv_if_ne (tgt := 100) hx hb d1_6_86 rfl (fun hc => absurd hc (by decide)) (fun _ => ?_)
      refine lv_bipush (v := (-100)) hx hb d1_6_89 (by decide) ?_
      refine lv_aload_n hx hb d1_6_91 rfl (lv_at hl 1 rfl) ?_
      refine va_get (D := G.1) (ci := 0) (v := .ref (q 1)) (C := r_0) (T := f_0) (N := 7) (ref := "PagedValues") hx hb hts (fun w h => List.mem_cons_of_mem _ (ly_0 w h)) hown hK hP 0 rfl rfl 0 (by decide) (hts _ (List.mem_cons_of_mem _ k270)) (fun _ h9 => h9) rfl d1_6_92 ?_
      refine va_getN (D := G.1) (ci := 1) (v := .int 0) (C := r_1) (T := f_1) (N := 5) (ref := "PagedValues$Text") hx hb hts (fun w h => List.mem_cons_of_mem _ (ly_1 w h)) hown hK hP 1 rfl rfl 4 (by decide) (va_Nw.use rfl (hZ.1 _ kn82)) (fun _ h9 => h9) rfl d1_6_95 ?_
      refine lv_isub hx hb d1_6_98 ?_
      refine W.eq (g2 := F0 m 99 ls [.int (-100)]) rfl ?_
      exact fin_i hx hb hr hlk hS () (if_pos (show (-1 : Int32).toInt = -1 ∧ id.toInt = -1 by have L9 := lits; have fc2 := c2; (first | replace fc2 := wt_0 fc2 | replace fc2 := wt_1 fc2 | replace fc2 := an_rd_0 fc2 | simp only [Int32.lt_iff_toInt_lt, Int32.le_iff_toInt_le, ← Int32.toInt_inj, ne_eq] at fc2 | skip); omega)).symm (fun k q h => by simp at h) ⟨fun i j x y h => by simp at h, fun k q h => by simp at h⟩ (Nat.le_of_ble_eq_true rfl) (Nat.le_of_ble_eq_true rfl) d1_6_99
    ·
      refine lv_aload_n hx hb d1_6_40 rfl (lv_at hl 1 rfl) ?_
      refine va_get (D := G.1) (ci := 0) (v := .ref (q 6)) (C := r_0) (T := f_0) (N := 7) (ref := "PagedValues") hx hb hts (fun w h => List.mem_cons_of_mem _ (ly_0 w h)) hown hK hP 0 rfl rfl 5 (by decide) (hts _ (List.mem_cons_of_mem _ k275)) (fun _ h9 => h9) rfl d1_6_41 ?_
      refine lv_iload_n hx hb d1_6_44 rfl (lv_at hl 0 rfl) ?_
      refine lv_iload_n hx hb d1_6_45 rfl (lv_at hl 3 rfl) ?_
      refine sV_q (As := [.int (-1), .int id]) (rest := []) ⟨hx, hb, hml, hown, hts⟩ (b10_11_22 l G Zd q cw R Q pl id _) (kw_V (n := 2) hts k702 k746 k13 k700 k701 (by decide +kernel) ⟨Nat.le_of_ble_eq_true rfl, Nat.le_of_ble_eq_true rfl⟩) hP hD hK hS hA hZ (va_recv (ci := 9) (q0 := 6) hK hP rfl rfl) rfl hl.1 rfl (Nat.le_of_ble_eq_true rfl) d1_6_46 ⟨Nat.le_of_ble_eq_true rfl, Nat.le_of_ble_eq_true rfl⟩ (fun rr u H locs hp hP hD hS => ?_)
      obtain rfl := hp
      refine W.eq (g2 := F0 m 49 ls [.null]) rfl ?_
      have hP : va_P G.1 vwCl (wC q G.2 cw cI0 cA0 R Q pl) H := hP
      have hD : va_D A (wC q G.2 cw cI0 cA0 R Q pl) := hD
      refine lv_ifnonnullN hx hb d1_6_49 ?_
      refine lv_iconst (v := (-1)) hx hb d1_6_52 (by decide) ?_
      exact fin_i hx hb hr hlk hS () (if_neg (show ¬ ((-1 : Int32).toInt = -1 ∧ id.toInt = -1) by have L9 := lits; have fc2 := c2; (first | replace fc2 := wt_0 fc2 | replace fc2 := wt_1 fc2 | replace fc2 := an_rd_0 fc2 | simp only [Int32.lt_iff_toInt_lt, Int32.le_iff_toInt_le, ← Int32.toInt_inj, ne_eq] at fc2 | skip); omega)).symm (fun k q h => by simp at h) ⟨fun i j x y h => by simp at h, fun k q h => by simp at h⟩ (Nat.le_of_ble_eq_true rfl) (Nat.le_of_ble_eq_true rfl) d1_6_53
  ·
    refine lv_iconst (v := (-1)) hx hb d1_6_24 (by decide) ?_
    exact fin_i hx hb hr hlk hS () (if_neg (show ¬ (r.toInt = -1 ∧ id.toInt = -1) by have L9 := lits; have fc1 := c1; (first | replace fc1 := wt_0 fc1 | replace fc1 := wt_1 fc1 | replace fc1 := an_rd_0 fc1 | simp only [Int32.lt_iff_toInt_lt, Int32.le_iff_toInt_le, ← Int32.toInt_inj, ne_eq] at fc1 | skip); omega)).symm (fun k q h => by simp at h) ⟨fun i j x y h => by simp at h, fun k q h => by simp at h⟩ (Nat.le_of_ble_eq_true rfl) (Nat.le_of_ble_eq_true rfl) d1_6_25
set_option maxHeartbeats 4000000 in
set_option maxRecDepth 100000 in
theorem tc_print (l : Launch) (G : Gk) (Zd q : Nat → Nat) (cw : Nat) (R : Nat → Option Nat) (Q : Nat → Nat → Option Nat) (pl : va_W) (r id : Int32) (sz : Nat) : Met l y1_9 (Cond.code y1_9 prog_1_method_9_code 4 (some .int) :: TB) (rmD 3 0 0) (va_Pc [.ref (q 0), .int r, .int id] (pcW G Zd (wC q G.2 cw cI0 cA0 R Q pl) sz)) (qI G (fun rr (_ : Unit) => rr = -1) (fun _ => []) (va_A (wC q G.2 cw cI0 cA0 R Q pl) sz)) 0 0 (va_A (wC q G.2 cw cI0 cA0 R Q pl) sz) := by
  refine go (Qc := qI G (fun rr (_ : Unit) => rr = -1) (fun _ => [])) "PagedValues" rfl (by decide) (Nat.le_of_ble_eq_true rfl) ?_
  intro p e s m below meth c ls A hx hb hr hlk hml hown hts hin hl hP hD hK hS hA hZ
  have hl : lv_has ls 4 [(0, .ref (q 0)), (1, .int r), (2, .int id)] := hl
  refine lv_aload_n hx hb d1_9_0 rfl (lv_at hl 0 rfl) ?_
  refine va_get (D := G.1) (ci := 0) (v := .ref (q 6)) (C := r_0) (T := f_0) (N := 7) (ref := "PagedValues") hx hb hts (fun w h => List.mem_cons_of_mem _ (ly_0 w h)) hown hK hP 0 rfl rfl 5 (by decide) (hts _ (List.mem_cons_of_mem _ k275)) (fun _ h9 => h9) rfl d1_9_1 ?_
  refine va_getN (D := G.1) (ci := 9) (v := .int 0) (C := r_9) (T := f_9) (N := 9) (ref := "PagedValues$Store") hx hb hts (fun w h => List.mem_cons_of_mem _ (ly_9 w h)) hown hK hP 6 rfl rfl 8 (by decide) (va_Nw.use rfl (hZ.1 _ kn247)) (fun _ h9 => h9) rfl d1_9_4 ?_
  refine lv_if_eq (tgt := 13) hx hb d1_9_7 rfl (fun _ => ?_) (fun hc => absurd hc (by decide))
  refine lv_aload_n hx hb d1_9_13 rfl (lv_at hl 0 rfl) ?_
  refine va_get (D := G.1) (ci := 0) (v := .ref (q 6)) (C := r_0) (T := f_0) (N := 7) (ref := "PagedValues") hx hb hts (fun w h => List.mem_cons_of_mem _ (ly_0 w h)) hown hK hP 0 rfl rfl 5 (by decide) (hts _ (List.mem_cons_of_mem _ k275)) (fun _ h9 => h9) rfl d1_9_14 ?_
  refine lv_iload_n hx hb d1_9_17 rfl (lv_at hl 1 rfl) ?_
  refine sV_i (As := [.int r]) (rest := []) ⟨hx, hb, hml, hown, hts⟩ (bc_canRead l G Zd q cw R Q pl r _) (kw_V (n := 1) hts k883 k880 k13 k881 k882 (by decide +kernel) ⟨Nat.le_of_ble_eq_true rfl, Nat.le_of_ble_eq_true rfl⟩) hP hD hK hS hA hZ (va_recv (ci := 9) (q0 := 6) hK hP rfl rfl) rfl hl.1 rfl (Nat.le_of_ble_eq_true rfl) d1_9_18 ⟨Nat.le_of_ble_eq_true rfl, Nat.le_of_ble_eq_true rfl⟩ (fun rr u H locs hp hP hD hS => ?_)
  obtain rfl := hp
  refine W.eq (g2 := F0 m 21 ls [.int (an_rd r)]) rfl ?_
  have hP : va_P G.1 vwCl (wC q G.2 cw cI0 cA0 R Q pl) H := hP
  have hD : va_D A (wC q G.2 cw cI0 cA0 R Q pl) := hD
  refine lv_if_eq (tgt := 43) hx hb d1_9_21 rfl (fun c1 => ?_) (fun c1 => ?_)
  ·
    refine lv_null hx hb d1_9_43 ?_
    refine lv_astore_nN (lv' := [(3, .null), (0, .ref (q 0)), (1, .int r), (2, .int id)]) hx hb d1_9_44 rfl hl (by decide) rfl (fun ls hl => ?_)
    refine lv_aload_nN hx hb d1_9_45 rfl (lv_at hl 0 rfl) ?_
    refine lv_ifnonnullN hx hb d1_9_46 ?_
    refine lv_iconst (v := (-1)) hx hb d1_9_49 (by decide) ?_
    refine lv_goto (tgt := 58) hx hb d1_9_50 rfl ?_
    exact fin_i hx hb hr hlk hS () rfl (fun k q h => by simp at h) ⟨fun i j x y h => by simp at h, fun k q h => by simp at h⟩ (Nat.le_of_ble_eq_true rfl) (Nat.le_of_ble_eq_true rfl) d1_9_58
  ·
    obtain rfl := an_rd_1 c1
    refine lv_aload_n hx hb d1_9_24 rfl (lv_at hl 0 rfl) ?_
    refine va_get (D := G.1) (ci := 0) (v := .ref (q 6)) (C := r_0) (T := f_0) (N := 7) (ref := "PagedValues") hx hb hts (fun w h => List.mem_cons_of_mem _ (ly_0 w h)) hown hK hP 0 rfl rfl 5 (by decide) (hts _ (List.mem_cons_of_mem _ k275)) (fun _ h9 => h9) rfl d1_9_25 ?_
    refine lv_aload_n hx hb d1_9_28 rfl (lv_at hl 0 rfl) ?_
    refine va_get (D := G.1) (ci := 0) (v := .ref (q 6)) (C := r_0) (T := f_0) (N := 7) (ref := "PagedValues") hx hb hts (fun w h => List.mem_cons_of_mem _ (ly_0 w h)) hown hK hP 0 rfl rfl 5 (by decide) (hts _ (List.mem_cons_of_mem _ k275)) (fun _ h9 => h9) rfl d1_9_29 ?_
    refine lv_iload_n hx hb d1_9_32 rfl (lv_at hl 1 rfl) ?_
    refine sV_i (As := [.int (-1)]) (rest := [.ref (q 6)]) ⟨hx, hb, hml, hown, hts⟩ (b10_6_30 l G Zd q cw R Q pl _) (kw_V (n := 1) hts k891 k888 k13 k889 k890 (by decide +kernel) ⟨Nat.le_of_ble_eq_true rfl, Nat.le_of_ble_eq_true rfl⟩) hP hD hK hS hA hZ (va_recv (ci := 9) (q0 := 6) hK hP rfl rfl) rfl hl.1 rfl (Nat.le_of_ble_eq_true rfl) d1_9_33 ⟨Nat.le_of_ble_eq_true rfl, Nat.le_of_ble_eq_true rfl⟩ (fun rr u H locs hp hP hD hS => ?_)
    obtain rfl := hp
    refine W.eq (g2 := F0 m 36 ls [.int (-1), .ref (q 6)]) rfl ?_
    have hP : va_P G.1 vwCl (wC q G.2 cw cI0 cA0 R Q pl) H := hP
    have hD : va_D A (wC q G.2 cw cI0 cA0 R Q pl) := hD
    refine lv_iload_n hx hb d1_9_36 rfl (lv_at hl 2 rfl) ?_
    refine sV_q (As := [.int (-1), .int id]) (rest := []) ⟨hx, hb, hml, hown, hts⟩ (b10_11_22 l G Zd q cw R Q pl id _) (kw_V (n := 2) hts k702 k746 k13 k700 k701 (by decide +kernel) ⟨Nat.le_of_ble_eq_true rfl, Nat.le_of_ble_eq_true rfl⟩) hP hD hK hS hA hZ (va_recv (ci := 9) (q0 := 6) hK hP rfl rfl) rfl hl.1 rfl (Nat.le_of_ble_eq_true rfl) d1_9_37 ⟨Nat.le_of_ble_eq_true rfl, Nat.le_of_ble_eq_true rfl⟩ (fun rr u H locs hp hP hD hS => ?_)
    obtain rfl := hp
    refine W.eq (g2 := F0 m 40 ls [.null]) rfl ?_
    have hP : va_P G.1 vwCl (wC q G.2 cw cI0 cA0 R Q pl) H := hP
    have hD : va_D A (wC q G.2 cw cI0 cA0 R Q pl) := hD
    refine lv_goto (tgt := 44) hx hb d1_9_40 rfl ?_
    refine lv_astore_nN (lv' := [(3, .null), (0, .ref (q 0)), (1, .int (-1)), (2, .int id)]) hx hb d1_9_44 rfl hl (by decide) rfl (fun ls hl => ?_)
    refine lv_aload_nN hx hb d1_9_45 rfl (lv_at hl 0 rfl) ?_
    refine lv_ifnonnullN hx hb d1_9_46 ?_
    refine lv_iconst (v := (-1)) hx hb d1_9_49 (by decide) ?_
    refine lv_goto (tgt := 58) hx hb d1_9_50 rfl ?_
    exact fin_i hx hb hr hlk hS () rfl (fun k q h => by simp at h) ⟨fun i j x y h => by simp at h, fun k q h => by simp at h⟩ (Nat.le_of_ble_eq_true rfl) (Nat.le_of_ble_eq_true rfl) d1_9_58
set_option maxHeartbeats 4000000 in
set_option maxRecDepth 100000 in
theorem b10_8_40 (l : Launch) (G : Gk) (Zd q : Nat → Nat) (cw : Nat) (R : Nat → Option Nat) (Q : Nat → Nat → Option Nat) (pl : va_W) (x1 : Int32) (sz : Nat) : Met l y10_8 (Cond.code y10_8 prog_10_method_8_code 2 (some .boolean) :: TB) (rmD 1 0 0) (va_Pc [.ref (q 6), .int x1] (pcW G Zd (wC q G.2 cw cI0 cA0 R Q pl) sz)) (qI G (fun rr (_ : Unit) => rr = 0) (fun _ => (wC q G.2 cw cI0 cA0 R Q pl)) (va_A (wC q G.2 cw cI0 cA0 R Q pl) sz)) 0 0 (va_A (wC q G.2 cw cI0 cA0 R Q pl) sz) := by
  refine go (Qc := qI G (fun rr (_ : Unit) => rr = 0) (fun _ => (wC q G.2 cw cI0 cA0 R Q pl))) "PagedValues$Store" rfl (by decide) (Nat.le_of_ble_eq_true rfl) ?_
  intro p e s m below meth c ls A hx hb hr hlk hml hown hts hin hl hP hD hK hS hA hZ
  have hl : lv_has ls 2 [(0, .ref (q 6)), (1, .int x1)] := hl
  refine lv_aload_n hx hb d10_8_0 rfl (lv_at hl 0 rfl) ?_
  refine lv_iload_n hx hb d10_8_1 rfl (lv_at hl 1 rfl) ?_
  refine sV_i (As := [.int x1]) (rest := []) ⟨hx, hb, hml, hown, hts⟩ (b10_4_1 l G Zd q cw R Q pl x1 _) (kw_V (n := 1) hts k887 k884 k13 k885 k886 (by decide +kernel) ⟨Nat.le_of_ble_eq_true rfl, Nat.le_of_ble_eq_true rfl⟩) hP hD hK hS hA hZ (va_recv (ci := 9) (q0 := 6) hK hP rfl rfl) rfl hl.1 rfl (Nat.le_of_ble_eq_true rfl) d10_8_2 ⟨Nat.le_of_ble_eq_true rfl, Nat.le_of_ble_eq_true rfl⟩ (fun rr u H locs hp hP hD hS => ?_)
  obtain rfl := hp
  refine W.eq (g2 := F0 m 5 ls [.int 0]) rfl ?_
  have hP : va_P G.1 vwCl (wC q G.2 cw cI0 cA0 R Q pl) H := hP
  have hD : va_D A (wC q G.2 cw cI0 cA0 R Q pl) := hD
  refine lv_if_ne (tgt := 10) hx hb d10_8_5 rfl (fun hc => absurd hc (by decide)) (fun _ => ?_)
  refine lv_iconst (v := 0) hx hb d10_8_8 (by decide) ?_
  exact fin_z hx hb hr hlk (by decide) hS () rfl hP hD (Nat.le_of_ble_eq_true rfl) (Nat.le_of_ble_eq_true rfl) d10_8_9
set_option maxHeartbeats 4000000 in
set_option maxRecDepth 100000 in
theorem tc_close (l : Launch) (G : Gk) (Zd q : Nat → Nat) (cw : Nat) (R : Nat → Option Nat) (Q : Nat → Nat → Option Nat) (pl : va_W) (r : Int32) (sz : Nat) : Met l y1_12 (Cond.code y1_12 prog_1_method_12_code 2 (some .boolean) :: TB) (rmD 2 0 0) (va_Pc [.ref (q 0), .int r] (pcW G Zd (wC q G.2 cw cI0 cA0 R Q pl) sz)) (qI G (fun rr (_ : Unit) => rr = 0) (fun _ => []) (va_A (wC q G.2 cw cI0 cA0 R Q pl) sz)) 0 0 (va_A (wC q G.2 cw cI0 cA0 R Q pl) sz) := by
  refine go (Qc := qI G (fun rr (_ : Unit) => rr = 0) (fun _ => [])) "PagedValues" rfl (by decide) (Nat.le_of_ble_eq_true rfl) ?_
  intro p e s m below meth c ls A hx hb hr hlk hml hown hts hin hl hP hD hK hS hA hZ
  have hl : lv_has ls 2 [(0, .ref (q 0)), (1, .int r)] := hl
  refine lv_aload_n hx hb d1_12_0 rfl (lv_at hl 0 rfl) ?_
  refine va_get (D := G.1) (ci := 0) (v := .ref (q 6)) (C := r_0) (T := f_0) (N := 7) (ref := "PagedValues") hx hb hts (fun w h => List.mem_cons_of_mem _ (ly_0 w h)) hown hK hP 0 rfl rfl 5 (by decide) (hts _ (List.mem_cons_of_mem _ k275)) (fun _ h9 => h9) rfl d1_12_1 ?_
  refine va_getN (D := G.1) (ci := 9) (v := .int 0) (C := r_9) (T := f_9) (N := 9) (ref := "PagedValues$Store") hx hb hts (fun w h => List.mem_cons_of_mem _ (ly_9 w h)) hown hK hP 6 rfl rfl 8 (by decide) (va_Nw.use rfl (hZ.1 _ kn247)) (fun _ h9 => h9) rfl d1_12_4 ?_
  refine lv_if_ne (tgt := 25) hx hb d1_12_7 rfl (fun hc => absurd hc (by decide)) (fun _ => ?_)
  refine lv_aload_n hx hb d1_12_10 rfl (lv_at hl 0 rfl) ?_
  refine va_get (D := G.1) (ci := 0) (v := .ref (q 6)) (C := r_0) (T := f_0) (N := 7) (ref := "PagedValues") hx hb hts (fun w h => List.mem_cons_of_mem _ (ly_0 w h)) hown hK hP 0 rfl rfl 5 (by decide) (hts _ (List.mem_cons_of_mem _ k275)) (fun _ h9 => h9) rfl d1_12_11 ?_
  refine lv_iload_n hx hb d1_12_14 rfl (lv_at hl 1 rfl) ?_
  refine sV_i (As := [.int r]) (rest := []) ⟨hx, hb, hml, hown, hts⟩ (b10_8_40 l G Zd q cw R Q pl r _) (kw_V (n := 1) hts k1122 k1119 k13 k1120 k1121 (by decide +kernel) ⟨Nat.le_of_ble_eq_true rfl, Nat.le_of_ble_eq_true rfl⟩) hP hD hK hS hA hZ (va_recv (ci := 9) (q0 := 6) hK hP rfl rfl) rfl hl.1 rfl (Nat.le_of_ble_eq_true rfl) d1_12_15 ⟨Nat.le_of_ble_eq_true rfl, Nat.le_of_ble_eq_true rfl⟩ (fun rr u H locs hp hP hD hS => ?_)
  obtain rfl := hp
  refine W.eq (g2 := F0 m 18 ls [.int 0]) rfl ?_
  have hP : va_P G.1 vwCl (wC q G.2 cw cI0 cA0 R Q pl) H := hP
  have hD : va_D A (wC q G.2 cw cI0 cA0 R Q pl) := hD
  refine lv_if_eq (tgt := 25) hx hb d1_12_18 rfl (fun _ => ?_) (fun hc => absurd hc (by decide))
  refine lv_iconst (v := 0) hx hb d1_12_25 (by decide) ?_
  exact fin_z hx hb hr hlk (by decide) hS () rfl (fun k q h => by simp at h) ⟨fun i j x y h => by simp at h, fun k q h => by simp at h⟩ (Nat.le_of_ble_eq_true rfl) (Nat.le_of_ble_eq_true rfl) d1_12_26
set_option maxHeartbeats 4000000 in
set_option maxRecDepth 100000 in
theorem b10_11_41 (l : Launch) (G : Gk) (Zd q : Nat → Nat) (cw : Nat) (R : Nat → Option Nat) (Q : Nat → Nat → Option Nat) (pl : va_W)  (sz : Nat) : Met l y10_11 (Cond.code y10_11 prog_10_method_11_code 4 (some (.object "PagedValues$Value")) :: TB) (rmD 1 0 0) (va_Pc [.ref (q 6), .int (-1), .int 0] (pcW G Zd (wC q G.2 cw cI0 cA0 R Q pl) sz)) (qQ G (fun rr (_ : Unit) => rr = none) (fun _ => (wC q G.2 cw cI0 cA0 R Q pl)) (va_A (wC q G.2 cw cI0 cA0 R Q pl) sz)) 0 0 (va_A (wC q G.2 cw cI0 cA0 R Q pl) sz) := by
  refine go (Qc := qQ G (fun rr (_ : Unit) => rr = none) (fun _ => (wC q G.2 cw cI0 cA0 R Q pl))) "PagedValues$Store" rfl (by decide) (Nat.le_of_ble_eq_true rfl) ?_
  intro p e s m below meth c ls A hx hb hr hlk hml hown hts hin hl hP hD hK hS hA hZ
  have hl : lv_has ls 4 [(0, .ref (q 6)), (1, .int (-1)), (2, .int 0)] := hl
  refine lv_iload_n hx hb d10_11_0 rfl (lv_at hl 2 rfl) ?_
  refine sSN_i (As := [.int 0]) (rest := []) ⟨hx, hb, hml, hown, hts⟩ (bc_isId l G Zd q _ 0 _) (kw_SN (n := 1) hts hZ.1 k306 kn703 k1 k305 (by decide +kernel) ⟨Nat.le_of_ble_eq_true rfl, Nat.le_of_ble_eq_true rfl⟩) hP hD hK hS hA hZ rfl hl.1 rfl (Nat.le_of_ble_eq_true rfl) d10_11_1 ⟨Nat.le_of_ble_eq_true rfl, Nat.le_of_ble_eq_true rfl⟩ (fun rr u H locs hp hP hD hS => ?_)
  have hp := hp.trans (show wt 0 0 7 = 1 by decide)
  obtain rfl := hp
  refine W.eq (g2 := F0 m 4 ls [.int 1]) rfl ?_
  have hP : va_P G.1 vwCl (wC q G.2 cw cI0 cA0 R Q pl) H := hP
  have hD : va_D A (wC q G.2 cw cI0 cA0 R Q pl) := hD
  refine lv_if_ne (tgt := 9) hx hb d10_11_4 rfl (fun _ => ?_) (fun hc => absurd hc (by decide))
  refine lv_aload_n hx hb d10_11_9 rfl (lv_at hl 0 rfl) ?_
  refine lv_iload_n hx hb d10_11_10 rfl (lv_at hl 1 rfl) ?_
  refine lv_iload_n hx hb d10_11_11 rfl (lv_at hl 2 rfl) ?_
  refine lv_iconst (v := 4) hx hb d10_11_12 (by decide) ?_
  refine lv_idiv hx hb d10_11_13 (by decide) ?_
  refine sV_i (As := [.int (-1), .int (0 / 4)]) (rest := []) ⟨hx, hb, hml, hown, hts⟩ (b10_10_21 l G Zd q cw R Q pl (0 / 4) _) (kw_V (n := 2) hts k694 k691 k13 k693 ks8 (by decide +kernel) ⟨Nat.le_of_ble_eq_true rfl, Nat.le_of_ble_eq_true rfl⟩) hP hD hK hS hA hZ (va_recv (ci := 9) (q0 := 6) hK hP rfl rfl) rfl hl.1 rfl (Nat.le_of_ble_eq_true rfl) d10_11_14 ⟨Nat.le_of_ble_eq_true rfl, Nat.le_of_ble_eq_true rfl⟩ (fun rr u H locs hp hP hD hS => ?_)
  obtain rfl := hp
  refine W.eq (g2 := F0 m 17 ls [.int (-1)]) rfl ?_
  have hP : va_P G.1 vwCl (wC q G.2 cw cI0 cA0 R Q pl) H := hP
  have hD : va_D A (wC q G.2 cw cI0 cA0 R Q pl) := hD
  refine lv_istore_n (lv' := [(3, .int (-1)), (0, .ref (q 6)), (1, .int (-1)), (2, .int 0)]) hx hb d10_11_17 rfl hl (by decide) rfl (fun ls hl => ?_)
  refine lv_iload_n hx hb d10_11_18 rfl (lv_at hl 0 rfl) ?_
  refine lv_iconst (v := (-1)) hx hb d10_11_19 (by decide) ?_
  refine lv_icmp_ne (tgt := 27) hx hb d10_11_20 rfl (fun hc => absurd hc (by decide)) (fun _ => ?_)
  refine lv_null hx hb d10_11_23 ?_
  refine lv_goto (tgt := 40) hx hb d10_11_24 rfl ?_
  exact fin_q hx hb hr hlk (by first | exact Or.inl ⟨_, rfl⟩ | exact Or.inr ⟨_, rfl⟩) (r := none) hS () rfl hP hD (Nat.le_of_ble_eq_true rfl) (Nat.le_of_ble_eq_true rfl) d10_11_40
set_option maxHeartbeats 4000000 in
set_option maxRecDepth 100000 in
theorem b10_11_42 (l : Launch) (G : Gk) (Zd q : Nat → Nat) (cw : Nat) (R : Nat → Option Nat) (Q : Nat → Nat → Option Nat) (pl : va_W)  (sz : Nat) : Met l y10_11 (Cond.code y10_11 prog_10_method_11_code 4 (some (.object "PagedValues$Value")) :: TB) (rmD 1 0 0) (va_Pc [.ref (q 6), .int (-1), .int 1] (pcW G Zd (wC q G.2 cw cI0 cA0 R Q pl) sz)) (qQ G (fun rr (_ : Unit) => rr = none) (fun _ => (wC q G.2 cw cI0 cA0 R Q pl)) (va_A (wC q G.2 cw cI0 cA0 R Q pl) sz)) 0 0 (va_A (wC q G.2 cw cI0 cA0 R Q pl) sz) := by
  refine go (Qc := qQ G (fun rr (_ : Unit) => rr = none) (fun _ => (wC q G.2 cw cI0 cA0 R Q pl))) "PagedValues$Store" rfl (by decide) (Nat.le_of_ble_eq_true rfl) ?_
  intro p e s m below meth c ls A hx hb hr hlk hml hown hts hin hl hP hD hK hS hA hZ
  have hl : lv_has ls 4 [(0, .ref (q 6)), (1, .int (-1)), (2, .int 1)] := hl
  refine lv_iload_n hx hb d10_11_0 rfl (lv_at hl 2 rfl) ?_
  refine sSN_i (As := [.int 1]) (rest := []) ⟨hx, hb, hml, hown, hts⟩ (bc_isId l G Zd q _ 1 _) (kw_SN (n := 1) hts hZ.1 k306 kn703 k1 k305 (by decide +kernel) ⟨Nat.le_of_ble_eq_true rfl, Nat.le_of_ble_eq_true rfl⟩) hP hD hK hS hA hZ rfl hl.1 rfl (Nat.le_of_ble_eq_true rfl) d10_11_1 ⟨Nat.le_of_ble_eq_true rfl, Nat.le_of_ble_eq_true rfl⟩ (fun rr u H locs hp hP hD hS => ?_)
  have hp := hp.trans (show wt 1 0 7 = 1 by decide)
  obtain rfl := hp
  refine W.eq (g2 := F0 m 4 ls [.int 1]) rfl ?_
  have hP : va_P G.1 vwCl (wC q G.2 cw cI0 cA0 R Q pl) H := hP
  have hD : va_D A (wC q G.2 cw cI0 cA0 R Q pl) := hD
  refine lv_if_ne (tgt := 9) hx hb d10_11_4 rfl (fun _ => ?_) (fun hc => absurd hc (by decide))
  refine lv_aload_n hx hb d10_11_9 rfl (lv_at hl 0 rfl) ?_
  refine lv_iload_n hx hb d10_11_10 rfl (lv_at hl 1 rfl) ?_
  refine lv_iload_n hx hb d10_11_11 rfl (lv_at hl 2 rfl) ?_
  refine lv_iconst (v := 4) hx hb d10_11_12 (by decide) ?_
  refine lv_idiv hx hb d10_11_13 (by decide) ?_
  refine sV_i (As := [.int (-1), .int (1 / 4)]) (rest := []) ⟨hx, hb, hml, hown, hts⟩ (b10_10_21 l G Zd q cw R Q pl (1 / 4) _) (kw_V (n := 2) hts k694 k691 k13 k693 ks8 (by decide +kernel) ⟨Nat.le_of_ble_eq_true rfl, Nat.le_of_ble_eq_true rfl⟩) hP hD hK hS hA hZ (va_recv (ci := 9) (q0 := 6) hK hP rfl rfl) rfl hl.1 rfl (Nat.le_of_ble_eq_true rfl) d10_11_14 ⟨Nat.le_of_ble_eq_true rfl, Nat.le_of_ble_eq_true rfl⟩ (fun rr u H locs hp hP hD hS => ?_)
  obtain rfl := hp
  refine W.eq (g2 := F0 m 17 ls [.int (-1)]) rfl ?_
  have hP : va_P G.1 vwCl (wC q G.2 cw cI0 cA0 R Q pl) H := hP
  have hD : va_D A (wC q G.2 cw cI0 cA0 R Q pl) := hD
  refine lv_istore_n (lv' := [(3, .int (-1)), (0, .ref (q 6)), (1, .int (-1)), (2, .int 1)]) hx hb d10_11_17 rfl hl (by decide) rfl (fun ls hl => ?_)
  refine lv_iload_n hx hb d10_11_18 rfl (lv_at hl 0 rfl) ?_
  refine lv_iconst (v := (-1)) hx hb d10_11_19 (by decide) ?_
  refine lv_icmp_ne (tgt := 27) hx hb d10_11_20 rfl (fun hc => absurd hc (by decide)) (fun _ => ?_)
  refine lv_null hx hb d10_11_23 ?_
  refine lv_goto (tgt := 40) hx hb d10_11_24 rfl ?_
  exact fin_q hx hb hr hlk (by first | exact Or.inl ⟨_, rfl⟩ | exact Or.inr ⟨_, rfl⟩) (r := none) hS () rfl hP hD (Nat.le_of_ble_eq_true rfl) (Nat.le_of_ble_eq_true rfl) d10_11_40
set_option maxHeartbeats 4000000 in
set_option maxRecDepth 100000 in
theorem b10_11_43 (l : Launch) (G : Gk) (Zd q : Nat → Nat) (cw : Nat) (R : Nat → Option Nat) (Q : Nat → Nat → Option Nat) (pl : va_W)  (sz : Nat) : Met l y10_11 (Cond.code y10_11 prog_10_method_11_code 4 (some (.object "PagedValues$Value")) :: TB) (rmD 1 0 0) (va_Pc [.ref (q 6), .int (-1), .int 2] (pcW G Zd (wC q G.2 cw cI0 cA0 R Q pl) sz)) (qQ G (fun rr (_ : Unit) => rr = none) (fun _ => (wC q G.2 cw cI0 cA0 R Q pl)) (va_A (wC q G.2 cw cI0 cA0 R Q pl) sz)) 0 0 (va_A (wC q G.2 cw cI0 cA0 R Q pl) sz) := by
  refine go (Qc := qQ G (fun rr (_ : Unit) => rr = none) (fun _ => (wC q G.2 cw cI0 cA0 R Q pl))) "PagedValues$Store" rfl (by decide) (Nat.le_of_ble_eq_true rfl) ?_
  intro p e s m below meth c ls A hx hb hr hlk hml hown hts hin hl hP hD hK hS hA hZ
  have hl : lv_has ls 4 [(0, .ref (q 6)), (1, .int (-1)), (2, .int 2)] := hl
  refine lv_iload_n hx hb d10_11_0 rfl (lv_at hl 2 rfl) ?_
  refine sSN_i (As := [.int 2]) (rest := []) ⟨hx, hb, hml, hown, hts⟩ (bc_isId l G Zd q _ 2 _) (kw_SN (n := 1) hts hZ.1 k306 kn703 k1 k305 (by decide +kernel) ⟨Nat.le_of_ble_eq_true rfl, Nat.le_of_ble_eq_true rfl⟩) hP hD hK hS hA hZ rfl hl.1 rfl (Nat.le_of_ble_eq_true rfl) d10_11_1 ⟨Nat.le_of_ble_eq_true rfl, Nat.le_of_ble_eq_true rfl⟩ (fun rr u H locs hp hP hD hS => ?_)
  have hp := hp.trans (show wt 2 0 7 = 1 by decide)
  obtain rfl := hp
  refine W.eq (g2 := F0 m 4 ls [.int 1]) rfl ?_
  have hP : va_P G.1 vwCl (wC q G.2 cw cI0 cA0 R Q pl) H := hP
  have hD : va_D A (wC q G.2 cw cI0 cA0 R Q pl) := hD
  refine lv_if_ne (tgt := 9) hx hb d10_11_4 rfl (fun _ => ?_) (fun hc => absurd hc (by decide))
  refine lv_aload_n hx hb d10_11_9 rfl (lv_at hl 0 rfl) ?_
  refine lv_iload_n hx hb d10_11_10 rfl (lv_at hl 1 rfl) ?_
  refine lv_iload_n hx hb d10_11_11 rfl (lv_at hl 2 rfl) ?_
  refine lv_iconst (v := 4) hx hb d10_11_12 (by decide) ?_
  refine lv_idiv hx hb d10_11_13 (by decide) ?_
  refine sV_i (As := [.int (-1), .int (2 / 4)]) (rest := []) ⟨hx, hb, hml, hown, hts⟩ (b10_10_21 l G Zd q cw R Q pl (2 / 4) _) (kw_V (n := 2) hts k694 k691 k13 k693 ks8 (by decide +kernel) ⟨Nat.le_of_ble_eq_true rfl, Nat.le_of_ble_eq_true rfl⟩) hP hD hK hS hA hZ (va_recv (ci := 9) (q0 := 6) hK hP rfl rfl) rfl hl.1 rfl (Nat.le_of_ble_eq_true rfl) d10_11_14 ⟨Nat.le_of_ble_eq_true rfl, Nat.le_of_ble_eq_true rfl⟩ (fun rr u H locs hp hP hD hS => ?_)
  obtain rfl := hp
  refine W.eq (g2 := F0 m 17 ls [.int (-1)]) rfl ?_
  have hP : va_P G.1 vwCl (wC q G.2 cw cI0 cA0 R Q pl) H := hP
  have hD : va_D A (wC q G.2 cw cI0 cA0 R Q pl) := hD
  refine lv_istore_n (lv' := [(3, .int (-1)), (0, .ref (q 6)), (1, .int (-1)), (2, .int 2)]) hx hb d10_11_17 rfl hl (by decide) rfl (fun ls hl => ?_)
  refine lv_iload_n hx hb d10_11_18 rfl (lv_at hl 0 rfl) ?_
  refine lv_iconst (v := (-1)) hx hb d10_11_19 (by decide) ?_
  refine lv_icmp_ne (tgt := 27) hx hb d10_11_20 rfl (fun hc => absurd hc (by decide)) (fun _ => ?_)
  refine lv_null hx hb d10_11_23 ?_
  refine lv_goto (tgt := 40) hx hb d10_11_24 rfl ?_
  exact fin_q hx hb hr hlk (by first | exact Or.inl ⟨_, rfl⟩ | exact Or.inr ⟨_, rfl⟩) (r := none) hS () rfl hP hD (Nat.le_of_ble_eq_true rfl) (Nat.le_of_ble_eq_true rfl) d10_11_40
set_option maxHeartbeats 4000000 in
set_option maxRecDepth 100000 in
theorem b10_11_44 (l : Launch) (G : Gk) (Zd q : Nat → Nat) (cw : Nat) (R : Nat → Option Nat) (Q : Nat → Nat → Option Nat) (pl : va_W)  (sz : Nat) : Met l y10_11 (Cond.code y10_11 prog_10_method_11_code 4 (some (.object "PagedValues$Value")) :: TB) (rmD 1 0 0) (va_Pc [.ref (q 6), .int (-1), .int 3] (pcW G Zd (wC q G.2 cw cI0 cA0 R Q pl) sz)) (qQ G (fun rr (_ : Unit) => rr = none) (fun _ => (wC q G.2 cw cI0 cA0 R Q pl)) (va_A (wC q G.2 cw cI0 cA0 R Q pl) sz)) 0 0 (va_A (wC q G.2 cw cI0 cA0 R Q pl) sz) := by
  refine go (Qc := qQ G (fun rr (_ : Unit) => rr = none) (fun _ => (wC q G.2 cw cI0 cA0 R Q pl))) "PagedValues$Store" rfl (by decide) (Nat.le_of_ble_eq_true rfl) ?_
  intro p e s m below meth c ls A hx hb hr hlk hml hown hts hin hl hP hD hK hS hA hZ
  have hl : lv_has ls 4 [(0, .ref (q 6)), (1, .int (-1)), (2, .int 3)] := hl
  refine lv_iload_n hx hb d10_11_0 rfl (lv_at hl 2 rfl) ?_
  refine sSN_i (As := [.int 3]) (rest := []) ⟨hx, hb, hml, hown, hts⟩ (bc_isId l G Zd q _ 3 _) (kw_SN (n := 1) hts hZ.1 k306 kn703 k1 k305 (by decide +kernel) ⟨Nat.le_of_ble_eq_true rfl, Nat.le_of_ble_eq_true rfl⟩) hP hD hK hS hA hZ rfl hl.1 rfl (Nat.le_of_ble_eq_true rfl) d10_11_1 ⟨Nat.le_of_ble_eq_true rfl, Nat.le_of_ble_eq_true rfl⟩ (fun rr u H locs hp hP hD hS => ?_)
  have hp := hp.trans (show wt 3 0 7 = 1 by decide)
  obtain rfl := hp
  refine W.eq (g2 := F0 m 4 ls [.int 1]) rfl ?_
  have hP : va_P G.1 vwCl (wC q G.2 cw cI0 cA0 R Q pl) H := hP
  have hD : va_D A (wC q G.2 cw cI0 cA0 R Q pl) := hD
  refine lv_if_ne (tgt := 9) hx hb d10_11_4 rfl (fun _ => ?_) (fun hc => absurd hc (by decide))
  refine lv_aload_n hx hb d10_11_9 rfl (lv_at hl 0 rfl) ?_
  refine lv_iload_n hx hb d10_11_10 rfl (lv_at hl 1 rfl) ?_
  refine lv_iload_n hx hb d10_11_11 rfl (lv_at hl 2 rfl) ?_
  refine lv_iconst (v := 4) hx hb d10_11_12 (by decide) ?_
  refine lv_idiv hx hb d10_11_13 (by decide) ?_
  refine sV_i (As := [.int (-1), .int (3 / 4)]) (rest := []) ⟨hx, hb, hml, hown, hts⟩ (b10_10_21 l G Zd q cw R Q pl (3 / 4) _) (kw_V (n := 2) hts k694 k691 k13 k693 ks8 (by decide +kernel) ⟨Nat.le_of_ble_eq_true rfl, Nat.le_of_ble_eq_true rfl⟩) hP hD hK hS hA hZ (va_recv (ci := 9) (q0 := 6) hK hP rfl rfl) rfl hl.1 rfl (Nat.le_of_ble_eq_true rfl) d10_11_14 ⟨Nat.le_of_ble_eq_true rfl, Nat.le_of_ble_eq_true rfl⟩ (fun rr u H locs hp hP hD hS => ?_)
  obtain rfl := hp
  refine W.eq (g2 := F0 m 17 ls [.int (-1)]) rfl ?_
  have hP : va_P G.1 vwCl (wC q G.2 cw cI0 cA0 R Q pl) H := hP
  have hD : va_D A (wC q G.2 cw cI0 cA0 R Q pl) := hD
  refine lv_istore_n (lv' := [(3, .int (-1)), (0, .ref (q 6)), (1, .int (-1)), (2, .int 3)]) hx hb d10_11_17 rfl hl (by decide) rfl (fun ls hl => ?_)
  refine lv_iload_n hx hb d10_11_18 rfl (lv_at hl 0 rfl) ?_
  refine lv_iconst (v := (-1)) hx hb d10_11_19 (by decide) ?_
  refine lv_icmp_ne (tgt := 27) hx hb d10_11_20 rfl (fun hc => absurd hc (by decide)) (fun _ => ?_)
  refine lv_null hx hb d10_11_23 ?_
  refine lv_goto (tgt := 40) hx hb d10_11_24 rfl ?_
  exact fin_q hx hb hr hlk (by first | exact Or.inl ⟨_, rfl⟩ | exact Or.inr ⟨_, rfl⟩) (r := none) hS () rfl hP hD (Nat.le_of_ble_eq_true rfl) (Nat.le_of_ble_eq_true rfl) d10_11_40
set_option maxHeartbeats 4000000 in
set_option maxRecDepth 100000 in
theorem b10_11_45 (l : Launch) (G : Gk) (Zd q : Nat → Nat) (cw : Nat) (R : Nat → Option Nat) (Q : Nat → Nat → Option Nat) (pl : va_W)  (sz : Nat) : Met l y10_11 (Cond.code y10_11 prog_10_method_11_code 4 (some (.object "PagedValues$Value")) :: TB) (rmD 1 0 0) (va_Pc [.ref (q 6), .int (-1), .int 4] (pcW G Zd (wC q G.2 cw cI0 cA0 R Q pl) sz)) (qQ G (fun rr (_ : Unit) => rr = none) (fun _ => (wC q G.2 cw cI0 cA0 R Q pl)) (va_A (wC q G.2 cw cI0 cA0 R Q pl) sz)) 0 0 (va_A (wC q G.2 cw cI0 cA0 R Q pl) sz) := by
  refine go (Qc := qQ G (fun rr (_ : Unit) => rr = none) (fun _ => (wC q G.2 cw cI0 cA0 R Q pl))) "PagedValues$Store" rfl (by decide) (Nat.le_of_ble_eq_true rfl) ?_
  intro p e s m below meth c ls A hx hb hr hlk hml hown hts hin hl hP hD hK hS hA hZ
  have hl : lv_has ls 4 [(0, .ref (q 6)), (1, .int (-1)), (2, .int 4)] := hl
  refine lv_iload_n hx hb d10_11_0 rfl (lv_at hl 2 rfl) ?_
  refine sSN_i (As := [.int 4]) (rest := []) ⟨hx, hb, hml, hown, hts⟩ (bc_isId l G Zd q _ 4 _) (kw_SN (n := 1) hts hZ.1 k306 kn703 k1 k305 (by decide +kernel) ⟨Nat.le_of_ble_eq_true rfl, Nat.le_of_ble_eq_true rfl⟩) hP hD hK hS hA hZ rfl hl.1 rfl (Nat.le_of_ble_eq_true rfl) d10_11_1 ⟨Nat.le_of_ble_eq_true rfl, Nat.le_of_ble_eq_true rfl⟩ (fun rr u H locs hp hP hD hS => ?_)
  have hp := hp.trans (show wt 4 0 7 = 1 by decide)
  obtain rfl := hp
  refine W.eq (g2 := F0 m 4 ls [.int 1]) rfl ?_
  have hP : va_P G.1 vwCl (wC q G.2 cw cI0 cA0 R Q pl) H := hP
  have hD : va_D A (wC q G.2 cw cI0 cA0 R Q pl) := hD
  refine lv_if_ne (tgt := 9) hx hb d10_11_4 rfl (fun _ => ?_) (fun hc => absurd hc (by decide))
  refine lv_aload_n hx hb d10_11_9 rfl (lv_at hl 0 rfl) ?_
  refine lv_iload_n hx hb d10_11_10 rfl (lv_at hl 1 rfl) ?_
  refine lv_iload_n hx hb d10_11_11 rfl (lv_at hl 2 rfl) ?_
  refine lv_iconst (v := 4) hx hb d10_11_12 (by decide) ?_
  refine lv_idiv hx hb d10_11_13 (by decide) ?_
  refine sV_i (As := [.int (-1), .int (4 / 4)]) (rest := []) ⟨hx, hb, hml, hown, hts⟩ (b10_10_21 l G Zd q cw R Q pl (4 / 4) _) (kw_V (n := 2) hts k694 k691 k13 k693 ks8 (by decide +kernel) ⟨Nat.le_of_ble_eq_true rfl, Nat.le_of_ble_eq_true rfl⟩) hP hD hK hS hA hZ (va_recv (ci := 9) (q0 := 6) hK hP rfl rfl) rfl hl.1 rfl (Nat.le_of_ble_eq_true rfl) d10_11_14 ⟨Nat.le_of_ble_eq_true rfl, Nat.le_of_ble_eq_true rfl⟩ (fun rr u H locs hp hP hD hS => ?_)
  obtain rfl := hp
  refine W.eq (g2 := F0 m 17 ls [.int (-1)]) rfl ?_
  have hP : va_P G.1 vwCl (wC q G.2 cw cI0 cA0 R Q pl) H := hP
  have hD : va_D A (wC q G.2 cw cI0 cA0 R Q pl) := hD
  refine lv_istore_n (lv' := [(3, .int (-1)), (0, .ref (q 6)), (1, .int (-1)), (2, .int 4)]) hx hb d10_11_17 rfl hl (by decide) rfl (fun ls hl => ?_)
  refine lv_iload_n hx hb d10_11_18 rfl (lv_at hl 0 rfl) ?_
  refine lv_iconst (v := (-1)) hx hb d10_11_19 (by decide) ?_
  refine lv_icmp_ne (tgt := 27) hx hb d10_11_20 rfl (fun hc => absurd hc (by decide)) (fun _ => ?_)
  refine lv_null hx hb d10_11_23 ?_
  refine lv_goto (tgt := 40) hx hb d10_11_24 rfl ?_
  exact fin_q hx hb hr hlk (by first | exact Or.inl ⟨_, rfl⟩ | exact Or.inr ⟨_, rfl⟩) (r := none) hS () rfl hP hD (Nat.le_of_ble_eq_true rfl) (Nat.le_of_ble_eq_true rfl) d10_11_40
set_option maxHeartbeats 4000000 in
set_option maxRecDepth 100000 in
theorem b10_11_46 (l : Launch) (G : Gk) (Zd q : Nat → Nat) (cw : Nat) (R : Nat → Option Nat) (Q : Nat → Nat → Option Nat) (pl : va_W)  (sz : Nat) : Met l y10_11 (Cond.code y10_11 prog_10_method_11_code 4 (some (.object "PagedValues$Value")) :: TB) (rmD 1 0 0) (va_Pc [.ref (q 6), .int (-1), .int 5] (pcW G Zd (wC q G.2 cw cI0 cA0 R Q pl) sz)) (qQ G (fun rr (_ : Unit) => rr = none) (fun _ => (wC q G.2 cw cI0 cA0 R Q pl)) (va_A (wC q G.2 cw cI0 cA0 R Q pl) sz)) 0 0 (va_A (wC q G.2 cw cI0 cA0 R Q pl) sz) := by
  refine go (Qc := qQ G (fun rr (_ : Unit) => rr = none) (fun _ => (wC q G.2 cw cI0 cA0 R Q pl))) "PagedValues$Store" rfl (by decide) (Nat.le_of_ble_eq_true rfl) ?_
  intro p e s m below meth c ls A hx hb hr hlk hml hown hts hin hl hP hD hK hS hA hZ
  have hl : lv_has ls 4 [(0, .ref (q 6)), (1, .int (-1)), (2, .int 5)] := hl
  refine lv_iload_n hx hb d10_11_0 rfl (lv_at hl 2 rfl) ?_
  refine sSN_i (As := [.int 5]) (rest := []) ⟨hx, hb, hml, hown, hts⟩ (bc_isId l G Zd q _ 5 _) (kw_SN (n := 1) hts hZ.1 k306 kn703 k1 k305 (by decide +kernel) ⟨Nat.le_of_ble_eq_true rfl, Nat.le_of_ble_eq_true rfl⟩) hP hD hK hS hA hZ rfl hl.1 rfl (Nat.le_of_ble_eq_true rfl) d10_11_1 ⟨Nat.le_of_ble_eq_true rfl, Nat.le_of_ble_eq_true rfl⟩ (fun rr u H locs hp hP hD hS => ?_)
  have hp := hp.trans (show wt 5 0 7 = 1 by decide)
  obtain rfl := hp
  refine W.eq (g2 := F0 m 4 ls [.int 1]) rfl ?_
  have hP : va_P G.1 vwCl (wC q G.2 cw cI0 cA0 R Q pl) H := hP
  have hD : va_D A (wC q G.2 cw cI0 cA0 R Q pl) := hD
  refine lv_if_ne (tgt := 9) hx hb d10_11_4 rfl (fun _ => ?_) (fun hc => absurd hc (by decide))
  refine lv_aload_n hx hb d10_11_9 rfl (lv_at hl 0 rfl) ?_
  refine lv_iload_n hx hb d10_11_10 rfl (lv_at hl 1 rfl) ?_
  refine lv_iload_n hx hb d10_11_11 rfl (lv_at hl 2 rfl) ?_
  refine lv_iconst (v := 4) hx hb d10_11_12 (by decide) ?_
  refine lv_idiv hx hb d10_11_13 (by decide) ?_
  refine sV_i (As := [.int (-1), .int (5 / 4)]) (rest := []) ⟨hx, hb, hml, hown, hts⟩ (b10_10_21 l G Zd q cw R Q pl (5 / 4) _) (kw_V (n := 2) hts k694 k691 k13 k693 ks8 (by decide +kernel) ⟨Nat.le_of_ble_eq_true rfl, Nat.le_of_ble_eq_true rfl⟩) hP hD hK hS hA hZ (va_recv (ci := 9) (q0 := 6) hK hP rfl rfl) rfl hl.1 rfl (Nat.le_of_ble_eq_true rfl) d10_11_14 ⟨Nat.le_of_ble_eq_true rfl, Nat.le_of_ble_eq_true rfl⟩ (fun rr u H locs hp hP hD hS => ?_)
  obtain rfl := hp
  refine W.eq (g2 := F0 m 17 ls [.int (-1)]) rfl ?_
  have hP : va_P G.1 vwCl (wC q G.2 cw cI0 cA0 R Q pl) H := hP
  have hD : va_D A (wC q G.2 cw cI0 cA0 R Q pl) := hD
  refine lv_istore_n (lv' := [(3, .int (-1)), (0, .ref (q 6)), (1, .int (-1)), (2, .int 5)]) hx hb d10_11_17 rfl hl (by decide) rfl (fun ls hl => ?_)
  refine lv_iload_n hx hb d10_11_18 rfl (lv_at hl 0 rfl) ?_
  refine lv_iconst (v := (-1)) hx hb d10_11_19 (by decide) ?_
  refine lv_icmp_ne (tgt := 27) hx hb d10_11_20 rfl (fun hc => absurd hc (by decide)) (fun _ => ?_)
  refine lv_null hx hb d10_11_23 ?_
  refine lv_goto (tgt := 40) hx hb d10_11_24 rfl ?_
  exact fin_q hx hb hr hlk (by first | exact Or.inl ⟨_, rfl⟩ | exact Or.inr ⟨_, rfl⟩) (r := none) hS () rfl hP hD (Nat.le_of_ble_eq_true rfl) (Nat.le_of_ble_eq_true rfl) d10_11_40
set_option maxHeartbeats 4000000 in
set_option maxRecDepth 100000 in
theorem b10_11_47 (l : Launch) (G : Gk) (Zd q : Nat → Nat) (cw : Nat) (R : Nat → Option Nat) (Q : Nat → Nat → Option Nat) (pl : va_W)  (sz : Nat) : Met l y10_11 (Cond.code y10_11 prog_10_method_11_code 4 (some (.object "PagedValues$Value")) :: TB) (rmD 1 0 0) (va_Pc [.ref (q 6), .int (-1), .int 6] (pcW G Zd (wC q G.2 cw cI0 cA0 R Q pl) sz)) (qQ G (fun rr (_ : Unit) => rr = none) (fun _ => (wC q G.2 cw cI0 cA0 R Q pl)) (va_A (wC q G.2 cw cI0 cA0 R Q pl) sz)) 0 0 (va_A (wC q G.2 cw cI0 cA0 R Q pl) sz) := by
  refine go (Qc := qQ G (fun rr (_ : Unit) => rr = none) (fun _ => (wC q G.2 cw cI0 cA0 R Q pl))) "PagedValues$Store" rfl (by decide) (Nat.le_of_ble_eq_true rfl) ?_
  intro p e s m below meth c ls A hx hb hr hlk hml hown hts hin hl hP hD hK hS hA hZ
  have hl : lv_has ls 4 [(0, .ref (q 6)), (1, .int (-1)), (2, .int 6)] := hl
  refine lv_iload_n hx hb d10_11_0 rfl (lv_at hl 2 rfl) ?_
  refine sSN_i (As := [.int 6]) (rest := []) ⟨hx, hb, hml, hown, hts⟩ (bc_isId l G Zd q _ 6 _) (kw_SN (n := 1) hts hZ.1 k306 kn703 k1 k305 (by decide +kernel) ⟨Nat.le_of_ble_eq_true rfl, Nat.le_of_ble_eq_true rfl⟩) hP hD hK hS hA hZ rfl hl.1 rfl (Nat.le_of_ble_eq_true rfl) d10_11_1 ⟨Nat.le_of_ble_eq_true rfl, Nat.le_of_ble_eq_true rfl⟩ (fun rr u H locs hp hP hD hS => ?_)
  have hp := hp.trans (show wt 6 0 7 = 1 by decide)
  obtain rfl := hp
  refine W.eq (g2 := F0 m 4 ls [.int 1]) rfl ?_
  have hP : va_P G.1 vwCl (wC q G.2 cw cI0 cA0 R Q pl) H := hP
  have hD : va_D A (wC q G.2 cw cI0 cA0 R Q pl) := hD
  refine lv_if_ne (tgt := 9) hx hb d10_11_4 rfl (fun _ => ?_) (fun hc => absurd hc (by decide))
  refine lv_aload_n hx hb d10_11_9 rfl (lv_at hl 0 rfl) ?_
  refine lv_iload_n hx hb d10_11_10 rfl (lv_at hl 1 rfl) ?_
  refine lv_iload_n hx hb d10_11_11 rfl (lv_at hl 2 rfl) ?_
  refine lv_iconst (v := 4) hx hb d10_11_12 (by decide) ?_
  refine lv_idiv hx hb d10_11_13 (by decide) ?_
  refine sV_i (As := [.int (-1), .int (6 / 4)]) (rest := []) ⟨hx, hb, hml, hown, hts⟩ (b10_10_21 l G Zd q cw R Q pl (6 / 4) _) (kw_V (n := 2) hts k694 k691 k13 k693 ks8 (by decide +kernel) ⟨Nat.le_of_ble_eq_true rfl, Nat.le_of_ble_eq_true rfl⟩) hP hD hK hS hA hZ (va_recv (ci := 9) (q0 := 6) hK hP rfl rfl) rfl hl.1 rfl (Nat.le_of_ble_eq_true rfl) d10_11_14 ⟨Nat.le_of_ble_eq_true rfl, Nat.le_of_ble_eq_true rfl⟩ (fun rr u H locs hp hP hD hS => ?_)
  obtain rfl := hp
  refine W.eq (g2 := F0 m 17 ls [.int (-1)]) rfl ?_
  have hP : va_P G.1 vwCl (wC q G.2 cw cI0 cA0 R Q pl) H := hP
  have hD : va_D A (wC q G.2 cw cI0 cA0 R Q pl) := hD
  refine lv_istore_n (lv' := [(3, .int (-1)), (0, .ref (q 6)), (1, .int (-1)), (2, .int 6)]) hx hb d10_11_17 rfl hl (by decide) rfl (fun ls hl => ?_)
  refine lv_iload_n hx hb d10_11_18 rfl (lv_at hl 0 rfl) ?_
  refine lv_iconst (v := (-1)) hx hb d10_11_19 (by decide) ?_
  refine lv_icmp_ne (tgt := 27) hx hb d10_11_20 rfl (fun hc => absurd hc (by decide)) (fun _ => ?_)
  refine lv_null hx hb d10_11_23 ?_
  refine lv_goto (tgt := 40) hx hb d10_11_24 rfl ?_
  exact fin_q hx hb hr hlk (by first | exact Or.inl ⟨_, rfl⟩ | exact Or.inr ⟨_, rfl⟩) (r := none) hS () rfl hP hD (Nat.le_of_ble_eq_true rfl) (Nat.le_of_ble_eq_true rfl) d10_11_40
set_option maxHeartbeats 4000000 in
set_option maxRecDepth 100000 in
theorem b10_11_48 (l : Launch) (G : Gk) (Zd q : Nat → Nat) (cw : Nat) (R : Nat → Option Nat) (Q : Nat → Nat → Option Nat) (pl : va_W)  (sz : Nat) : Met l y10_11 (Cond.code y10_11 prog_10_method_11_code 4 (some (.object "PagedValues$Value")) :: TB) (rmD 1 0 0) (va_Pc [.ref (q 6), .int (-1), .int 7] (pcW G Zd (wC q G.2 cw cI0 cA0 R Q pl) sz)) (qQ G (fun rr (_ : Unit) => rr = none) (fun _ => (wC q G.2 cw cI0 cA0 R Q pl)) (va_A (wC q G.2 cw cI0 cA0 R Q pl) sz)) 0 0 (va_A (wC q G.2 cw cI0 cA0 R Q pl) sz) := by
  refine go (Qc := qQ G (fun rr (_ : Unit) => rr = none) (fun _ => (wC q G.2 cw cI0 cA0 R Q pl))) "PagedValues$Store" rfl (by decide) (Nat.le_of_ble_eq_true rfl) ?_
  intro p e s m below meth c ls A hx hb hr hlk hml hown hts hin hl hP hD hK hS hA hZ
  have hl : lv_has ls 4 [(0, .ref (q 6)), (1, .int (-1)), (2, .int 7)] := hl
  refine lv_iload_n hx hb d10_11_0 rfl (lv_at hl 2 rfl) ?_
  refine sSN_i (As := [.int 7]) (rest := []) ⟨hx, hb, hml, hown, hts⟩ (bc_isId l G Zd q _ 7 _) (kw_SN (n := 1) hts hZ.1 k306 kn703 k1 k305 (by decide +kernel) ⟨Nat.le_of_ble_eq_true rfl, Nat.le_of_ble_eq_true rfl⟩) hP hD hK hS hA hZ rfl hl.1 rfl (Nat.le_of_ble_eq_true rfl) d10_11_1 ⟨Nat.le_of_ble_eq_true rfl, Nat.le_of_ble_eq_true rfl⟩ (fun rr u H locs hp hP hD hS => ?_)
  have hp := hp.trans (show wt 7 0 7 = 1 by decide)
  obtain rfl := hp
  refine W.eq (g2 := F0 m 4 ls [.int 1]) rfl ?_
  have hP : va_P G.1 vwCl (wC q G.2 cw cI0 cA0 R Q pl) H := hP
  have hD : va_D A (wC q G.2 cw cI0 cA0 R Q pl) := hD
  refine lv_if_ne (tgt := 9) hx hb d10_11_4 rfl (fun _ => ?_) (fun hc => absurd hc (by decide))
  refine lv_aload_n hx hb d10_11_9 rfl (lv_at hl 0 rfl) ?_
  refine lv_iload_n hx hb d10_11_10 rfl (lv_at hl 1 rfl) ?_
  refine lv_iload_n hx hb d10_11_11 rfl (lv_at hl 2 rfl) ?_
  refine lv_iconst (v := 4) hx hb d10_11_12 (by decide) ?_
  refine lv_idiv hx hb d10_11_13 (by decide) ?_
  refine sV_i (As := [.int (-1), .int (7 / 4)]) (rest := []) ⟨hx, hb, hml, hown, hts⟩ (b10_10_21 l G Zd q cw R Q pl (7 / 4) _) (kw_V (n := 2) hts k694 k691 k13 k693 ks8 (by decide +kernel) ⟨Nat.le_of_ble_eq_true rfl, Nat.le_of_ble_eq_true rfl⟩) hP hD hK hS hA hZ (va_recv (ci := 9) (q0 := 6) hK hP rfl rfl) rfl hl.1 rfl (Nat.le_of_ble_eq_true rfl) d10_11_14 ⟨Nat.le_of_ble_eq_true rfl, Nat.le_of_ble_eq_true rfl⟩ (fun rr u H locs hp hP hD hS => ?_)
  obtain rfl := hp
  refine W.eq (g2 := F0 m 17 ls [.int (-1)]) rfl ?_
  have hP : va_P G.1 vwCl (wC q G.2 cw cI0 cA0 R Q pl) H := hP
  have hD : va_D A (wC q G.2 cw cI0 cA0 R Q pl) := hD
  refine lv_istore_n (lv' := [(3, .int (-1)), (0, .ref (q 6)), (1, .int (-1)), (2, .int 7)]) hx hb d10_11_17 rfl hl (by decide) rfl (fun ls hl => ?_)
  refine lv_iload_n hx hb d10_11_18 rfl (lv_at hl 0 rfl) ?_
  refine lv_iconst (v := (-1)) hx hb d10_11_19 (by decide) ?_
  refine lv_icmp_ne (tgt := 27) hx hb d10_11_20 rfl (fun hc => absurd hc (by decide)) (fun _ => ?_)
  refine lv_null hx hb d10_11_23 ?_
  refine lv_goto (tgt := 40) hx hb d10_11_24 rfl ?_
  exact fin_q hx hb hr hlk (by first | exact Or.inl ⟨_, rfl⟩ | exact Or.inr ⟨_, rfl⟩) (r := none) hS () rfl hP hD (Nat.le_of_ble_eq_true rfl) (Nat.le_of_ble_eq_true rfl) d10_11_40
set_option maxHeartbeats 4000000 in
set_option maxRecDepth 100000 in
theorem b10_12_49 (l : Launch) (G : Gk) (Zd q : Nat → Nat) (cw : Nat) (R : Nat → Option Nat) (Q : Nat → Nat → Option Nat) (pl : va_W)  (sz : Nat) : Met l y10_12 (Cond.code y10_12 prog_10_method_12_code 3 (some .int) :: TB) (rmD 2 0 0) (va_Pc [.ref (q 6)] (pcW G Zd (wC q G.2 cw cI0 cA0 R Q pl) sz)) (qI G (fun rr (_ : Unit) => rr = 0) (fun _ => (wC q G.2 cw cI0 cA0 R Q pl)) (va_A (wC q G.2 cw cI0 cA0 R Q pl) sz)) 0 0 (va_A (wC q G.2 cw cI0 cA0 R Q pl) sz) := by
  refine go (Qc := qI G (fun rr (_ : Unit) => rr = 0) (fun _ => (wC q G.2 cw cI0 cA0 R Q pl))) "PagedValues$Store" rfl (by decide) (Nat.le_of_ble_eq_true rfl) ?_
  intro p e s m below meth c ls A hx hb hr hlk hml hown hts hin hl hP hD hK hS hA hZ
  have hl : lv_has ls 3 [(0, .ref (q 6))] := hl
  refine lv_iconst (v := 0) hx hb d10_12_0 (by decide) ?_
  refine lv_istore_n (lv' := [(1, .int 0), (0, .ref (q 6))]) hx hb d10_12_1 rfl hl (by decide) rfl (fun ls hl => ?_)
  refine lv_iconst (v := 0) hx hb d10_12_2 (by decide) ?_
  refine lv_istore_n (lv' := [(2, .int 0), (1, .int 0), (0, .ref (q 6))]) hx hb d10_12_3 rfl hl (by decide) rfl (fun ls hl => ?_)
  refine lv_iload_n hx hb d10_12_4 rfl (lv_at hl 0 rfl) ?_
  refine lv_bipush (v := 8) hx hb d10_12_5 (by decide) ?_
  refine lv_icmp_ge (tgt := 36) hx hb d10_12_7 rfl (fun hc => absurd hc (by decide)) (fun _ => ?_)
  refine lv_iload_n hx hb d10_12_10 rfl (lv_at hl 1 rfl) ?_
  refine lv_aload_n hx hb d10_12_11 rfl (lv_at hl 2 rfl) ?_
  refine lv_aload_n hx hb d10_12_12 rfl (lv_at hl 2 rfl) ?_
  refine sV_i (As := []) (rest := [.ref (q 6), .int 0]) ⟨hx, hb, hml, hown, hts⟩ (b10_3_20 l G Zd q cw R Q pl _) (kw_V (n := 0) hts k686 k683 k13 k684 k685 (by decide +kernel) ⟨Nat.le_of_ble_eq_true rfl, Nat.le_of_ble_eq_true rfl⟩) hP hD hK hS hA hZ (va_recv (ci := 9) (q0 := 6) hK hP rfl rfl) rfl hl.1 rfl (Nat.le_of_ble_eq_true rfl) d10_12_13 ⟨Nat.le_of_ble_eq_true rfl, Nat.le_of_ble_eq_true rfl⟩ (fun rr u H locs hp hP hD hS => ?_)
  obtain rfl := hp
  refine W.eq (g2 := F0 m 16 ls [.int (-1), .ref (q 6), .int 0]) rfl ?_
  have hP : va_P G.1 vwCl (wC q G.2 cw cI0 cA0 R Q pl) H := hP
  have hD : va_D A (wC q G.2 cw cI0 cA0 R Q pl) := hD
  refine lv_iload_n hx hb d10_12_16 rfl (lv_at hl 0 rfl) ?_
  refine sV_q (As := [.int (-1), .int 0]) (rest := [.int 0]) ⟨hx, hb, hml, hown, hts⟩ (b10_11_41 l G Zd q cw R Q pl _) (kw_V (n := 2) hts k702 k699 k13 k700 k701 (by decide +kernel) ⟨Nat.le_of_ble_eq_true rfl, Nat.le_of_ble_eq_true rfl⟩) hP hD hK hS hA hZ (va_recv (ci := 9) (q0 := 6) hK hP rfl rfl) rfl hl.1 rfl (Nat.le_of_ble_eq_true rfl) d10_12_17 ⟨Nat.le_of_ble_eq_true rfl, Nat.le_of_ble_eq_true rfl⟩ (fun rr u H locs hp hP hD hS => ?_)
  obtain rfl := hp
  refine W.eq (g2 := F0 m 20 ls [.null, .int 0]) rfl ?_
  have hP : va_P G.1 vwCl (wC q G.2 cw cI0 cA0 R Q pl) H := hP
  have hD : va_D A (wC q G.2 cw cI0 cA0 R Q pl) := hD
  refine lv_ifnonnullN hx hb d10_12_20 ?_
  refine lv_iconst (v := 0) hx hb d10_12_23 (by decide) ?_
  refine lv_goto (tgt := 28) hx hb d10_12_24 rfl ?_
  refine lv_iadd hx hb d10_12_28 ?_
  refine W.eq (g2 := F0 m 29 ls [.int 0]) rfl ?_
  refine lv_istore_n (lv' := [(1, .int 0), (2, .int 0), (0, .ref (q 6))]) hx hb d10_12_29 rfl hl (by decide) rfl (fun ls hl => ?_)
  refine lv_iinc (k := 1) (v := 1) (lv' := [(2, .int 1), (1, .int 0), (0, .ref (q 6))]) hx hb d10_12_30 hl rfl (by first | decide | rfl) (by decide) rfl (fun ls hl => ?_)
  refine lv_goto (tgt := 4) hx hb d10_12_33 rfl ?_
  refine lv_iload_n hx hb d10_12_4 rfl (lv_at hl 0 rfl) ?_
  refine lv_bipush (v := 8) hx hb d10_12_5 (by decide) ?_
  refine lv_icmp_ge (tgt := 36) hx hb d10_12_7 rfl (fun hc => absurd hc (by decide)) (fun _ => ?_)
  refine lv_iload_n hx hb d10_12_10 rfl (lv_at hl 1 rfl) ?_
  refine lv_aload_n hx hb d10_12_11 rfl (lv_at hl 2 rfl) ?_
  refine lv_aload_n hx hb d10_12_12 rfl (lv_at hl 2 rfl) ?_
  refine sV_i (As := []) (rest := [.ref (q 6), .int 0]) ⟨hx, hb, hml, hown, hts⟩ (b10_3_20 l G Zd q cw R Q pl _) (kw_V (n := 0) hts k686 k683 k13 k684 k685 (by decide +kernel) ⟨Nat.le_of_ble_eq_true rfl, Nat.le_of_ble_eq_true rfl⟩) hP hD hK hS hA hZ (va_recv (ci := 9) (q0 := 6) hK hP rfl rfl) rfl hl.1 rfl (Nat.le_of_ble_eq_true rfl) d10_12_13 ⟨Nat.le_of_ble_eq_true rfl, Nat.le_of_ble_eq_true rfl⟩ (fun rr u H locs hp hP hD hS => ?_)
  obtain rfl := hp
  refine W.eq (g2 := F0 m 16 ls [.int (-1), .ref (q 6), .int 0]) rfl ?_
  have hP : va_P G.1 vwCl (wC q G.2 cw cI0 cA0 R Q pl) H := hP
  have hD : va_D A (wC q G.2 cw cI0 cA0 R Q pl) := hD
  refine lv_iload_n hx hb d10_12_16 rfl (lv_at hl 0 rfl) ?_
  refine sV_q (As := [.int (-1), .int 1]) (rest := [.int 0]) ⟨hx, hb, hml, hown, hts⟩ (b10_11_42 l G Zd q cw R Q pl _) (kw_V (n := 2) hts k702 k699 k13 k700 k701 (by decide +kernel) ⟨Nat.le_of_ble_eq_true rfl, Nat.le_of_ble_eq_true rfl⟩) hP hD hK hS hA hZ (va_recv (ci := 9) (q0 := 6) hK hP rfl rfl) rfl hl.1 rfl (Nat.le_of_ble_eq_true rfl) d10_12_17 ⟨Nat.le_of_ble_eq_true rfl, Nat.le_of_ble_eq_true rfl⟩ (fun rr u H locs hp hP hD hS => ?_)
  obtain rfl := hp
  refine W.eq (g2 := F0 m 20 ls [.null, .int 0]) rfl ?_
  have hP : va_P G.1 vwCl (wC q G.2 cw cI0 cA0 R Q pl) H := hP
  have hD : va_D A (wC q G.2 cw cI0 cA0 R Q pl) := hD
  refine lv_ifnonnullN hx hb d10_12_20 ?_
  refine lv_iconst (v := 0) hx hb d10_12_23 (by decide) ?_
  refine lv_goto (tgt := 28) hx hb d10_12_24 rfl ?_
  refine lv_iadd hx hb d10_12_28 ?_
  refine W.eq (g2 := F0 m 29 ls [.int 0]) rfl ?_
  refine lv_istore_n (lv' := [(1, .int 0), (2, .int 1), (0, .ref (q 6))]) hx hb d10_12_29 rfl hl (by decide) rfl (fun ls hl => ?_)
  refine lv_iinc (k := 1) (v := 2) (lv' := [(2, .int 2), (1, .int 0), (0, .ref (q 6))]) hx hb d10_12_30 hl rfl (by first | decide | rfl) (by decide) rfl (fun ls hl => ?_)
  refine lv_goto (tgt := 4) hx hb d10_12_33 rfl ?_
  refine lv_iload_n hx hb d10_12_4 rfl (lv_at hl 0 rfl) ?_
  refine lv_bipush (v := 8) hx hb d10_12_5 (by decide) ?_
  refine lv_icmp_ge (tgt := 36) hx hb d10_12_7 rfl (fun hc => absurd hc (by decide)) (fun _ => ?_)
  refine lv_iload_n hx hb d10_12_10 rfl (lv_at hl 1 rfl) ?_
  refine lv_aload_n hx hb d10_12_11 rfl (lv_at hl 2 rfl) ?_
  refine lv_aload_n hx hb d10_12_12 rfl (lv_at hl 2 rfl) ?_
  refine sV_i (As := []) (rest := [.ref (q 6), .int 0]) ⟨hx, hb, hml, hown, hts⟩ (b10_3_20 l G Zd q cw R Q pl _) (kw_V (n := 0) hts k686 k683 k13 k684 k685 (by decide +kernel) ⟨Nat.le_of_ble_eq_true rfl, Nat.le_of_ble_eq_true rfl⟩) hP hD hK hS hA hZ (va_recv (ci := 9) (q0 := 6) hK hP rfl rfl) rfl hl.1 rfl (Nat.le_of_ble_eq_true rfl) d10_12_13 ⟨Nat.le_of_ble_eq_true rfl, Nat.le_of_ble_eq_true rfl⟩ (fun rr u H locs hp hP hD hS => ?_)
  obtain rfl := hp
  refine W.eq (g2 := F0 m 16 ls [.int (-1), .ref (q 6), .int 0]) rfl ?_
  have hP : va_P G.1 vwCl (wC q G.2 cw cI0 cA0 R Q pl) H := hP
  have hD : va_D A (wC q G.2 cw cI0 cA0 R Q pl) := hD
  refine lv_iload_n hx hb d10_12_16 rfl (lv_at hl 0 rfl) ?_
  refine sV_q (As := [.int (-1), .int 2]) (rest := [.int 0]) ⟨hx, hb, hml, hown, hts⟩ (b10_11_43 l G Zd q cw R Q pl _) (kw_V (n := 2) hts k702 k699 k13 k700 k701 (by decide +kernel) ⟨Nat.le_of_ble_eq_true rfl, Nat.le_of_ble_eq_true rfl⟩) hP hD hK hS hA hZ (va_recv (ci := 9) (q0 := 6) hK hP rfl rfl) rfl hl.1 rfl (Nat.le_of_ble_eq_true rfl) d10_12_17 ⟨Nat.le_of_ble_eq_true rfl, Nat.le_of_ble_eq_true rfl⟩ (fun rr u H locs hp hP hD hS => ?_)
  obtain rfl := hp
  refine W.eq (g2 := F0 m 20 ls [.null, .int 0]) rfl ?_
  have hP : va_P G.1 vwCl (wC q G.2 cw cI0 cA0 R Q pl) H := hP
  have hD : va_D A (wC q G.2 cw cI0 cA0 R Q pl) := hD
  refine lv_ifnonnullN hx hb d10_12_20 ?_
  refine lv_iconst (v := 0) hx hb d10_12_23 (by decide) ?_
  refine lv_goto (tgt := 28) hx hb d10_12_24 rfl ?_
  refine lv_iadd hx hb d10_12_28 ?_
  refine W.eq (g2 := F0 m 29 ls [.int 0]) rfl ?_
  refine lv_istore_n (lv' := [(1, .int 0), (2, .int 2), (0, .ref (q 6))]) hx hb d10_12_29 rfl hl (by decide) rfl (fun ls hl => ?_)
  refine lv_iinc (k := 1) (v := 3) (lv' := [(2, .int 3), (1, .int 0), (0, .ref (q 6))]) hx hb d10_12_30 hl rfl (by first | decide | rfl) (by decide) rfl (fun ls hl => ?_)
  refine lv_goto (tgt := 4) hx hb d10_12_33 rfl ?_
  refine lv_iload_n hx hb d10_12_4 rfl (lv_at hl 0 rfl) ?_
  refine lv_bipush (v := 8) hx hb d10_12_5 (by decide) ?_
  refine lv_icmp_ge (tgt := 36) hx hb d10_12_7 rfl (fun hc => absurd hc (by decide)) (fun _ => ?_)
  refine lv_iload_n hx hb d10_12_10 rfl (lv_at hl 1 rfl) ?_
  refine lv_aload_n hx hb d10_12_11 rfl (lv_at hl 2 rfl) ?_
  refine lv_aload_n hx hb d10_12_12 rfl (lv_at hl 2 rfl) ?_
  refine sV_i (As := []) (rest := [.ref (q 6), .int 0]) ⟨hx, hb, hml, hown, hts⟩ (b10_3_20 l G Zd q cw R Q pl _) (kw_V (n := 0) hts k686 k683 k13 k684 k685 (by decide +kernel) ⟨Nat.le_of_ble_eq_true rfl, Nat.le_of_ble_eq_true rfl⟩) hP hD hK hS hA hZ (va_recv (ci := 9) (q0 := 6) hK hP rfl rfl) rfl hl.1 rfl (Nat.le_of_ble_eq_true rfl) d10_12_13 ⟨Nat.le_of_ble_eq_true rfl, Nat.le_of_ble_eq_true rfl⟩ (fun rr u H locs hp hP hD hS => ?_)
  obtain rfl := hp
  refine W.eq (g2 := F0 m 16 ls [.int (-1), .ref (q 6), .int 0]) rfl ?_
  have hP : va_P G.1 vwCl (wC q G.2 cw cI0 cA0 R Q pl) H := hP
  have hD : va_D A (wC q G.2 cw cI0 cA0 R Q pl) := hD
  refine lv_iload_n hx hb d10_12_16 rfl (lv_at hl 0 rfl) ?_
  refine sV_q (As := [.int (-1), .int 3]) (rest := [.int 0]) ⟨hx, hb, hml, hown, hts⟩ (b10_11_44 l G Zd q cw R Q pl _) (kw_V (n := 2) hts k702 k699 k13 k700 k701 (by decide +kernel) ⟨Nat.le_of_ble_eq_true rfl, Nat.le_of_ble_eq_true rfl⟩) hP hD hK hS hA hZ (va_recv (ci := 9) (q0 := 6) hK hP rfl rfl) rfl hl.1 rfl (Nat.le_of_ble_eq_true rfl) d10_12_17 ⟨Nat.le_of_ble_eq_true rfl, Nat.le_of_ble_eq_true rfl⟩ (fun rr u H locs hp hP hD hS => ?_)
  obtain rfl := hp
  refine W.eq (g2 := F0 m 20 ls [.null, .int 0]) rfl ?_
  have hP : va_P G.1 vwCl (wC q G.2 cw cI0 cA0 R Q pl) H := hP
  have hD : va_D A (wC q G.2 cw cI0 cA0 R Q pl) := hD
  refine lv_ifnonnullN hx hb d10_12_20 ?_
  refine lv_iconst (v := 0) hx hb d10_12_23 (by decide) ?_
  refine lv_goto (tgt := 28) hx hb d10_12_24 rfl ?_
  refine lv_iadd hx hb d10_12_28 ?_
  refine W.eq (g2 := F0 m 29 ls [.int 0]) rfl ?_
  refine lv_istore_n (lv' := [(1, .int 0), (2, .int 3), (0, .ref (q 6))]) hx hb d10_12_29 rfl hl (by decide) rfl (fun ls hl => ?_)
  refine lv_iinc (k := 1) (v := 4) (lv' := [(2, .int 4), (1, .int 0), (0, .ref (q 6))]) hx hb d10_12_30 hl rfl (by first | decide | rfl) (by decide) rfl (fun ls hl => ?_)
  refine lv_goto (tgt := 4) hx hb d10_12_33 rfl ?_
  refine lv_iload_n hx hb d10_12_4 rfl (lv_at hl 0 rfl) ?_
  refine lv_bipush (v := 8) hx hb d10_12_5 (by decide) ?_
  refine lv_icmp_ge (tgt := 36) hx hb d10_12_7 rfl (fun hc => absurd hc (by decide)) (fun _ => ?_)
  refine lv_iload_n hx hb d10_12_10 rfl (lv_at hl 1 rfl) ?_
  refine lv_aload_n hx hb d10_12_11 rfl (lv_at hl 2 rfl) ?_
  refine lv_aload_n hx hb d10_12_12 rfl (lv_at hl 2 rfl) ?_
  refine sV_i (As := []) (rest := [.ref (q 6), .int 0]) ⟨hx, hb, hml, hown, hts⟩ (b10_3_20 l G Zd q cw R Q pl _) (kw_V (n := 0) hts k686 k683 k13 k684 k685 (by decide +kernel) ⟨Nat.le_of_ble_eq_true rfl, Nat.le_of_ble_eq_true rfl⟩) hP hD hK hS hA hZ (va_recv (ci := 9) (q0 := 6) hK hP rfl rfl) rfl hl.1 rfl (Nat.le_of_ble_eq_true rfl) d10_12_13 ⟨Nat.le_of_ble_eq_true rfl, Nat.le_of_ble_eq_true rfl⟩ (fun rr u H locs hp hP hD hS => ?_)
  obtain rfl := hp
  refine W.eq (g2 := F0 m 16 ls [.int (-1), .ref (q 6), .int 0]) rfl ?_
  have hP : va_P G.1 vwCl (wC q G.2 cw cI0 cA0 R Q pl) H := hP
  have hD : va_D A (wC q G.2 cw cI0 cA0 R Q pl) := hD
  refine lv_iload_n hx hb d10_12_16 rfl (lv_at hl 0 rfl) ?_
  refine sV_q (As := [.int (-1), .int 4]) (rest := [.int 0]) ⟨hx, hb, hml, hown, hts⟩ (b10_11_45 l G Zd q cw R Q pl _) (kw_V (n := 2) hts k702 k699 k13 k700 k701 (by decide +kernel) ⟨Nat.le_of_ble_eq_true rfl, Nat.le_of_ble_eq_true rfl⟩) hP hD hK hS hA hZ (va_recv (ci := 9) (q0 := 6) hK hP rfl rfl) rfl hl.1 rfl (Nat.le_of_ble_eq_true rfl) d10_12_17 ⟨Nat.le_of_ble_eq_true rfl, Nat.le_of_ble_eq_true rfl⟩ (fun rr u H locs hp hP hD hS => ?_)
  obtain rfl := hp
  refine W.eq (g2 := F0 m 20 ls [.null, .int 0]) rfl ?_
  have hP : va_P G.1 vwCl (wC q G.2 cw cI0 cA0 R Q pl) H := hP
  have hD : va_D A (wC q G.2 cw cI0 cA0 R Q pl) := hD
  refine lv_ifnonnullN hx hb d10_12_20 ?_
  refine lv_iconst (v := 0) hx hb d10_12_23 (by decide) ?_
  refine lv_goto (tgt := 28) hx hb d10_12_24 rfl ?_
  refine lv_iadd hx hb d10_12_28 ?_
  refine W.eq (g2 := F0 m 29 ls [.int 0]) rfl ?_
  refine lv_istore_n (lv' := [(1, .int 0), (2, .int 4), (0, .ref (q 6))]) hx hb d10_12_29 rfl hl (by decide) rfl (fun ls hl => ?_)
  refine lv_iinc (k := 1) (v := 5) (lv' := [(2, .int 5), (1, .int 0), (0, .ref (q 6))]) hx hb d10_12_30 hl rfl (by first | decide | rfl) (by decide) rfl (fun ls hl => ?_)
  refine lv_goto (tgt := 4) hx hb d10_12_33 rfl ?_
  refine lv_iload_n hx hb d10_12_4 rfl (lv_at hl 0 rfl) ?_
  refine lv_bipush (v := 8) hx hb d10_12_5 (by decide) ?_
  refine lv_icmp_ge (tgt := 36) hx hb d10_12_7 rfl (fun hc => absurd hc (by decide)) (fun _ => ?_)
  refine lv_iload_n hx hb d10_12_10 rfl (lv_at hl 1 rfl) ?_
  refine lv_aload_n hx hb d10_12_11 rfl (lv_at hl 2 rfl) ?_
  refine lv_aload_n hx hb d10_12_12 rfl (lv_at hl 2 rfl) ?_
  refine sV_i (As := []) (rest := [.ref (q 6), .int 0]) ⟨hx, hb, hml, hown, hts⟩ (b10_3_20 l G Zd q cw R Q pl _) (kw_V (n := 0) hts k686 k683 k13 k684 k685 (by decide +kernel) ⟨Nat.le_of_ble_eq_true rfl, Nat.le_of_ble_eq_true rfl⟩) hP hD hK hS hA hZ (va_recv (ci := 9) (q0 := 6) hK hP rfl rfl) rfl hl.1 rfl (Nat.le_of_ble_eq_true rfl) d10_12_13 ⟨Nat.le_of_ble_eq_true rfl, Nat.le_of_ble_eq_true rfl⟩ (fun rr u H locs hp hP hD hS => ?_)
  obtain rfl := hp
  refine W.eq (g2 := F0 m 16 ls [.int (-1), .ref (q 6), .int 0]) rfl ?_
  have hP : va_P G.1 vwCl (wC q G.2 cw cI0 cA0 R Q pl) H := hP
  have hD : va_D A (wC q G.2 cw cI0 cA0 R Q pl) := hD
  refine lv_iload_n hx hb d10_12_16 rfl (lv_at hl 0 rfl) ?_
  refine sV_q (As := [.int (-1), .int 5]) (rest := [.int 0]) ⟨hx, hb, hml, hown, hts⟩ (b10_11_46 l G Zd q cw R Q pl _) (kw_V (n := 2) hts k702 k699 k13 k700 k701 (by decide +kernel) ⟨Nat.le_of_ble_eq_true rfl, Nat.le_of_ble_eq_true rfl⟩) hP hD hK hS hA hZ (va_recv (ci := 9) (q0 := 6) hK hP rfl rfl) rfl hl.1 rfl (Nat.le_of_ble_eq_true rfl) d10_12_17 ⟨Nat.le_of_ble_eq_true rfl, Nat.le_of_ble_eq_true rfl⟩ (fun rr u H locs hp hP hD hS => ?_)
  obtain rfl := hp
  refine W.eq (g2 := F0 m 20 ls [.null, .int 0]) rfl ?_
  have hP : va_P G.1 vwCl (wC q G.2 cw cI0 cA0 R Q pl) H := hP
  have hD : va_D A (wC q G.2 cw cI0 cA0 R Q pl) := hD
  refine lv_ifnonnullN hx hb d10_12_20 ?_
  refine lv_iconst (v := 0) hx hb d10_12_23 (by decide) ?_
  refine lv_goto (tgt := 28) hx hb d10_12_24 rfl ?_
  refine lv_iadd hx hb d10_12_28 ?_
  refine W.eq (g2 := F0 m 29 ls [.int 0]) rfl ?_
  refine lv_istore_n (lv' := [(1, .int 0), (2, .int 5), (0, .ref (q 6))]) hx hb d10_12_29 rfl hl (by decide) rfl (fun ls hl => ?_)
  refine lv_iinc (k := 1) (v := 6) (lv' := [(2, .int 6), (1, .int 0), (0, .ref (q 6))]) hx hb d10_12_30 hl rfl (by first | decide | rfl) (by decide) rfl (fun ls hl => ?_)
  refine lv_goto (tgt := 4) hx hb d10_12_33 rfl ?_
  refine lv_iload_n hx hb d10_12_4 rfl (lv_at hl 0 rfl) ?_
  refine lv_bipush (v := 8) hx hb d10_12_5 (by decide) ?_
  refine lv_icmp_ge (tgt := 36) hx hb d10_12_7 rfl (fun hc => absurd hc (by decide)) (fun _ => ?_)
  refine lv_iload_n hx hb d10_12_10 rfl (lv_at hl 1 rfl) ?_
  refine lv_aload_n hx hb d10_12_11 rfl (lv_at hl 2 rfl) ?_
  refine lv_aload_n hx hb d10_12_12 rfl (lv_at hl 2 rfl) ?_
  refine sV_i (As := []) (rest := [.ref (q 6), .int 0]) ⟨hx, hb, hml, hown, hts⟩ (b10_3_20 l G Zd q cw R Q pl _) (kw_V (n := 0) hts k686 k683 k13 k684 k685 (by decide +kernel) ⟨Nat.le_of_ble_eq_true rfl, Nat.le_of_ble_eq_true rfl⟩) hP hD hK hS hA hZ (va_recv (ci := 9) (q0 := 6) hK hP rfl rfl) rfl hl.1 rfl (Nat.le_of_ble_eq_true rfl) d10_12_13 ⟨Nat.le_of_ble_eq_true rfl, Nat.le_of_ble_eq_true rfl⟩ (fun rr u H locs hp hP hD hS => ?_)
  obtain rfl := hp
  refine W.eq (g2 := F0 m 16 ls [.int (-1), .ref (q 6), .int 0]) rfl ?_
  have hP : va_P G.1 vwCl (wC q G.2 cw cI0 cA0 R Q pl) H := hP
  have hD : va_D A (wC q G.2 cw cI0 cA0 R Q pl) := hD
  refine lv_iload_n hx hb d10_12_16 rfl (lv_at hl 0 rfl) ?_
  refine sV_q (As := [.int (-1), .int 6]) (rest := [.int 0]) ⟨hx, hb, hml, hown, hts⟩ (b10_11_47 l G Zd q cw R Q pl _) (kw_V (n := 2) hts k702 k699 k13 k700 k701 (by decide +kernel) ⟨Nat.le_of_ble_eq_true rfl, Nat.le_of_ble_eq_true rfl⟩) hP hD hK hS hA hZ (va_recv (ci := 9) (q0 := 6) hK hP rfl rfl) rfl hl.1 rfl (Nat.le_of_ble_eq_true rfl) d10_12_17 ⟨Nat.le_of_ble_eq_true rfl, Nat.le_of_ble_eq_true rfl⟩ (fun rr u H locs hp hP hD hS => ?_)
  obtain rfl := hp
  refine W.eq (g2 := F0 m 20 ls [.null, .int 0]) rfl ?_
  have hP : va_P G.1 vwCl (wC q G.2 cw cI0 cA0 R Q pl) H := hP
  have hD : va_D A (wC q G.2 cw cI0 cA0 R Q pl) := hD
  refine lv_ifnonnullN hx hb d10_12_20 ?_
  refine lv_iconst (v := 0) hx hb d10_12_23 (by decide) ?_
  refine lv_goto (tgt := 28) hx hb d10_12_24 rfl ?_
  refine lv_iadd hx hb d10_12_28 ?_
  refine W.eq (g2 := F0 m 29 ls [.int 0]) rfl ?_
  refine lv_istore_n (lv' := [(1, .int 0), (2, .int 6), (0, .ref (q 6))]) hx hb d10_12_29 rfl hl (by decide) rfl (fun ls hl => ?_)
  refine lv_iinc (k := 1) (v := 7) (lv' := [(2, .int 7), (1, .int 0), (0, .ref (q 6))]) hx hb d10_12_30 hl rfl (by first | decide | rfl) (by decide) rfl (fun ls hl => ?_)
  refine lv_goto (tgt := 4) hx hb d10_12_33 rfl ?_
  refine lv_iload_n hx hb d10_12_4 rfl (lv_at hl 0 rfl) ?_
  refine lv_bipush (v := 8) hx hb d10_12_5 (by decide) ?_
  refine lv_icmp_ge (tgt := 36) hx hb d10_12_7 rfl (fun hc => absurd hc (by decide)) (fun _ => ?_)
  refine lv_iload_n hx hb d10_12_10 rfl (lv_at hl 1 rfl) ?_
  refine lv_aload_n hx hb d10_12_11 rfl (lv_at hl 2 rfl) ?_
  refine lv_aload_n hx hb d10_12_12 rfl (lv_at hl 2 rfl) ?_
  refine sV_i (As := []) (rest := [.ref (q 6), .int 0]) ⟨hx, hb, hml, hown, hts⟩ (b10_3_20 l G Zd q cw R Q pl _) (kw_V (n := 0) hts k686 k683 k13 k684 k685 (by decide +kernel) ⟨Nat.le_of_ble_eq_true rfl, Nat.le_of_ble_eq_true rfl⟩) hP hD hK hS hA hZ (va_recv (ci := 9) (q0 := 6) hK hP rfl rfl) rfl hl.1 rfl (Nat.le_of_ble_eq_true rfl) d10_12_13 ⟨Nat.le_of_ble_eq_true rfl, Nat.le_of_ble_eq_true rfl⟩ (fun rr u H locs hp hP hD hS => ?_)
  obtain rfl := hp
  refine W.eq (g2 := F0 m 16 ls [.int (-1), .ref (q 6), .int 0]) rfl ?_
  have hP : va_P G.1 vwCl (wC q G.2 cw cI0 cA0 R Q pl) H := hP
  have hD : va_D A (wC q G.2 cw cI0 cA0 R Q pl) := hD
  refine lv_iload_n hx hb d10_12_16 rfl (lv_at hl 0 rfl) ?_
  refine sV_q (As := [.int (-1), .int 7]) (rest := [.int 0]) ⟨hx, hb, hml, hown, hts⟩ (b10_11_48 l G Zd q cw R Q pl _) (kw_V (n := 2) hts k702 k699 k13 k700 k701 (by decide +kernel) ⟨Nat.le_of_ble_eq_true rfl, Nat.le_of_ble_eq_true rfl⟩) hP hD hK hS hA hZ (va_recv (ci := 9) (q0 := 6) hK hP rfl rfl) rfl hl.1 rfl (Nat.le_of_ble_eq_true rfl) d10_12_17 ⟨Nat.le_of_ble_eq_true rfl, Nat.le_of_ble_eq_true rfl⟩ (fun rr u H locs hp hP hD hS => ?_)
  obtain rfl := hp
  refine W.eq (g2 := F0 m 20 ls [.null, .int 0]) rfl ?_
  have hP : va_P G.1 vwCl (wC q G.2 cw cI0 cA0 R Q pl) H := hP
  have hD : va_D A (wC q G.2 cw cI0 cA0 R Q pl) := hD
  refine lv_ifnonnullN hx hb d10_12_20 ?_
  refine lv_iconst (v := 0) hx hb d10_12_23 (by decide) ?_
  refine lv_goto (tgt := 28) hx hb d10_12_24 rfl ?_
  refine lv_iadd hx hb d10_12_28 ?_
  refine W.eq (g2 := F0 m 29 ls [.int 0]) rfl ?_
  refine lv_istore_n (lv' := [(1, .int 0), (2, .int 7), (0, .ref (q 6))]) hx hb d10_12_29 rfl hl (by decide) rfl (fun ls hl => ?_)
  refine lv_iinc (k := 1) (v := 8) (lv' := [(2, .int 8), (1, .int 0), (0, .ref (q 6))]) hx hb d10_12_30 hl rfl (by first | decide | rfl) (by decide) rfl (fun ls hl => ?_)
  refine lv_goto (tgt := 4) hx hb d10_12_33 rfl ?_
  refine lv_iload_n hx hb d10_12_4 rfl (lv_at hl 0 rfl) ?_
  refine lv_bipush (v := 8) hx hb d10_12_5 (by decide) ?_
  refine lv_icmp_ge (tgt := 36) hx hb d10_12_7 rfl (fun _ => ?_) (fun hc => absurd hc (by decide))
  refine lv_iload_n hx hb d10_12_36 rfl (lv_at hl 1 rfl) ?_
  exact fin_i hx hb hr hlk hS () rfl hP hD (Nat.le_of_ble_eq_true rfl) (Nat.le_of_ble_eq_true rfl) d10_12_37
set_option maxHeartbeats 4000000 in
set_option maxRecDepth 100000 in
theorem b10_9_50 (l : Launch) (G : Gk) (Zd q : Nat → Nat) (cw : Nat) (R : Nat → Option Nat) (Q : Nat → Nat → Option Nat) (pl : va_W)  (sz : Nat) : Met l y10_9 (Cond.code y10_9 prog_10_method_9_code 3 (some .int) :: TB) (rmD 0 0 0) (va_Pc [.ref (q 6)] (pcW G Zd (wC q G.2 cw cI0 cA0 R Q pl) sz)) (qI G (fun rr (_ : Unit) => rr = 0) (fun _ => (wC q G.2 cw cI0 cA0 R Q pl)) (va_A (wC q G.2 cw cI0 cA0 R Q pl) sz)) 0 0 (va_A (wC q G.2 cw cI0 cA0 R Q pl) sz) := by
  refine go (Qc := qI G (fun rr (_ : Unit) => rr = 0) (fun _ => (wC q G.2 cw cI0 cA0 R Q pl))) "PagedValues$Store" rfl (by decide) (Nat.le_of_ble_eq_true rfl) ?_
  intro p e s m below meth c ls A hx hb hr hlk hml hown hts hin hl hP hD hK hS hA hZ
  have hl : lv_has ls 3 [(0, .ref (q 6))] := hl
  refine lv_iconst (v := 0) hx hb d10_9_0 (by decide) ?_
  refine lv_istore_n (lv' := [(1, .int 0), (0, .ref (q 6))]) hx hb d10_9_1 rfl hl (by decide) rfl (fun ls hl => ?_)
  refine lv_iconst (v := 0) hx hb d10_9_2 (by decide) ?_
  refine lv_istore_n (lv' := [(2, .int 0), (1, .int 0), (0, .ref (q 6))]) hx hb d10_9_3 rfl hl (by decide) rfl (fun ls hl => ?_)
  refine lv_iload_n hx hb d10_9_4 rfl (lv_at hl 0 rfl) ?_
  refine lv_iconst (v := 3) hx hb d10_9_5 (by decide) ?_
  refine lv_icmp_ge (tgt := 32) hx hb d10_9_6 rfl (fun hc => absurd hc (by decide)) (fun _ => ?_)
  refine lv_iload_n hx hb d10_9_9 rfl (lv_at hl 1 rfl) ?_
  refine lv_aload_n hx hb d10_9_10 rfl (lv_at hl 2 rfl) ?_
  refine va_get (D := G.1) (ci := 9) (v := .ref (q 19)) (C := r_9) (T := f_9) (N := 9) (ref := "PagedValues$Store") hx hb hts (fun w h => List.mem_cons_of_mem _ (ly_9 w h)) hown hK hP 6 rfl rfl 3 (by decide) (hts _ (List.mem_cons_of_mem _ k240)) (fun _ h9 => h9) rfl d10_9_11 ?_
  refine lv_iload_n hx hb d10_9_14 rfl (lv_at hl 0 rfl) ?_
  refine va_zald (D := G.1) hx hb hK hP 19 3 rfl rfl (i := 0) (by unfold vp_in; decide) d10_9_15 ?_
  refine W.eq (g2 := F0 m 16 ls [.int 0, .int 0]) rfl ?_
  refine lv_if_eq (tgt := 23) hx hb d10_9_16 rfl (fun _ => ?_) (fun hc => absurd hc (by decide))
  refine lv_iconst (v := 0) hx hb d10_9_23 (by decide) ?_
  refine lv_iadd hx hb d10_9_24 ?_
  refine W.eq (g2 := F0 m 25 ls [.int 0]) rfl ?_
  refine lv_istore_n (lv' := [(1, .int 0), (2, .int 0), (0, .ref (q 6))]) hx hb d10_9_25 rfl hl (by decide) rfl (fun ls hl => ?_)
  refine lv_iinc (k := 1) (v := 1) (lv' := [(2, .int 1), (1, .int 0), (0, .ref (q 6))]) hx hb d10_9_26 hl rfl (by first | decide | rfl) (by decide) rfl (fun ls hl => ?_)
  refine lv_goto (tgt := 4) hx hb d10_9_29 rfl ?_
  refine lv_iload_n hx hb d10_9_4 rfl (lv_at hl 0 rfl) ?_
  refine lv_iconst (v := 3) hx hb d10_9_5 (by decide) ?_
  refine lv_icmp_ge (tgt := 32) hx hb d10_9_6 rfl (fun hc => absurd hc (by decide)) (fun _ => ?_)
  refine lv_iload_n hx hb d10_9_9 rfl (lv_at hl 1 rfl) ?_
  refine lv_aload_n hx hb d10_9_10 rfl (lv_at hl 2 rfl) ?_
  refine va_get (D := G.1) (ci := 9) (v := .ref (q 19)) (C := r_9) (T := f_9) (N := 9) (ref := "PagedValues$Store") hx hb hts (fun w h => List.mem_cons_of_mem _ (ly_9 w h)) hown hK hP 6 rfl rfl 3 (by decide) (hts _ (List.mem_cons_of_mem _ k240)) (fun _ h9 => h9) rfl d10_9_11 ?_
  refine lv_iload_n hx hb d10_9_14 rfl (lv_at hl 0 rfl) ?_
  refine va_zald (D := G.1) hx hb hK hP 19 3 rfl rfl (i := 1) (by unfold vp_in; decide) d10_9_15 ?_
  refine W.eq (g2 := F0 m 16 ls [.int 0, .int 0]) rfl ?_
  refine lv_if_eq (tgt := 23) hx hb d10_9_16 rfl (fun _ => ?_) (fun hc => absurd hc (by decide))
  refine lv_iconst (v := 0) hx hb d10_9_23 (by decide) ?_
  refine lv_iadd hx hb d10_9_24 ?_
  refine W.eq (g2 := F0 m 25 ls [.int 0]) rfl ?_
  refine lv_istore_n (lv' := [(1, .int 0), (2, .int 1), (0, .ref (q 6))]) hx hb d10_9_25 rfl hl (by decide) rfl (fun ls hl => ?_)
  refine lv_iinc (k := 1) (v := 2) (lv' := [(2, .int 2), (1, .int 0), (0, .ref (q 6))]) hx hb d10_9_26 hl rfl (by first | decide | rfl) (by decide) rfl (fun ls hl => ?_)
  refine lv_goto (tgt := 4) hx hb d10_9_29 rfl ?_
  refine lv_iload_n hx hb d10_9_4 rfl (lv_at hl 0 rfl) ?_
  refine lv_iconst (v := 3) hx hb d10_9_5 (by decide) ?_
  refine lv_icmp_ge (tgt := 32) hx hb d10_9_6 rfl (fun hc => absurd hc (by decide)) (fun _ => ?_)
  refine lv_iload_n hx hb d10_9_9 rfl (lv_at hl 1 rfl) ?_
  refine lv_aload_n hx hb d10_9_10 rfl (lv_at hl 2 rfl) ?_
  refine va_get (D := G.1) (ci := 9) (v := .ref (q 19)) (C := r_9) (T := f_9) (N := 9) (ref := "PagedValues$Store") hx hb hts (fun w h => List.mem_cons_of_mem _ (ly_9 w h)) hown hK hP 6 rfl rfl 3 (by decide) (hts _ (List.mem_cons_of_mem _ k240)) (fun _ h9 => h9) rfl d10_9_11 ?_
  refine lv_iload_n hx hb d10_9_14 rfl (lv_at hl 0 rfl) ?_
  refine va_zald (D := G.1) hx hb hK hP 19 3 rfl rfl (i := 2) (by unfold vp_in; decide) d10_9_15 ?_
  refine W.eq (g2 := F0 m 16 ls [.int 0, .int 0]) rfl ?_
  refine lv_if_eq (tgt := 23) hx hb d10_9_16 rfl (fun _ => ?_) (fun hc => absurd hc (by decide))
  refine lv_iconst (v := 0) hx hb d10_9_23 (by decide) ?_
  refine lv_iadd hx hb d10_9_24 ?_
  refine W.eq (g2 := F0 m 25 ls [.int 0]) rfl ?_
  refine lv_istore_n (lv' := [(1, .int 0), (2, .int 2), (0, .ref (q 6))]) hx hb d10_9_25 rfl hl (by decide) rfl (fun ls hl => ?_)
  refine lv_iinc (k := 1) (v := 3) (lv' := [(2, .int 3), (1, .int 0), (0, .ref (q 6))]) hx hb d10_9_26 hl rfl (by first | decide | rfl) (by decide) rfl (fun ls hl => ?_)
  refine lv_goto (tgt := 4) hx hb d10_9_29 rfl ?_
  refine lv_iload_n hx hb d10_9_4 rfl (lv_at hl 0 rfl) ?_
  refine lv_iconst (v := 3) hx hb d10_9_5 (by decide) ?_
  refine lv_icmp_ge (tgt := 32) hx hb d10_9_6 rfl (fun _ => ?_) (fun hc => absurd hc (by decide))
  refine lv_iload_n hx hb d10_9_32 rfl (lv_at hl 1 rfl) ?_
  exact fin_i hx hb hr hlk hS () rfl hP hD (Nat.le_of_ble_eq_true rfl) (Nat.le_of_ble_eq_true rfl) d10_9_33
set_option maxHeartbeats 4000000 in
set_option maxRecDepth 100000 in
theorem tc_size (l : Launch) (G : Gk) (Zd q : Nat → Nat) (cw : Nat) (R : Nat → Option Nat) (Q : Nat → Nat → Option Nat) (pl : va_W) (n : Int32) (sz : Nat) : Met l y1_16 (Cond.code y1_16 prog_1_method_16_code 2 (some .int) :: TB) (rmD 3 0 0) (va_Pc [.ref (q 0), .int n] (pcW G Zd (wC q G.2 cw cI0 cA0 R Q pl) sz)) (qI G (fun rr (_ : Unit) => rr = an_size n) (fun _ => []) (va_A (wC q G.2 cw cI0 cA0 R Q pl) sz)) 0 0 (va_A (wC q G.2 cw cI0 cA0 R Q pl) sz) := by
  refine go (Qc := qI G (fun rr (_ : Unit) => rr = an_size n) (fun _ => [])) "PagedValues" rfl (by decide) (Nat.le_of_ble_eq_true rfl) ?_
  intro p e s m below meth c ls A hx hb hr hlk hml hown hts hin hl hP hD hK hS hA hZ
  have hl : lv_has ls 2 [(0, .ref (q 0)), (1, .int n)] := hl
  refine lv_iload_n hx hb d1_16_0 rfl (lv_at hl 1 rfl) ?_
  by_cases n1 : n = 0
  ·
    subst n1
    refine lv_tableIn (tgt := 44) (off := 43) hx hb d1_16_1 (by decide) (by decide) rfl rfl ?_
    refine lv_aload_n hx hb d1_16_44 rfl (lv_at hl 0 rfl) ?_
    refine va_get (D := G.1) (ci := 0) (v := .ref (q 1)) (C := r_0) (T := f_0) (N := 7) (ref := "PagedValues") hx hb hts (fun w h => List.mem_cons_of_mem _ (ly_0 w h)) hown hK hP 0 rfl rfl 0 (by decide) (hts _ (List.mem_cons_of_mem _ k270)) (fun _ h9 => h9) rfl d1_16_45 ?_
    refine va_getN (D := G.1) (ci := 1) (v := .int 0) (C := r_1) (T := f_1) (N := 5) (ref := "PagedValues$Text") hx hb hts (fun w h => List.mem_cons_of_mem _ (ly_1 w h)) hown hK hP 1 rfl rfl 2 (by decide) (va_Nw.use rfl (hZ.1 _ kn78)) (fun _ h9 => h9) rfl d1_16_48 ?_
    exact fin_i hx hb hr hlk hS () (by decide) (fun k q h => by simp at h) ⟨fun i j x y h => by simp at h, fun k q h => by simp at h⟩ (Nat.le_of_ble_eq_true rfl) (Nat.le_of_ble_eq_true rfl) d1_16_51
  by_cases n2 : n = 1
  ·
    subst n2
    refine lv_tableIn (tgt := 52) (off := 51) hx hb d1_16_1 (by decide) (by decide) rfl rfl ?_
    refine lv_aload_n hx hb d1_16_52 rfl (lv_at hl 0 rfl) ?_
    refine va_get (D := G.1) (ci := 0) (v := .ref (q 6)) (C := r_0) (T := f_0) (N := 7) (ref := "PagedValues") hx hb hts (fun w h => List.mem_cons_of_mem _ (ly_0 w h)) hown hK hP 0 rfl rfl 5 (by decide) (hts _ (List.mem_cons_of_mem _ k275)) (fun _ h9 => h9) rfl d1_16_53 ?_
    refine sV_i (As := []) (rest := []) ⟨hx, hb, hml, hown, hts⟩ (b10_12_49 l G Zd q cw R Q pl _) (kw_V (n := 0) hts k875 k872 k13 k873 k874 (by decide +kernel) ⟨Nat.le_of_ble_eq_true rfl, Nat.le_of_ble_eq_true rfl⟩) hP hD hK hS hA hZ (va_recv (ci := 9) (q0 := 6) hK hP rfl rfl) rfl hl.1 rfl (Nat.le_of_ble_eq_true rfl) d1_16_56 ⟨Nat.le_of_ble_eq_true rfl, Nat.le_of_ble_eq_true rfl⟩ (fun rr u H locs hp hP hD hS => ?_)
    obtain rfl := hp
    refine W.eq (g2 := F0 m 59 ls [.int 0]) rfl ?_
    have hP : va_P G.1 vwCl (wC q G.2 cw cI0 cA0 R Q pl) H := hP
    have hD : va_D A (wC q G.2 cw cI0 cA0 R Q pl) := hD
    exact fin_i hx hb hr hlk hS () (by decide) (fun k q h => by simp at h) ⟨fun i j x y h => by simp at h, fun k q h => by simp at h⟩ (Nat.le_of_ble_eq_true rfl) (Nat.le_of_ble_eq_true rfl) d1_16_59
  by_cases n3 : n = 2
  ·
    subst n3
    refine lv_tableIn (tgt := 60) (off := 59) hx hb d1_16_1 (by decide) (by decide) rfl rfl ?_
    refine lv_aload_n hx hb d1_16_60 rfl (lv_at hl 0 rfl) ?_
    refine va_get (D := G.1) (ci := 0) (v := .ref (q 6)) (C := r_0) (T := f_0) (N := 7) (ref := "PagedValues") hx hb hts (fun w h => List.mem_cons_of_mem _ (ly_0 w h)) hown hK hP 0 rfl rfl 5 (by decide) (hts _ (List.mem_cons_of_mem _ k275)) (fun _ h9 => h9) rfl d1_16_61 ?_
    refine sV_i (As := []) (rest := []) ⟨hx, hb, hml, hown, hts⟩ (b10_9_50 l G Zd q cw R Q pl _) (kw_V (n := 0) hts k1143 k1140 k13 k1141 k1142 (by decide +kernel) ⟨Nat.le_of_ble_eq_true rfl, Nat.le_of_ble_eq_true rfl⟩) hP hD hK hS hA hZ (va_recv (ci := 9) (q0 := 6) hK hP rfl rfl) rfl hl.1 rfl (Nat.le_of_ble_eq_true rfl) d1_16_64 ⟨Nat.le_of_ble_eq_true rfl, Nat.le_of_ble_eq_true rfl⟩ (fun rr u H locs hp hP hD hS => ?_)
    obtain rfl := hp
    refine W.eq (g2 := F0 m 67 ls [.int 0]) rfl ?_
    have hP : va_P G.1 vwCl (wC q G.2 cw cI0 cA0 R Q pl) H := hP
    have hD : va_D A (wC q G.2 cw cI0 cA0 R Q pl) := hD
    exact fin_i hx hb hr hlk hS () (by decide) (fun k q h => by simp at h) ⟨fun i j x y h => by simp at h, fun k q h => by simp at h⟩ (Nat.le_of_ble_eq_true rfl) (Nat.le_of_ble_eq_true rfl) d1_16_67
  by_cases n4 : n = 3
  ·
    subst n4
    refine lv_tableIn (tgt := 68) (off := 67) hx hb d1_16_1 (by decide) (by decide) rfl rfl ?_
    refine lv_aload_n hx hb d1_16_68 rfl (lv_at hl 0 rfl) ?_
    refine va_get (D := G.1) (ci := 0) (v := .ref (q 6)) (C := r_0) (T := f_0) (N := 7) (ref := "PagedValues") hx hb hts (fun w h => List.mem_cons_of_mem _ (ly_0 w h)) hown hK hP 0 rfl rfl 5 (by decide) (hts _ (List.mem_cons_of_mem _ k275)) (fun _ h9 => h9) rfl d1_16_69 ?_
    refine va_getN (D := G.1) (ci := 9) (v := .int 0) (C := r_9) (T := f_9) (N := 9) (ref := "PagedValues$Store") hx hb hts (fun w h => List.mem_cons_of_mem _ (ly_9 w h)) hown hK hP 6 rfl rfl 6 (by decide) (va_Nw.use rfl (hZ.1 _ kn243)) (fun _ h9 => h9) rfl d1_16_72 ?_
    exact fin_i hx hb hr hlk hS () (by decide) (fun k q h => by simp at h) ⟨fun i j x y h => by simp at h, fun k q h => by simp at h⟩ (Nat.le_of_ble_eq_true rfl) (Nat.le_of_ble_eq_true rfl) d1_16_75
  by_cases n5 : n = 4
  ·
    subst n5
    refine lv_tableIn (tgt := 76) (off := 75) hx hb d1_16_1 (by decide) (by decide) rfl rfl ?_
    refine lv_aload_n hx hb d1_16_76 rfl (lv_at hl 0 rfl) ?_
    refine va_get (D := G.1) (ci := 0) (v := .ref (q 6)) (C := r_0) (T := f_0) (N := 7) (ref := "PagedValues") hx hb hts (fun w h => List.mem_cons_of_mem _ (ly_0 w h)) hown hK hP 0 rfl rfl 5 (by decide) (hts _ (List.mem_cons_of_mem _ k275)) (fun _ h9 => h9) rfl d1_16_77 ?_
    refine sV_i (As := []) (rest := []) ⟨hx, hb, hml, hown, hts⟩ (b10_2_19 l G Zd q cw R Q pl _) (kw_V (n := 0) hts k690 k1144 k13 k688 k689 (by decide +kernel) ⟨Nat.le_of_ble_eq_true rfl, Nat.le_of_ble_eq_true rfl⟩) hP hD hK hS hA hZ (va_recv (ci := 9) (q0 := 6) hK hP rfl rfl) rfl hl.1 rfl (Nat.le_of_ble_eq_true rfl) d1_16_80 ⟨Nat.le_of_ble_eq_true rfl, Nat.le_of_ble_eq_true rfl⟩ (fun rr u H locs hp hP hD hS => ?_)
    obtain rfl := hp
    refine W.eq (g2 := F0 m 83 ls [.int 0]) rfl ?_
    have hP : va_P G.1 vwCl (wC q G.2 cw cI0 cA0 R Q pl) H := hP
    have hD : va_D A (wC q G.2 cw cI0 cA0 R Q pl) := hD
    exact fin_i hx hb hr hlk hS () (by decide) (fun k q h => by simp at h) ⟨fun i j x y h => by simp at h, fun k q h => by simp at h⟩ (Nat.le_of_ble_eq_true rfl) (Nat.le_of_ble_eq_true rfl) d1_16_83
  by_cases n6 : n = 5
  ·
    subst n6
    refine lv_tableIn (tgt := 84) (off := 83) hx hb d1_16_1 (by decide) (by decide) rfl rfl ?_
    refine lv_aload_n hx hb d1_16_84 rfl (lv_at hl 0 rfl) ?_
    refine va_get (D := G.1) (ci := 0) (v := .ref (q 6)) (C := r_0) (T := f_0) (N := 7) (ref := "PagedValues") hx hb hts (fun w h => List.mem_cons_of_mem _ (ly_0 w h)) hown hK hP 0 rfl rfl 5 (by decide) (hts _ (List.mem_cons_of_mem _ k275)) (fun _ h9 => h9) rfl d1_16_85 ?_
    refine va_getN (D := G.1) (ci := 9) (v := .ref (q 17)) (C := r_9) (T := f_9) (N := 9) (ref := "PagedValues$Store") hx hb hts (fun w h => List.mem_cons_of_mem _ (ly_9 w h)) hown hK hP 6 rfl rfl 1 (by decide) (va_Nw.use rfl (hZ.1 _ kn238)) (fun _ h9 => h9) rfl d1_16_88 ?_
    refine lv_aload_n hx hb d1_16_91 rfl (lv_at hl 0 rfl) ?_
    refine va_get (D := G.1) (ci := 0) (v := .ref (q 6)) (C := r_0) (T := f_0) (N := 7) (ref := "PagedValues") hx hb hts (fun w h => List.mem_cons_of_mem _ (ly_0 w h)) hown hK hP 0 rfl rfl 5 (by decide) (hts _ (List.mem_cons_of_mem _ k275)) (fun _ h9 => h9) rfl d1_16_92 ?_
    refine sV_i (As := []) (rest := [.ref (q 17)]) ⟨hx, hb, hml, hown, hts⟩ (b10_2_19 l G Zd q cw R Q pl _) (kw_V (n := 0) hts k690 k1144 k13 k688 k689 (by decide +kernel) ⟨Nat.le_of_ble_eq_true rfl, Nat.le_of_ble_eq_true rfl⟩) hP hD hK hS hA hZ (va_recv (ci := 9) (q0 := 6) hK hP rfl rfl) rfl hl.1 rfl (Nat.le_of_ble_eq_true rfl) d1_16_95 ⟨Nat.le_of_ble_eq_true rfl, Nat.le_of_ble_eq_true rfl⟩ (fun rr u H locs hp hP hD hS => ?_)
    obtain rfl := hp
    refine W.eq (g2 := F0 m 98 ls [.int 0, .ref (q 17)]) rfl ?_
    have hP : va_P G.1 vwCl (wC q G.2 cw cI0 cA0 R Q pl) H := hP
    have hD : va_D A (wC q G.2 cw cI0 cA0 R Q pl) := hD
    refine va_iald (D := G.1) hx hb hK hP 17 1 rfl rfl (i := 0) (by unfold vp_in; decide) d1_16_98 ?_
    refine W.eq (g2 := F0 m 99 ls [.int 0]) rfl ?_
    exact fin_i hx hb hr hlk hS () (by decide) (fun k q h => by simp at h) ⟨fun i j x y h => by simp at h, fun k q h => by simp at h⟩ (Nat.le_of_ble_eq_true rfl) (Nat.le_of_ble_eq_true rfl) d1_16_99
  by_cases n7 : n = 6
  ·
    subst n7
    refine lv_tableIn (tgt := 100) (off := 99) hx hb d1_16_1 (by decide) (by decide) rfl rfl ?_
    refine lv_aload_n hx hb d1_16_100 rfl (lv_at hl 0 rfl) ?_
    refine va_get (D := G.1) (ci := 0) (v := .ref (q 6)) (C := r_0) (T := f_0) (N := 7) (ref := "PagedValues") hx hb hts (fun w h => List.mem_cons_of_mem _ (ly_0 w h)) hown hK hP 0 rfl rfl 5 (by decide) (hts _ (List.mem_cons_of_mem _ k275)) (fun _ h9 => h9) rfl d1_16_101 ?_
    refine va_getN (D := G.1) (ci := 9) (v := .int 0) (C := r_9) (T := f_9) (N := 9) (ref := "PagedValues$Store") hx hb hts (fun w h => List.mem_cons_of_mem _ (ly_9 w h)) hown hK hP 6 rfl rfl 8 (by decide) (va_Nw.use rfl (hZ.1 _ kn247)) (fun _ h9 => h9) rfl d1_16_104 ?_
    refine lv_if_eq (tgt := 114) hx hb d1_16_107 rfl (fun _ => ?_) (fun hc => absurd hc (by decide))
    refine lv_iconst (v := 0) hx hb d1_16_114 (by decide) ?_
    exact fin_i hx hb hr hlk hS () (by decide) (fun k q h => by simp at h) ⟨fun i j x y h => by simp at h, fun k q h => by simp at h⟩ (Nat.le_of_ble_eq_true rfl) (Nat.le_of_ble_eq_true rfl) d1_16_115
  refine lv_tableOut (tgt := 116) hx hb d1_16_1 (by have L9 := lits; have fn1 := n1; simp only [Int32.lt_iff_toInt_lt, Int32.le_iff_toInt_le, ← Int32.toInt_inj, ne_eq] at fn1; have fn2 := n2; simp only [Int32.lt_iff_toInt_lt, Int32.le_iff_toInt_le, ← Int32.toInt_inj, ne_eq] at fn2; have fn3 := n3; simp only [Int32.lt_iff_toInt_lt, Int32.le_iff_toInt_le, ← Int32.toInt_inj, ne_eq] at fn3; have fn4 := n4; simp only [Int32.lt_iff_toInt_lt, Int32.le_iff_toInt_le, ← Int32.toInt_inj, ne_eq] at fn4; have fn5 := n5; simp only [Int32.lt_iff_toInt_lt, Int32.le_iff_toInt_le, ← Int32.toInt_inj, ne_eq] at fn5; have fn6 := n6; simp only [Int32.lt_iff_toInt_lt, Int32.le_iff_toInt_le, ← Int32.toInt_inj, ne_eq] at fn6; have fn7 := n7; simp only [Int32.lt_iff_toInt_lt, Int32.le_iff_toInt_le, ← Int32.toInt_inj, ne_eq] at fn7; omega) rfl ?_
  refine lv_iconst (v := (-1)) hx hb d1_16_116 (by decide) ?_
  exact fin_i hx hb hr hlk hS () (if_neg (show ¬ (0 ≤ n.toInt ∧ n.toInt ≤ 6) by have L9 := lits; have fn1 := n1; (first | replace fn1 := wt_0 fn1 | replace fn1 := wt_1 fn1 | replace fn1 := an_rd_0 fn1 | simp only [Int32.lt_iff_toInt_lt, Int32.le_iff_toInt_le, ← Int32.toInt_inj, ne_eq] at fn1 | skip); have fn2 := n2; (first | replace fn2 := wt_0 fn2 | replace fn2 := wt_1 fn2 | replace fn2 := an_rd_0 fn2 | simp only [Int32.lt_iff_toInt_lt, Int32.le_iff_toInt_le, ← Int32.toInt_inj, ne_eq] at fn2 | skip); have fn3 := n3; (first | replace fn3 := wt_0 fn3 | replace fn3 := wt_1 fn3 | replace fn3 := an_rd_0 fn3 | simp only [Int32.lt_iff_toInt_lt, Int32.le_iff_toInt_le, ← Int32.toInt_inj, ne_eq] at fn3 | skip); have fn4 := n4; (first | replace fn4 := wt_0 fn4 | replace fn4 := wt_1 fn4 | replace fn4 := an_rd_0 fn4 | simp only [Int32.lt_iff_toInt_lt, Int32.le_iff_toInt_le, ← Int32.toInt_inj, ne_eq] at fn4 | skip); have fn5 := n5; (first | replace fn5 := wt_0 fn5 | replace fn5 := wt_1 fn5 | replace fn5 := an_rd_0 fn5 | simp only [Int32.lt_iff_toInt_lt, Int32.le_iff_toInt_le, ← Int32.toInt_inj, ne_eq] at fn5 | skip); have fn6 := n6; (first | replace fn6 := wt_0 fn6 | replace fn6 := wt_1 fn6 | replace fn6 := an_rd_0 fn6 | simp only [Int32.lt_iff_toInt_lt, Int32.le_iff_toInt_le, ← Int32.toInt_inj, ne_eq] at fn6 | skip); have fn7 := n7; (first | replace fn7 := wt_0 fn7 | replace fn7 := wt_1 fn7 | replace fn7 := an_rd_0 fn7 | simp only [Int32.lt_iff_toInt_lt, Int32.le_iff_toInt_le, ← Int32.toInt_inj, ne_eq] at fn7 | skip); omega)).symm (fun k q h => by simp at h) ⟨fun i j x y h => by simp at h, fun k q h => by simp at h⟩ (Nat.le_of_ble_eq_true rfl) (Nat.le_of_ble_eq_true rfl) d1_16_117
