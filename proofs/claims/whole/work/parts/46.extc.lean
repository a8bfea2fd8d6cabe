theorem d6_2_4 : decode prog_6_method_2_code 4 = .ok (.ifCond .ne 6, 3) := by decide +kernel
theorem d6_2_10 : decode prog_6_method_2_code 10 = .ok (.aload_n 0, 1) := by decide +kernel
theorem d6_2_11 : decode prog_6_method_2_code 11 = .ok (.aload_n 2, 1) := by decide +kernel
theorem d6_2_12 : decode prog_6_method_2_code 12 = .ok (.iconst 0, 1) := by decide +kernel
theorem d6_2_13 : decode prog_6_method_2_code 13 = .ok (.invokestatic 22, 3) := by decide +kernel
theorem kn776 : (Jvm.Cond.methodLinkNest "PagedValues$Patcher" (22 : Nat) ({ cls := "PagedValues$Value", name := "copyOf", desc := "(LPagedValues$Value;I)LPagedValues$Value;" } : Jvm.MethodName) "PagedValues") ∈ NW := tn_4 56 rfl rfl
theorem d6_2_16 : decode prog_6_method_2_code 16 = .ok (.putfield 28, 3) := by decide +kernel
theorem k123 : (Jvm.Cond.fieldLink "PagedValues$Patcher" (28 : Nat) "PagedValues$Patcher" "document" "LPagedValues$Value;") ∈ TB := tk_1 123 rfl rfl
theorem d6_2_19 : decode prog_6_method_2_code 19 = .ok (.iconst 0, 1) := by decide +kernel
theorem d6_2_20 : decode prog_6_method_2_code 20 = .ok (.istore_n 3, 1) := by decide +kernel
theorem d6_2_21 : decode prog_6_method_2_code 21 = .ok (.aload_n 1, 1) := by decide +kernel
theorem d6_2_22 : decode prog_6_method_2_code 22 = .ok (.getfield 32, 3) := by decide +kernel
theorem d6_2_25 : decode prog_6_method_2_code 25 = .ok (.astore 4, 2) := by decide +kernel
theorem d6_2_87 : decode prog_6_method_2_code 87 = .ok (.iconst 0, 1) := by decide +kernel
theorem d6_2_88 : decode prog_6_method_2_code 88 = .ok (.ireturn, 1) := by decide +kernel
theorem d6_2_27 : decode prog_6_method_2_code 27 = .ok (.aload 4, 2) := by decide +kernel
theorem d6_2_29 : decode prog_6_method_2_code 29 = .ok (.ifnull 58, 3) := by decide +kernel
theorem d6_2_32 : decode prog_6_method_2_code 32 = .ok (.aload_n 0, 1) := by decide +kernel
theorem d6_2_33 : decode prog_6_method_2_code 33 = .ok (.aload 4, 2) := by decide +kernel
theorem d6_2_35 : decode prog_6_method_2_code 35 = .ok (.invokevirtual 35, 3) := by decide +kernel
theorem d6_7_0 : decode prog_6_method_7_code 0 = .ok (.aload_n 1, 1) := by decide +kernel
theorem d6_7_1 : decode prog_6_method_7_code 1 = .ok (.ldc 60, 2) := by decide +kernel
theorem d6_7_3 : decode prog_6_method_7_code 3 = .ok (.invokestatic 68, 3) := by decide +kernel
theorem d6_7_6 : decode prog_6_method_7_code 6 = .ok (.astore_n 2, 1) := by decide +kernel
theorem d6_7_7 : decode prog_6_method_7_code 7 = .ok (.aload_n 1, 1) := by decide +kernel
theorem d6_7_8 : decode prog_6_method_7_code 8 = .ok (.ldc 66, 2) := by decide +kernel
theorem d6_7_10 : decode prog_6_method_7_code 10 = .ok (.invokestatic 68, 3) := by decide +kernel
theorem d6_7_13 : decode prog_6_method_7_code 13 = .ok (.astore_n 3, 1) := by decide +kernel
theorem d6_7_14 : decode prog_6_method_7_code 14 = .ok (.aload_n 3, 1) := by decide +kernel
theorem d6_7_15 : decode prog_6_method_7_code 15 = .ok (.invokestatic 103, 3) := by decide +kernel
theorem d7_2_0 : decode prog_7_method_2_code 0 = .ok (.aload_n 0, 1) := by decide +kernel
theorem d7_2_1 : decode prog_7_method_2_code 1 = .ok (.invokevirtual 18, 3) := by decide +kernel
theorem k792 : (Jvm.Cond.code ({ cls := "java/lang/String", name := "isEmpty", desc := "()Z" } : Jvm.MethodName) prog_21_method_55_code (1 : Nat) (Option.some Jvm.ClassFile.FieldType.boolean)) ∈ TB := tk_4 72 rfl rfl
theorem k789 : (Jvm.Cond.methodLink "PagedValues$Pointer" (18 : Nat) ({ cls := "java/lang/String", name := "isEmpty", desc := "()Z" } : Jvm.MethodName)) ∈ TB := tk_4 69 rfl rfl
theorem k790 : (Jvm.Cond.instanceMethod ({ cls := "java/lang/String", name := "isEmpty", desc := "()Z" } : Jvm.MethodName)) ∈ TB := tk_4 70 rfl rfl
theorem k791 : (Jvm.Cond.selects "java/lang/String" ({ cls := "java/lang/String", name := "isEmpty", desc := "()Z" } : Jvm.MethodName) ({ cls := "java/lang/String", name := "isEmpty", desc := "()Z" } : Jvm.MethodName)) ∈ TB := tk_4 71 rfl rfl
theorem d7_2_4 : decode prog_7_method_2_code 4 = .ok (.ifCond .eq 5, 3) := by decide +kernel
theorem d7_2_9 : decode prog_7_method_2_code 9 = .ok (.aload_n 0, 1) := by decide +kernel
theorem d7_2_10 : decode prog_7_method_2_code 10 = .ok (.iconst 0, 1) := by decide +kernel
theorem d7_2_11 : decode prog_7_method_2_code 11 = .ok (.invokevirtual 24, 3) := by decide +kernel
theorem k793 : (Jvm.Cond.methodLink "PagedValues$Pointer" (24 : Nat) ({ cls := "java/lang/String", name := "charAt", desc := "(I)C" } : Jvm.MethodName)) ∈ TB := tk_4 73 rfl rfl
theorem d7_2_14 : decode prog_7_method_2_code 14 = .ok (.bipush 47, 2) := by decide +kernel
theorem d7_2_16 : decode prog_7_method_2_code 16 = .ok (.if_icmp .eq 5, 3) := by decide +kernel
theorem d7_2_21 : decode prog_7_method_2_code 21 = .ok (.iconst 0, 1) := by decide +kernel
theorem d7_2_22 : decode prog_7_method_2_code 22 = .ok (.istore_n 1, 1) := by decide +kernel
theorem d7_2_57 : decode prog_7_method_2_code 57 = .ok (.iconst 1, 1) := by decide +kernel
theorem d7_2_58 : decode prog_7_method_2_code 58 = .ok (.ireturn, 1) := by decide +kernel
theorem d7_2_23 : decode prog_7_method_2_code 23 = .ok (.iload_n 1, 1) := by decide +kernel
theorem d7_2_24 : decode prog_7_method_2_code 24 = .ok (.aload_n 0, 1) := by decide +kernel
theorem d7_2_25 : decode prog_7_method_2_code 25 = .ok (.invokevirtual 28, 3) := by decide +kernel
theorem k794 : (Jvm.Cond.methodLink "PagedValues$Pointer" (28 : Nat) ({ cls := "java/lang/String", name := "length", desc := "()I" } : Jvm.MethodName)) ∈ TB := tk_4 74 rfl rfl
theorem d7_2_28 : decode prog_7_method_2_code 28 = .ok (.if_icmp .ge 29, 3) := by decide +kernel
theorem d7_2_31 : decode prog_7_method_2_code 31 = .ok (.aload_n 0, 1) := by decide +kernel
theorem d7_2_32 : decode prog_7_method_2_code 32 = .ok (.iload_n 1, 1) := by decide +kernel
theorem d7_2_33 : decode prog_7_method_2_code 33 = .ok (.invokevirtual 24, 3) := by decide +kernel
theorem d7_2_36 : decode prog_7_method_2_code 36 = .ok (.bipush 126, 2) := by decide +kernel
theorem d7_2_38 : decode prog_7_method_2_code 38 = .ok (.if_icmp .ne 13, 3) := by decide +kernel
theorem d7_2_51 : decode prog_7_method_2_code 51 = .ok (.iinc 1 1, 3) := by decide +kernel
theorem d7_2_54 : decode prog_7_method_2_code 54 = .ok (.goto (-31), 3) := by decide +kernel
theorem d7_2_41 : decode prog_7_method_2_code 41 = .ok (.aload_n 0, 1) := by decide +kernel
theorem d7_2_42 : decode prog_7_method_2_code 42 = .ok (.iload_n 1, 1) := by decide +kernel
theorem d7_2_43 : decode prog_7_method_2_code 43 = .ok (.invokestatic 32, 3) := by decide +kernel
theorem d7_3_0 : decode prog_7_method_3_code 0 = .ok (.iload_n 1, 1) := by decide +kernel
theorem d7_3_1 : decode prog_7_method_3_code 1 = .ok (.iconst 1, 1) := by decide +kernel
theorem d7_3_2 : decode prog_7_method_3_code 2 = .ok (.iadd, 1) := by decide +kernel
theorem d7_3_3 : decode prog_7_method_3_code 3 = .ok (.aload_n 0, 1) := by decide +kernel
theorem d7_3_4 : decode prog_7_method_3_code 4 = .ok (.invokevirtual 28, 3) := by decide +kernel
theorem d7_3_7 : decode prog_7_method_3_code 7 = .ok (.if_icmp .lt 5, 3) := by decide +kernel
theorem d7_3_12 : decode prog_7_method_3_code 12 = .ok (.aload_n 0, 1) := by decide +kernel
theorem d7_3_13 : decode prog_7_method_3_code 13 = .ok (.iload_n 1, 1) := by decide +kernel
theorem d7_3_14 : decode prog_7_method_3_code 14 = .ok (.iconst 1, 1) := by decide +kernel
theorem d7_3_15 : decode prog_7_method_3_code 15 = .ok (.iadd, 1) := by decide +kernel
theorem d7_3_16 : decode prog_7_method_3_code 16 = .ok (.invokevirtual 24, 3) := by decide +kernel
theorem d7_3_19 : decode prog_7_method_3_code 19 = .ok (.istore_n 2, 1) := by decide +kernel
theorem d7_3_20 : decode prog_7_method_3_code 20 = .ok (.iload_n 2, 1) := by decide +kernel
theorem d7_3_21 : decode prog_7_method_3_code 21 = .ok (.bipush 48, 2) := by decide +kernel
theorem d7_3_23 : decode prog_7_method_3_code 23 = .ok (.if_icmp .eq 9, 3) := by decide +kernel
theorem d7_3_32 : decode prog_7_method_3_code 32 = .ok (.iconst 1, 1) := by decide +kernel
theorem d7_3_33 : decode prog_7_method_3_code 33 = .ok (.goto 4, 3) := by decide +kernel
theorem d7_3_26 : decode prog_7_method_3_code 26 = .ok (.iload_n 2, 1) := by decide +kernel
theorem d7_3_27 : decode prog_7_method_3_code 27 = .ok (.bipush 49, 2) := by decide +kernel
theorem d7_3_29 : decode prog_7_method_3_code 29 = .ok (.if_icmp .ne 7, 3) := by decide +kernel
theorem d7_3_36 : decode prog_7_method_3_code 36 = .ok (.iconst 0, 1) := by decide +kernel
theorem d7_3_37 : decode prog_7_method_3_code 37 = .ok (.ireturn, 1) := by decide +kernel
theorem d7_3_10 : decode prog_7_method_3_code 10 = .ok (.iconst 0, 1) := by decide +kernel
theorem d7_3_11 : decode prog_7_method_3_code 11 = .ok (.ireturn, 1) := by decide +kernel
def y7_3 : MethodName := { cls := "PagedValues$Pointer", name := "isEscape", desc := "(Ljava/lang/String;I)Z" }
theorem k797 : (Jvm.Cond.code ({ cls := "PagedValues$Pointer", name := "isEscape", desc := "(Ljava/lang/String;I)Z" } : Jvm.MethodName) prog_7_method_3_code (3 : Nat) (Option.some Jvm.ClassFile.FieldType.boolean)) ∈ TB := tk_4 77 rfl rfl
theorem k795 : (Jvm.Cond.methodLink "PagedValues$Pointer" (32 : Nat) ({ cls := "PagedValues$Pointer", name := "isEscape", desc := "(Ljava/lang/String;I)Z" } : Jvm.MethodName)) ∈ TB := tk_4 75 rfl rfl
theorem k796 : (Jvm.Cond.static ({ cls := "PagedValues$Pointer", name := "isEscape", desc := "(Ljava/lang/String;I)Z" } : Jvm.MethodName)) ∈ TB := tk_4 76 rfl rfl
theorem d7_2_46 : decode prog_7_method_2_code 46 = .ok (.ifCond .ne 5, 3) := by decide +kernel
theorem d7_2_49 : decode prog_7_method_2_code 49 = .ok (.iconst 0, 1) := by decide +kernel
theorem d7_2_50 : decode prog_7_method_2_code 50 = .ok (.ireturn, 1) := by decide +kernel
theorem d7_2_19 : decode prog_7_method_2_code 19 = .ok (.iconst 0, 1) := by decide +kernel
theorem d7_2_20 : decode prog_7_method_2_code 20 = .ok (.ireturn, 1) := by decide +kernel
theorem d7_2_7 : decode prog_7_method_2_code 7 = .ok (.iconst 1, 1) := by decide +kernel
theorem d7_2_8 : decode prog_7_method_2_code 8 = .ok (.ireturn, 1) := by decide +kernel
def y7_2 : MethodName := { cls := "PagedValues$Pointer", name := "isPointer", desc := "(Ljava/lang/String;)Z" }
theorem k788 : (Jvm.Cond.code ({ cls := "PagedValues$Pointer", name := "isPointer", desc := "(Ljava/lang/String;)Z" } : Jvm.MethodName) prog_7_method_2_code (2 : Nat) (Option.some Jvm.ClassFile.FieldType.boolean)) ∈ TB := tk_4 68 rfl rfl
theorem k786 : (Jvm.Cond.methodLink "PagedValues$Patcher" (103 : Nat) ({ cls := "PagedValues$Pointer", name := "isPointer", desc := "(Ljava/lang/String;)Z" } : Jvm.MethodName)) ∈ TB := tk_4 66 rfl rfl
theorem k787 : (Jvm.Cond.static ({ cls := "PagedValues$Pointer", name := "isPointer", desc := "(Ljava/lang/String;)Z" } : Jvm.MethodName)) ∈ TB := tk_4 67 rfl rfl
theorem d6_7_18 : decode prog_6_method_7_code 18 = .ok (.ifCond .ne 5, 3) := by decide +kernel
theorem d6_7_23 : decode prog_6_method_7_code 23 = .ok (.aload_n 2, 1) := by decide +kernel
theorem d6_7_24 : decode prog_6_method_7_code 24 = .ok (.ldc 92, 2) := by decide +kernel
theorem d6_7_26 : decode prog_6_method_7_code 26 = .ok (.invokevirtual 74, 3) := by decide +kernel
theorem d6_7_29 : decode prog_6_method_7_code 29 = .ok (.ifCond .eq 25, 3) := by decide +kernel
theorem d6_7_54 : decode prog_6_method_7_code 54 = .ok (.aload_n 2, 1) := by decide +kernel
theorem d6_7_55 : decode prog_6_method_7_code 55 = .ok (.ldc 88, 2) := by decide +kernel
theorem d6_7_57 : decode prog_6_method_7_code 57 = .ok (.invokevirtual 74, 3) := by decide +kernel
theorem d6_7_60 : decode prog_6_method_7_code 60 = .ok (.ifCond .eq 16, 3) := by decide +kernel
theorem d6_7_76 : decode prog_6_method_7_code 76 = .ok (.aload_n 1, 1) := by decide +kernel
theorem d6_7_77 : decode prog_6_method_7_code 77 = .ok (.ldc 82, 2) := by decide +kernel
theorem d6_7_79 : decode prog_6_method_7_code 79 = .ok (.invokevirtual 84, 3) := by decide +kernel
theorem d6_7_63 : decode prog_6_method_7_code 63 = .ok (.aload_n 0, 1) := by decide +kernel
theorem d6_7_64 : decode prog_6_method_7_code 64 = .ok (.aload_n 1, 1) := by decide +kernel
theorem d6_7_65 : decode prog_6_method_7_code 65 = .ok (.ldc 90, 2) := by decide +kernel
theorem d6_7_67 : decode prog_6_method_7_code 67 = .ok (.invokestatic 68, 3) := by decide +kernel
theorem d6_7_70 : decode prog_6_method_7_code 70 = .ok (.invokevirtual 115, 3) := by decide +kernel
theorem d6_8_0 : decode prog_6_method_8_code 0 = .ok (.aload_n 1, 1) := by decide +kernel
theorem d6_8_1 : decode prog_6_method_8_code 1 = .ok (.invokestatic 103, 3) := by decide +kernel
theorem d6_8_4 : decode prog_6_method_8_code 4 = .ok (.ifCond .eq 22, 3) := by decide +kernel
theorem d6_8_26 : decode prog_6_method_8_code 26 = .ok (.aconst_null, 1) := by decide +kernel
theorem d6_8_7 : decode prog_6_method_8_code 7 = .ok (.aload_n 0, 1) := by decide +kernel
theorem d6_8_8 : decode prog_6_method_8_code 8 = .ok (.getfield 12, 3) := by decide +kernel
theorem d6_8_11 : decode prog_6_method_8_code 11 = .ok (.aload_n 0, 1) := by decide +kernel
theorem d6_8_12 : decode prog_6_method_8_code 12 = .ok (.getfield 28, 3) := by decide +kernel
theorem d6_8_15 : decode prog_6_method_8_code 15 = .ok (.aload_n 1, 1) := by decide +kernel
theorem d6_8_16 : decode prog_6_method_8_code 16 = .ok (.aload_n 1, 1) := by decide +kernel
theorem d6_8_17 : decode prog_6_method_8_code 17 = .ok (.invokevirtual 120, 3) := by decide +kernel
theorem k828 : (Jvm.Cond.methodLink "PagedValues$Patcher" (120 : Nat) ({ cls := "java/lang/String", name := "length", desc := "()I" } : Jvm.MethodName)) ∈ TB := tk_4 108 rfl rfl
theorem d6_8_20 : decode prog_6_method_8_code 20 = .ok (.invokevirtual 124, 3) := by decide +kernel
theorem d7_5_0 : decode prog_7_method_5_code 0 = .ok (.aload_n 1, 1) := by decide +kernel
theorem d7_5_1 : decode prog_7_method_5_code 1 = .ok (.astore 4, 2) := by decide +kernel
theorem d7_5_3 : decode prog_7_method_5_code 3 = .ok (.iconst 1, 1) := by decide +kernel
theorem d7_5_4 : decode prog_7_method_5_code 4 = .ok (.istore 5, 2) := by decide +kernel
theorem d7_5_6 : decode prog_7_method_5_code 6 = .ok (.iconst 1, 1) := by decide +kernel
theorem d7_5_7 : decode prog_7_method_5_code 7 = .ok (.istore 6, 2) := by decide +kernel
theorem d7_5_93 : decode prog_7_method_5_code 93 = .ok (.aload 4, 2) := by decide +kernel
theorem d7_5_95 : decode prog_7_method_5_code 95 = .ok (.areturn, 1) := by decide +kernel
theorem d7_5_9 : decode prog_7_method_5_code 9 = .ok (.iload 6, 2) := by decide +kernel
theorem d7_5_11 : decode prog_7_method_5_code 11 = .ok (.iload_n 3, 1) := by decide +kernel
theorem d7_5_12 : decode prog_7_method_5_code 12 = .ok (.if_icmp .gt 81, 3) := by decide +kernel
theorem d7_5_15 : decode prog_7_method_5_code 15 = .ok (.aload 4, 2) := by decide +kernel
theorem d7_5_17 : decode prog_7_method_5_code 17 = .ok (.ifnull 76, 3) := by decide +kernel
theorem d7_5_20 : decode prog_7_method_5_code 20 = .ok (.iload 6, 2) := by decide +kernel
theorem d7_5_22 : decode prog_7_method_5_code 22 = .ok (.iload_n 3, 1) := by decide +kernel
theorem d7_5_23 : decode prog_7_method_5_code 23 = .ok (.if_icmp .eq 14, 3) := by decide +kernel
theorem d7_5_37 : decode prog_7_method_5_code 37 = .ok (.aload_n 0, 1) := by decide +kernel
theorem d7_5_38 : decode prog_7_method_5_code 38 = .ok (.aload_n 2, 1) := by decide +kernel
theorem d7_5_39 : decode prog_7_method_5_code 39 = .ok (.iload 5, 2) := by decide +kernel
theorem d7_5_41 : decode prog_7_method_5_code 41 = .ok (.iload 6, 2) := by decide +kernel
theorem d7_5_43 : decode prog_7_method_5_code 43 = .ok (.invokevirtual 36, 3) := by decide +kernel
theorem d7_6_0 : decode prog_7_method_6_code 0 = .ok (.aload_n 0, 1) := by decide +kernel
theorem d7_6_1 : decode prog_7_method_6_code 1 = .ok (.getfield 12, 3) := by decide +kernel
theorem d7_6_4 : decode prog_7_method_6_code 4 = .ok (.iconst 0, 1) := by decide +kernel
theorem d7_6_5 : decode prog_7_method_6_code 5 = .ok (.invokevirtual 63, 3) := by decide +kernel
theorem k814 : (Jvm.Cond.methodLink "PagedValues$Pointer" (63 : Nat) ({ cls := "java/lang/StringBuilder", name := "setLength", desc := "(I)V" } : Jvm.MethodName)) ∈ TB := tk_4 94 rfl rfl
theorem d7_6_8 : decode prog_7_method_6_code 8 = .ok (.iconst 0, 1) := by decide +kernel
theorem d7_6_9 : decode prog_7_method_6_code 9 = .ok (.istore 4, 2) := by decide +kernel
theorem d7_6_11 : decode prog_7_method_6_code 11 = .ok (.iload_n 2, 1) := by decide +kernel
theorem d7_6_12 : decode prog_7_method_6_code 12 = .ok (.istore 5, 2) := by decide +kernel
theorem d7_6_90 : decode prog_7_method_6_code 90 = .ok (.aload_n 0, 1) := by decide +kernel
theorem d7_6_91 : decode prog_7_method_6_code 91 = .ok (.getfield 12, 3) := by decide +kernel
theorem d7_6_94 : decode prog_7_method_6_code 94 = .ok (.invokevirtual 71, 3) := by decide +kernel
theorem k816 : (Jvm.Cond.methodLink "PagedValues$Pointer" (71 : Nat) ({ cls := "java/lang/StringBuilder", name := "toString", desc := "()Ljava/lang/String;" } : Jvm.MethodName)) ∈ TB := tk_4 96 rfl rfl
theorem d7_6_97 : decode prog_7_method_6_code 97 = .ok (.areturn, 1) := by decide +kernel
theorem d7_6_14 : decode prog_7_method_6_code 14 = .ok (.iload 5, 2) := by decide +kernel
theorem d7_6_16 : decode prog_7_method_6_code 16 = .ok (.iload_n 3, 1) := by decide +kernel
theorem d7_6_17 : decode prog_7_method_6_code 17 = .ok (.if_icmp .ge 73, 3) := by decide +kernel
theorem d7_6_20 : decode prog_7_method_6_code 20 = .ok (.aload_n 1, 1) := by decide +kernel
theorem d7_6_21 : decode prog_7_method_6_code 21 = .ok (.iload 5, 2) := by decide +kernel
theorem d7_6_23 : decode prog_7_method_6_code 23 = .ok (.invokevirtual 24, 3) := by decide +kernel
theorem d7_6_26 : decode prog_7_method_6_code 26 = .ok (.istore 6, 2) := by decide +kernel
theorem d7_6_28 : decode prog_7_method_6_code 28 = .ok (.iload 4, 2) := by decide +kernel
theorem d7_6_30 : decode prog_7_method_6_code 30 = .ok (.ifCond .eq 31, 3) := by decide +kernel
theorem d7_6_61 : decode prog_7_method_6_code 61 = .ok (.iload 6, 2) := by decide +kernel
theorem d7_6_63 : decode prog_7_method_6_code 63 = .ok (.bipush 126, 2) := by decide +kernel
theorem d7_6_65 : decode prog_7_method_6_code 65 = .ok (.if_icmp .ne 9, 3) := by decide +kernel
theorem d7_6_74 : decode prog_7_method_6_code 74 = .ok (.aload_n 0, 1) := by decide +kernel
theorem d7_6_75 : decode prog_7_method_6_code 75 = .ok (.getfield 12, 3) := by decide +kernel
theorem d7_6_78 : decode prog_7_method_6_code 78 = .ok (.iload 6, 2) := by decide +kernel
theorem d7_6_80 : decode prog_7_method_6_code 80 = .ok (.invokevirtual 67, 3) := by decide +kernel
theorem k815 : (Jvm.Cond.methodLink "PagedValues$Pointer" (67 : Nat) ({ cls := "java/lang/StringBuilder", name := "append", desc := "(C)Ljava/lang/StringBuilder;" } : Jvm.MethodName)) ∈ TB := tk_4 95 rfl rfl
theorem d7_6_83 : decode prog_7_method_6_code 83 = .ok (.pop, 1) := by decide +kernel
theorem d7_6_68 : decode prog_7_method_6_code 68 = .ok (.iconst 1, 1) := by decide +kernel
theorem d7_6_69 : decode prog_7_method_6_code 69 = .ok (.istore 4, 2) := by decide +kernel
theorem d7_6_71 : decode prog_7_method_6_code 71 = .ok (.goto 13, 3) := by decide +kernel
theorem d7_6_33 : decode prog_7_method_6_code 33 = .ok (.aload_n 0, 1) := by decide +kernel
theorem d7_6_34 : decode prog_7_method_6_code 34 = .ok (.getfield 12, 3) := by decide +kernel
theorem d7_6_37 : decode prog_7_method_6_code 37 = .ok (.iload 6, 2) := by decide +kernel
theorem d7_6_39 : decode prog_7_method_6_code 39 = .ok (.bipush 48, 2) := by decide +kernel
theorem d7_6_41 : decode prog_7_method_6_code 41 = .ok (.if_icmp .ne 8, 3) := by decide +kernel
theorem d7_6_49 : decode prog_7_method_6_code 49 = .ok (.bipush 47, 2) := by decide +kernel
theorem d7_6_44 : decode prog_7_method_6_code 44 = .ok (.bipush 126, 2) := by decide +kernel
theorem d7_6_46 : decode prog_7_method_6_code 46 = .ok (.goto 5, 3) := by decide +kernel
theorem d7_6_51 : decode prog_7_method_6_code 51 = .ok (.invokevirtual 67, 3) := by decide +kernel
theorem d7_6_54 : decode prog_7_method_6_code 54 = .ok (.pop, 1) := by decide +kernel
theorem d7_6_55 : decode prog_7_method_6_code 55 = .ok (.iconst 0, 1) := by decide +kernel
theorem d7_6_56 : decode prog_7_method_6_code 56 = .ok (.istore 4, 2) := by decide +kernel
theorem d7_6_58 : decode prog_7_method_6_code 58 = .ok (.goto 26, 3) := by decide +kernel
theorem d7_6_84 : decode prog_7_method_6_code 84 = .ok (.iinc 5 1, 3) := by decide +kernel
theorem d7_6_87 : decode prog_7_method_6_code 87 = .ok (.goto (-73), 3) := by decide +kernel
def y7_6 : MethodName := { cls := "PagedValues$Pointer", name := "token", desc := "(Ljava/lang/String;II)Ljava/lang/String;" }
theorem k813 : (Jvm.Cond.code ({ cls := "PagedValues$Pointer", name := "token", desc := "(Ljava/lang/String;II)Ljava/lang/String;" } : Jvm.MethodName) prog_7_method_6_code (7 : Nat) (Option.some (Jvm.ClassFile.FieldType.object "java/lang/String"))) ∈ TB := tk_4 93 rfl rfl
theorem k810 : (Jvm.Cond.methodLink "PagedValues$Pointer" (36 : Nat) ({ cls := "PagedValues$Pointer", name := "token", desc := "(Ljava/lang/String;II)Ljava/lang/String;" } : Jvm.MethodName)) ∈ TB := tk_4 90 rfl rfl
theorem k811 : (Jvm.Cond.instanceMethod ({ cls := "PagedValues$Pointer", name := "token", desc := "(Ljava/lang/String;II)Ljava/lang/String;" } : Jvm.MethodName)) ∈ TB := tk_4 91 rfl rfl
theorem k812 : (Jvm.Cond.selects "PagedValues$Pointer" ({ cls := "PagedValues$Pointer", name := "token", desc := "(Ljava/lang/String;II)Ljava/lang/String;" } : Jvm.MethodName) ({ cls := "PagedValues$Pointer", name := "token", desc := "(Ljava/lang/String;II)Ljava/lang/String;" } : Jvm.MethodName)) ∈ TB := tk_4 92 rfl rfl
theorem d7_5_46 : decode prog_7_method_5_code 46 = .ok (.astore 7, 2) := by decide +kernel
theorem d7_5_48 : decode prog_7_method_5_code 48 = .ok (.aload 4, 2) := by decide +kernel
theorem d7_5_50 : decode prog_7_method_5_code 50 = .ok (.getfield 40, 3) := by decide +kernel
theorem kn351 : (Jvm.Cond.fieldLinkNest "PagedValues$Pointer" (40 : Nat) "PagedValues$Value" "kind" "LPagedValues$Kind;" "PagedValues") ∈ NW := tn_2 111 rfl rfl
theorem d7_5_53 : decode prog_7_method_5_code 53 = .ok (.getstatic 46, 3) := by decide +kernel
theorem k817 : (Jvm.Cond.fieldLink "PagedValues$Pointer" (46 : Nat) "PagedValues$Kind" "OBJECT" "LPagedValues$Kind;") ∈ TB := tk_4 97 rfl rfl
theorem d7_5_56 : decode prog_7_method_5_code 56 = .ok (.if_acmp .ne 13, 3) := by decide +kernel
theorem d7_5_69 : decode prog_7_method_5_code 69 = .ok (.aload 4, 2) := by decide +kernel
theorem d7_5_71 : decode prog_7_method_5_code 71 = .ok (.aload 7, 2) := by decide +kernel
theorem d7_5_73 : decode prog_7_method_5_code 73 = .ok (.invokestatic 55, 3) := by decide +kernel
theorem d7_7_0 : decode prog_7_method_7_code 0 = .ok (.aload_n 0, 1) := by decide +kernel
theorem d7_7_1 : decode prog_7_method_7_code 1 = .ok (.invokevirtual 28, 3) := by decide +kernel
theorem d7_7_4 : decode prog_7_method_7_code 4 = .ok (.istore_n 1, 1) := by decide +kernel
theorem d7_7_5 : decode prog_7_method_7_code 5 = .ok (.iload_n 1, 1) := by decide +kernel
theorem d7_7_6 : decode prog_7_method_7_code 6 = .ok (.ifCond .eq 24, 3) := by decide +kernel
theorem d7_7_30 : decode prog_7_method_7_code 30 = .ok (.iconst (-1), 1) := by decide +kernel
theorem d7_7_31 : decode prog_7_method_7_code 31 = .ok (.ireturn, 1) := by decide +kernel
theorem d7_7_9 : decode prog_7_method_7_code 9 = .ok (.iload_n 1, 1) := by decide +kernel
theorem d7_7_10 : decode prog_7_method_7_code 10 = .ok (.bipush 10, 2) := by decide +kernel
theorem d7_7_12 : decode prog_7_method_7_code 12 = .ok (.if_icmp .ge 18, 3) := by decide +kernel
theorem d7_7_15 : decode prog_7_method_7_code 15 = .ok (.iload_n 1, 1) := by decide +kernel
theorem d7_7_16 : decode prog_7_method_7_code 16 = .ok (.iconst 1, 1) := by decide +kernel
theorem d7_7_17 : decode prog_7_method_7_code 17 = .ok (.if_icmp .le 15, 3) := by decide +kernel
theorem d7_7_32 : decode prog_7_method_7_code 32 = .ok (.iconst 0, 1) := by decide +kernel
theorem d7_7_33 : decode prog_7_method_7_code 33 = .ok (.istore_n 2, 1) := by decide +kernel
theorem d7_7_34 : decode prog_7_method_7_code 34 = .ok (.iconst 0, 1) := by decide +kernel
theorem d7_7_35 : decode prog_7_method_7_code 35 = .ok (.istore_n 3, 1) := by decide +kernel
theorem d7_7_75 : decode prog_7_method_7_code 75 = .ok (.iload_n 2, 1) := by decide +kernel
theorem d7_7_76 : decode prog_7_method_7_code 76 = .ok (.ireturn, 1) := by decide +kernel
theorem d7_7_36 : decode prog_7_method_7_code 36 = .ok (.iload_n 3, 1) := by decide +kernel
theorem d7_7_37 : decode prog_7_method_7_code 37 = .ok (.iload_n 1, 1) := by decide +kernel
theorem d7_7_38 : decode prog_7_method_7_code 38 = .ok (.if_icmp .ge 37, 3) := by decide +kernel
theorem d7_7_41 : decode prog_7_method_7_code 41 = .ok (.aload_n 0, 1) := by decide +kernel
theorem d7_7_42 : decode prog_7_method_7_code 42 = .ok (.iload_n 3, 1) := by decide +kernel
theorem d7_7_43 : decode prog_7_method_7_code 43 = .ok (.invokevirtual 24, 3) := by decide +kernel
theorem d7_7_46 : decode prog_7_method_7_code 46 = .ok (.istore 4, 2) := by decide +kernel
theorem d7_7_48 : decode prog_7_method_7_code 48 = .ok (.iload 4, 2) := by decide +kernel
theorem d7_7_50 : decode prog_7_method_7_code 50 = .ok (.invokestatic 75, 3) := by decide +kernel
theorem k822 : (Jvm.Cond.methodLink "PagedValues$Pointer" (75 : Nat) ({ cls := "PagedValues$Text", name := "isDigit", desc := "(I)Z" } : Jvm.MethodName)) ∈ TB := tk_4 102 rfl rfl
theorem d7_7_53 : decode prog_7_method_7_code 53 = .ok (.ifCond .ne 5, 3) := by decide +kernel
theorem d7_7_58 : decode prog_7_method_7_code 58 = .ok (.iload_n 2, 1) := by decide +kernel
theorem d7_7_59 : decode prog_7_method_7_code 59 = .ok (.bipush 10, 2) := by decide +kernel
theorem d7_7_61 : decode prog_7_method_7_code 61 = .ok (.imul, 1) := by decide +kernel
theorem d7_7_62 : decode prog_7_method_7_code 62 = .ok (.iload 4, 2) := by decide +kernel
theorem d7_7_64 : decode prog_7_method_7_code 64 = .ok (.bipush 48, 2) := by decide +kernel
theorem d7_7_66 : decode prog_7_method_7_code 66 = .ok (.isub, 1) := by decide +kernel
theorem d7_7_67 : decode prog_7_method_7_code 67 = .ok (.iadd, 1) := by decide +kernel
theorem d7_7_68 : decode prog_7_method_7_code 68 = .ok (.istore_n 2, 1) := by decide +kernel
theorem d7_7_69 : decode prog_7_method_7_code 69 = .ok (.iinc 3 1, 3) := by decide +kernel
theorem d7_7_72 : decode prog_7_method_7_code 72 = .ok (.goto (-36), 3) := by decide +kernel
theorem d7_7_56 : decode prog_7_method_7_code 56 = .ok (.iconst (-1), 1) := by decide +kernel
theorem d7_7_57 : decode prog_7_method_7_code 57 = .ok (.ireturn, 1) := by decide +kernel
theorem d7_7_20 : decode prog_7_method_7_code 20 = .ok (.aload_n 0, 1) := by decide +kernel
theorem d7_7_21 : decode prog_7_method_7_code 21 = .ok (.iconst 0, 1) := by decide +kernel
theorem d7_7_22 : decode prog_7_method_7_code 22 = .ok (.invokevirtual 24, 3) := by decide +kernel
theorem d7_7_25 : decode prog_7_method_7_code 25 = .ok (.bipush 48, 2) := by decide +kernel
theorem d7_7_27 : decode prog_7_method_7_code 27 = .ok (.if_icmp .ne 5, 3) := by decide +kernel
def y7_7 : MethodName := { cls := "PagedValues$Pointer", name := "index", desc := "(Ljava/lang/String;)I" }
theorem k821 : (Jvm.Cond.code ({ cls := "PagedValues$Pointer", name := "index", desc := "(Ljava/lang/String;)I" } : Jvm.MethodName) prog_7_method_7_code (5 : Nat) (Option.some Jvm.ClassFile.FieldType.int)) ∈ TB := tk_4 101 rfl rfl
theorem k819 : (Jvm.Cond.methodLink "PagedValues$Pointer" (55 : Nat) ({ cls := "PagedValues$Pointer", name := "index", desc := "(Ljava/lang/String;)I" } : Jvm.MethodName)) ∈ TB := tk_4 99 rfl rfl
theorem k820 : (Jvm.Cond.static ({ cls := "PagedValues$Pointer", name := "index", desc := "(Ljava/lang/String;)I" } : Jvm.MethodName)) ∈ TB := tk_4 100 rfl rfl
theorem d7_5_76 : decode prog_7_method_5_code 76 = .ok (.invokevirtual 59, 3) := by decide +kernel
theorem k826 : (Jvm.Cond.code ({ cls := "PagedValues$Value", name := "element", desc := "(I)LPagedValues$Value;" } : Jvm.MethodName) prog_12_method_3_code (4 : Nat) (Option.some (Jvm.ClassFile.FieldType.object "PagedValues$Value"))) ∈ TB := tk_4 106 rfl rfl
theorem k823 : (Jvm.Cond.methodLink "PagedValues$Pointer" (59 : Nat) ({ cls := "PagedValues$Value", name := "element", desc := "(I)LPagedValues$Value;" } : Jvm.MethodName)) ∈ TB := tk_4 103 rfl rfl
theorem k824 : (Jvm.Cond.instanceMethod ({ cls := "PagedValues$Value", name := "element", desc := "(I)LPagedValues$Value;" } : Jvm.MethodName)) ∈ TB := tk_4 104 rfl rfl
theorem k825 : (Jvm.Cond.selects "PagedValues$Value" ({ cls := "PagedValues$Value", name := "element", desc := "(I)LPagedValues$Value;" } : Jvm.MethodName) ({ cls := "PagedValues$Value", name := "element", desc := "(I)LPagedValues$Value;" } : Jvm.MethodName)) ∈ TB := tk_4 105 rfl rfl
theorem d7_5_59 : decode prog_7_method_5_code 59 = .ok (.aload 4, 2) := by decide +kernel
theorem d7_5_61 : decode prog_7_method_5_code 61 = .ok (.aload 7, 2) := by decide +kernel
theorem d7_5_63 : decode prog_7_method_5_code 63 = .ok (.invokevirtual 51, 3) := by decide +kernel
theorem k818 : (Jvm.Cond.methodLink "PagedValues$Pointer" (51 : Nat) ({ cls := "PagedValues$Value", name := "member", desc := "(Ljava/lang/String;)LPagedValues$Value;" } : Jvm.MethodName)) ∈ TB := tk_4 98 rfl rfl
theorem d7_5_66 : decode prog_7_method_5_code 66 = .ok (.goto 13, 3) := by decide +kernel
theorem d7_5_79 : decode prog_7_method_5_code 79 = .ok (.astore 4, 2) := by decide +kernel
theorem d7_5_81 : decode prog_7_method_5_code 81 = .ok (.iload 6, 2) := by decide +kernel
theorem d7_5_83 : decode prog_7_method_5_code 83 = .ok (.iconst 1, 1) := by decide +kernel
theorem d7_5_84 : decode prog_7_method_5_code 84 = .ok (.iadd, 1) := by decide +kernel
theorem d7_5_85 : decode prog_7_method_5_code 85 = .ok (.istore 5, 2) := by decide +kernel
theorem d7_5_26 : decode prog_7_method_5_code 26 = .ok (.aload_n 2, 1) := by decide +kernel
theorem d7_5_27 : decode prog_7_method_5_code 27 = .ok (.iload 6, 2) := by decide +kernel
theorem d7_5_29 : decode prog_7_method_5_code 29 = .ok (.invokevirtual 24, 3) := by decide +kernel
theorem d7_5_32 : decode prog_7_method_5_code 32 = .ok (.bipush 47, 2) := by decide +kernel
theorem d7_5_34 : decode prog_7_method_5_code 34 = .ok (.if_icmp .ne 53, 3) := by decide +kernel
theorem d7_5_87 : decode prog_7_method_5_code 87 = .ok (.iinc 6 1, 3) := by decide +kernel
theorem d7_5_90 : decode prog_7_method_5_code 90 = .ok (.goto (-81), 3) := by decide +kernel
def y7_5 : MethodName := { cls := "PagedValues$Pointer", name := "lead", desc := "(LPagedValues$Value;Ljava/lang/String;I)LPagedValues$Value;" }
theorem k809 : (Jvm.Cond.code ({ cls := "PagedValues$Pointer", name := "lead", desc := "(LPagedValues$Value;Ljava/lang/String;I)LPagedValues$Value;" } : Jvm.MethodName) prog_7_method_5_code (8 : Nat) (Option.some (Jvm.ClassFile.FieldType.object "PagedValues$Value"))) ∈ TB := tk_4 89 rfl rfl
theorem k806 : (Jvm.Cond.methodLink "PagedValues$Patcher" (124 : Nat) ({ cls := "PagedValues$Pointer", name := "lead", desc := "(LPagedValues$Value;Ljava/lang/String;I)LPagedValues$Value;" } : Jvm.MethodName)) ∈ TB := tk_4 86 rfl rfl
theorem k807 : (Jvm.Cond.instanceMethod ({ cls := "PagedValues$Pointer", name := "lead", desc := "(LPagedValues$Value;Ljava/lang/String;I)LPagedValues$Value;" } : Jvm.MethodName)) ∈ TB := tk_4 87 rfl rfl
theorem k808 : (Jvm.Cond.selects "PagedValues$Pointer" ({ cls := "PagedValues$Pointer", name := "lead", desc := "(LPagedValues$Value;Ljava/lang/String;I)LPagedValues$Value;" } : Jvm.MethodName) ({ cls := "PagedValues$Pointer", name := "lead", desc := "(LPagedValues$Value;Ljava/lang/String;I)LPagedValues$Value;" } : Jvm.MethodName)) ∈ TB := tk_4 88 rfl rfl
theorem d6_8_23 : decode prog_6_method_8_code 23 = .ok (.goto 4, 3) := by decide +kernel
theorem d6_8_27 : decode prog_6_method_8_code 27 = .ok (.areturn, 1) := by decide +kernel
def y6_8 : MethodName := { cls := "PagedValues$Patcher", name := "copySource", desc := "(Ljava/lang/String;)LPagedValues$Value;" }
theorem k844 : (Jvm.Cond.code ({ cls := "PagedValues$Patcher", name := "copySource", desc := "(Ljava/lang/String;)LPagedValues$Value;" } : Jvm.MethodName) prog_6_method_8_code (2 : Nat) (Option.some (Jvm.ClassFile.FieldType.object "PagedValues$Value"))) ∈ TB := tk_4 124 rfl rfl
theorem k841 : (Jvm.Cond.methodLink "PagedValues$Patcher" (115 : Nat) ({ cls := "PagedValues$Patcher", name := "copySource", desc := "(Ljava/lang/String;)LPagedValues$Value;" } : Jvm.MethodName)) ∈ TB := tk_4 121 rfl rfl
theorem k843 : (Jvm.Cond.instanceMethod ({ cls := "PagedValues$Patcher", name := "copySource", desc := "(Ljava/lang/String;)LPagedValues$Value;" } : Jvm.MethodName)) ∈ TB := tk_4 123 rfl rfl
theorem ks20 : Cond.selects y6_8.cls y6_8 y6_8 ∈ TB := List.mem_filter.mpr ⟨List.mem_append_left _ (List.mem_of_getElem? (i := 20) (by decide +kernel)), rfl⟩
theorem d6_7_73 : decode prog_6_method_7_code 73 = .ok (.goto 9, 3) := by decide +kernel
theorem d6_7_82 : decode prog_6_method_7_code 82 = .ok (.astore 4, 2) := by decide +kernel
theorem d6_7_84 : decode prog_6_method_7_code 84 = .ok (.aload 4, 2) := by decide +kernel
theorem d6_7_86 : decode prog_6_method_7_code 86 = .ok (.ifnonnull 5, 3) := by decide +kernel
theorem d6_7_89 : decode prog_6_method_7_code 89 = .ok (.iconst 0, 1) := by decide +kernel
theorem d6_7_90 : decode prog_6_method_7_code 90 = .ok (.ireturn, 1) := by decide +kernel
theorem d6_7_91 : decode prog_6_method_7_code 91 = .ok (.aload 4, 2) := by decide +kernel
theorem d6_7_93 : decode prog_6_method_7_code 93 = .ok (.iconst 0, 1) := by decide +kernel
theorem d6_7_94 : decode prog_6_method_7_code 94 = .ok (.invokestatic 22, 3) := by decide +kernel
theorem d6_7_97 : decode prog_6_method_7_code 97 = .ok (.astore 5, 2) := by decide +kernel
theorem d6_7_99 : decode prog_6_method_7_code 99 = .ok (.aload_n 2, 1) := by decide +kernel
theorem d6_7_100 : decode prog_6_method_7_code 100 = .ok (.ldc 80, 2) := by decide +kernel
theorem d6_7_102 : decode prog_6_method_7_code 102 = .ok (.invokevirtual 74, 3) := by decide +kernel
theorem d6_7_105 : decode prog_6_method_7_code 105 = .ok (.ifCond .eq 13, 3) := by decide +kernel
theorem d6_7_118 : decode prog_6_method_7_code 118 = .ok (.aload_n 0, 1) := by decide +kernel
theorem d6_7_119 : decode prog_6_method_7_code 119 = .ok (.aload_n 3, 1) := by decide +kernel
theorem d6_7_120 : decode prog_6_method_7_code 120 = .ok (.aload 5, 2) := by decide +kernel
theorem d6_7_122 : decode prog_6_method_7_code 122 = .ok (.invokevirtual 118, 3) := by decide +kernel
theorem d6_9_0 : decode prog_6_method_9_code 0 = .ok (.aload_n 1, 1) := by decide +kernel
theorem d6_9_1 : decode prog_6_method_9_code 1 = .ok (.invokevirtual 107, 3) := by decide +kernel
theorem k798 : (Jvm.Cond.methodLink "PagedValues$Patcher" (107 : Nat) ({ cls := "java/lang/String", name := "isEmpty", desc := "()Z" } : Jvm.MethodName)) ∈ TB := tk_4 78 rfl rfl
theorem d6_9_4 : decode prog_6_method_9_code 4 = .ok (.ifCond .eq 10, 3) := by decide +kernel
theorem d6_9_14 : decode prog_6_method_9_code 14 = .ok (.aload_n 1, 1) := by decide +kernel
theorem d6_9_15 : decode prog_6_method_9_code 15 = .ok (.invokestatic 128, 3) := by decide +kernel
theorem d7_4_0 : decode prog_7_method_4_code 0 = .ok (.iconst 0, 1) := by decide +kernel
theorem d7_4_1 : decode prog_7_method_4_code 1 = .ok (.istore_n 1, 1) := by decide +kernel
theorem d7_4_2 : decode prog_7_method_4_code 2 = .ok (.iconst 0, 1) := by decide +kernel
theorem d7_4_3 : decode prog_7_method_4_code 3 = .ok (.istore_n 2, 1) := by decide +kernel
theorem d7_4_30 : decode prog_7_method_4_code 30 = .ok (.iload_n 1, 1) := by decide +kernel
theorem d7_4_31 : decode prog_7_method_4_code 31 = .ok (.ireturn, 1) := by decide +kernel
theorem d7_4_4 : decode prog_7_method_4_code 4 = .ok (.iload_n 2, 1) := by decide +kernel
theorem d7_4_5 : decode prog_7_method_4_code 5 = .ok (.aload_n 0, 1) := by decide +kernel
theorem d7_4_6 : decode prog_7_method_4_code 6 = .ok (.invokevirtual 28, 3) := by decide +kernel
theorem d7_4_9 : decode prog_7_method_4_code 9 = .ok (.if_icmp .ge 21, 3) := by decide +kernel
theorem d7_4_12 : decode prog_7_method_4_code 12 = .ok (.aload_n 0, 1) := by decide +kernel
theorem d7_4_13 : decode prog_7_method_4_code 13 = .ok (.iload_n 2, 1) := by decide +kernel
theorem d7_4_14 : decode prog_7_method_4_code 14 = .ok (.invokevirtual 24, 3) := by decide +kernel
theorem d7_4_17 : decode prog_7_method_4_code 17 = .ok (.bipush 47, 2) := by decide +kernel
theorem d7_4_19 : decode prog_7_method_4_code 19 = .ok (.if_icmp .ne 5, 3) := by decide +kernel
theorem d7_4_22 : decode prog_7_method_4_code 22 = .ok (.iload_n 2, 1) := by decide +kernel
theorem d7_4_23 : decode prog_7_method_4_code 23 = .ok (.istore_n 1, 1) := by decide +kernel
theorem d7_4_24 : decode prog_7_method_4_code 24 = .ok (.iinc 2 1, 3) := by decide +kernel
theorem d7_4_27 : decode prog_7_method_4_code 27 = .ok (.goto (-23), 3) := by decide +kernel
def y7_4 : MethodName := { cls := "PagedValues$Pointer", name := "lastSlash", desc := "(Ljava/lang/String;)I" }
theorem k805 : (Jvm.Cond.code ({ cls := "PagedValues$Pointer", name := "lastSlash", desc := "(Ljava/lang/String;)I" } : Jvm.MethodName) prog_7_method_4_code (3 : Nat) (Option.some Jvm.ClassFile.FieldType.int)) ∈ TB := tk_4 85 rfl rfl
theorem k803 : (Jvm.Cond.methodLink "PagedValues$Patcher" (128 : Nat) ({ cls := "PagedValues$Pointer", name := "lastSlash", desc := "(Ljava/lang/String;)I" } : Jvm.MethodName)) ∈ TB := tk_4 83 rfl rfl
theorem k804 : (Jvm.Cond.static ({ cls := "PagedValues$Pointer", name := "lastSlash", desc := "(Ljava/lang/String;)I" } : Jvm.MethodName)) ∈ TB := tk_4 84 rfl rfl
theorem d6_9_18 : decode prog_6_method_9_code 18 = .ok (.istore_n 3, 1) := by decide +kernel
theorem d6_9_19 : decode prog_6_method_9_code 19 = .ok (.aload_n 0, 1) := by decide +kernel
theorem d6_9_20 : decode prog_6_method_9_code 20 = .ok (.getfield 12, 3) := by decide +kernel
theorem d6_9_23 : decode prog_6_method_9_code 23 = .ok (.aload_n 0, 1) := by decide +kernel
theorem d6_9_24 : decode prog_6_method_9_code 24 = .ok (.getfield 28, 3) := by decide +kernel
theorem d6_9_27 : decode prog_6_method_9_code 27 = .ok (.aload_n 1, 1) := by decide +kernel
theorem d6_9_28 : decode prog_6_method_9_code 28 = .ok (.iload_n 3, 1) := by decide +kernel
theorem d6_9_29 : decode prog_6_method_9_code 29 = .ok (.invokevirtual 124, 3) := by decide +kernel
theorem d6_9_32 : decode prog_6_method_9_code 32 = .ok (.astore 4, 2) := by decide +kernel
theorem d6_9_34 : decode prog_6_method_9_code 34 = .ok (.aload 4, 2) := by decide +kernel
theorem d6_9_36 : decode prog_6_method_9_code 36 = .ok (.ifnonnull 5, 3) := by decide +kernel
theorem d6_9_39 : decode prog_6_method_9_code 39 = .ok (.iconst 0, 1) := by decide +kernel
theorem d6_9_40 : decode prog_6_method_9_code 40 = .ok (.ireturn, 1) := by decide +kernel
theorem d6_9_41 : decode prog_6_method_9_code 41 = .ok (.aload_n 0, 1) := by decide +kernel
theorem d6_9_42 : decode prog_6_method_9_code 42 = .ok (.getfield 12, 3) := by decide +kernel
theorem d6_9_45 : decode prog_6_method_9_code 45 = .ok (.aload_n 1, 1) := by decide +kernel
theorem d6_9_46 : decode prog_6_method_9_code 46 = .ok (.iload_n 3, 1) := by decide +kernel
theorem d6_9_47 : decode prog_6_method_9_code 47 = .ok (.iconst 1, 1) := by decide +kernel
theorem d6_9_48 : decode prog_6_method_9_code 48 = .ok (.iadd, 1) := by decide +kernel
theorem d6_9_49 : decode prog_6_method_9_code 49 = .ok (.aload_n 1, 1) := by decide +kernel
theorem d6_9_50 : decode prog_6_method_9_code 50 = .ok (.invokevirtual 120, 3) := by decide +kernel
theorem d6_9_53 : decode prog_6_method_9_code 53 = .ok (.invokevirtual 132, 3) := by decide +kernel
theorem k849 : (Jvm.Cond.methodLink "PagedValues$Patcher" (132 : Nat) ({ cls := "PagedValues$Pointer", name := "token", desc := "(Ljava/lang/String;II)Ljava/lang/String;" } : Jvm.MethodName)) ∈ TB := tk_4 129 rfl rfl
theorem d6_9_56 : decode prog_6_method_9_code 56 = .ok (.astore 5, 2) := by decide +kernel
theorem d6_9_58 : decode prog_6_method_9_code 58 = .ok (.aload 4, 2) := by decide +kernel
theorem d6_9_60 : decode prog_6_method_9_code 60 = .ok (.getfield 48, 3) := by decide +kernel
theorem d6_9_63 : decode prog_6_method_9_code 63 = .ok (.getstatic 136, 3) := by decide +kernel
theorem k850 : (Jvm.Cond.fieldLink "PagedValues$Patcher" (136 : Nat) "PagedValues$Kind" "OBJECT" "LPagedValues$Kind;") ∈ TB := tk_4 130 rfl rfl
theorem d6_9_66 : decode prog_6_method_9_code 66 = .ok (.if_acmp .ne 13, 3) := by decide +kernel
theorem d6_9_79 : decode prog_6_method_9_code 79 = .ok (.aload 4, 2) := by decide +kernel
theorem d6_9_81 : decode prog_6_method_9_code 81 = .ok (.getfield 48, 3) := by decide +kernel
theorem d6_9_84 : decode prog_6_method_9_code 84 = .ok (.getstatic 52, 3) := by decide +kernel
theorem d6_9_87 : decode prog_6_method_9_code 87 = .ok (.if_acmp .ne 18, 3) := by decide +kernel
theorem d6_9_105 : decode prog_6_method_9_code 105 = .ok (.iconst 0, 1) := by decide +kernel
theorem d6_9_90 : decode prog_6_method_9_code 90 = .ok (.aload 4, 2) := by decide +kernel
theorem d6_9_92 : decode prog_6_method_9_code 92 = .ok (.aload 5, 2) := by decide +kernel
theorem d6_9_94 : decode prog_6_method_9_code 94 = .ok (.aload_n 2, 1) := by decide +kernel
theorem d6_9_95 : decode prog_6_method_9_code 95 = .ok (.invokestatic 143, 3) := by decide +kernel
theorem d6_11_0 : decode prog_6_method_11_code 0 = .ok (.aload_n 0, 1) := by decide +kernel
theorem d6_11_1 : decode prog_6_method_11_code 1 = .ok (.invokevirtual 158, 3) := by decide +kernel
theorem k858 : (Jvm.Cond.methodLink "PagedValues$Patcher" (158 : Nat) ({ cls := "PagedValues$Value", name := "partCount", desc := "()I" } : Jvm.MethodName)) ∈ TB := tk_4 138 rfl rfl
theorem d6_11_4 : decode prog_6_method_11_code 4 = .ok (.istore_n 3, 1) := by decide +kernel
theorem d6_11_5 : decode prog_6_method_11_code 5 = .ok (.aload_n 1, 1) := by decide +kernel
theorem d6_11_6 : decode prog_6_method_11_code 6 = .ok (.ldc 161, 2) := by decide +kernel
theorem d6_11_8 : decode prog_6_method_11_code 8 = .ok (.invokevirtual 74, 3) := by decide +kernel
theorem d6_11_11 : decode prog_6_method_11_code 11 = .ok (.ifCond .eq 7, 3) := by decide +kernel
theorem d6_11_18 : decode prog_6_method_11_code 18 = .ok (.aload_n 1, 1) := by decide +kernel
theorem d6_11_19 : decode prog_6_method_11_code 19 = .ok (.invokestatic 163, 3) := by decide +kernel
theorem k860 : (Jvm.Cond.methodLink "PagedValues$Patcher" (163 : Nat) ({ cls := "PagedValues$Pointer", name := "index", desc := "(Ljava/lang/String;)I" } : Jvm.MethodName)) ∈ TB := tk_4 140 rfl rfl
theorem d6_11_14 : decode prog_6_method_11_code 14 = .ok (.iload_n 3, 1) := by decide +kernel
theorem d6_11_15 : decode prog_6_method_11_code 15 = .ok (.goto 7, 3) := by decide +kernel
theorem d6_11_22 : decode prog_6_method_11_code 22 = .ok (.istore 4, 2) := by decide +kernel
theorem d6_11_24 : decode prog_6_method_11_code 24 = .ok (.iload 4, 2) := by decide +kernel
theorem d6_11_26 : decode prog_6_method_11_code 26 = .ok (.ifCond .lt 9, 3) := by decide +kernel
theorem d6_11_35 : decode prog_6_method_11_code 35 = .ok (.iconst 0, 1) := by decide +kernel
theorem d6_11_36 : decode prog_6_method_11_code 36 = .ok (.ireturn, 1) := by decide +kernel
theorem d6_11_29 : decode prog_6_method_11_code 29 = .ok (.iload 4, 2) := by decide +kernel
theorem d6_11_31 : decode prog_6_method_11_code 31 = .ok (.iload_n 3, 1) := by decide +kernel
theorem d6_11_32 : decode prog_6_method_11_code 32 = .ok (.if_icmp .le 5, 3) := by decide +kernel
theorem d6_11_37 : decode prog_6_method_11_code 37 = .ok (.aload_n 0, 1) := by decide +kernel
theorem d6_11_38 : decode prog_6_method_11_code 38 = .ok (.iload 4, 2) := by decide +kernel
theorem d6_11_40 : decode prog_6_method_11_code 40 = .ok (.aload_n 2, 1) := by decide +kernel
theorem d6_11_41 : decode prog_6_method_11_code 41 = .ok (.invokevirtual 166, 3) := by decide +kernel
theorem k861 : (Jvm.Cond.methodLink "PagedValues$Patcher" (166 : Nat) ({ cls := "PagedValues$Value", name := "insert", desc := "(ILPagedValues$Value;)V" } : Jvm.MethodName)) ∈ TB := tk_4 141 rfl rfl
theorem d6_11_44 : decode prog_6_method_11_code 44 = .ok (.iconst 1, 1) := by decide +kernel
theorem d6_11_45 : decode prog_6_method_11_code 45 = .ok (.ireturn, 1) := by decide +kernel
def y6_11 : MethodName := { cls := "PagedValues$Patcher", name := "addElement", desc := "(LPagedValues$Value;Ljava/lang/String;LPagedValues$Value;)Z" }
theorem k857 : (Jvm.Cond.code ({ cls := "PagedValues$Patcher", name := "addElement", desc := "(LPagedValues$Value;Ljava/lang/String;LPagedValues$Value;)Z" } : Jvm.MethodName) prog_6_method_11_code (5 : Nat) (Option.some Jvm.ClassFile.FieldType.boolean)) ∈ TB := tk_4 137 rfl rfl
theorem k855 : (Jvm.Cond.methodLink "PagedValues$Patcher" (143 : Nat) ({ cls := "PagedValues$Patcher", name := "addElement", desc := "(LPagedValues$Value;Ljava/lang/String;LPagedValues$Value;)Z" } : Jvm.MethodName)) ∈ TB := tk_4 135 rfl rfl
theorem k856 : (Jvm.Cond.static ({ cls := "PagedValues$Patcher", name := "addElement", desc := "(LPagedValues$Value;Ljava/lang/String;LPagedValues$Value;)Z" } : Jvm.MethodName)) ∈ TB := tk_4 136 rfl rfl
theorem d6_9_98 : decode prog_6_method_9_code 98 = .ok (.ifCond .eq 7, 3) := by decide +kernel
theorem d6_9_101 : decode prog_6_method_9_code 101 = .ok (.iconst 1, 1) := by decide +kernel
theorem d6_9_102 : decode prog_6_method_9_code 102 = .ok (.goto 4, 3) := by decide +kernel
theorem d6_9_106 : decode prog_6_method_9_code 106 = .ok (.ireturn, 1) := by decide +kernel
theorem d6_9_69 : decode prog_6_method_9_code 69 = .ok (.aload 4, 2) := by decide +kernel
theorem d6_9_71 : decode prog_6_method_9_code 71 = .ok (.aload 5, 2) := by decide +kernel
theorem d6_9_73 : decode prog_6_method_9_code 73 = .ok (.aload_n 2, 1) := by decide +kernel
theorem d6_9_74 : decode prog_6_method_9_code 74 = .ok (.invokestatic 139, 3) := by decide +kernel
theorem d6_10_0 : decode prog_6_method_10_code 0 = .ok (.aload_n 0, 1) := by decide +kernel
theorem d6_10_1 : decode prog_6_method_10_code 1 = .ok (.aload_n 1, 1) := by decide +kernel
theorem d6_10_2 : decode prog_6_method_10_code 2 = .ok (.invokevirtual 84, 3) := by decide +kernel
theorem d6_10_5 : decode prog_6_method_10_code 5 = .ok (.astore_n 3, 1) := by decide +kernel
theorem d6_10_6 : decode prog_6_method_10_code 6 = .ok (.aload_n 3, 1) := by decide +kernel
theorem d6_10_7 : decode prog_6_method_10_code 7 = .ok (.ifnull 10, 3) := by decide +kernel
theorem d6_10_17 : decode prog_6_method_10_code 17 = .ok (.aload_n 2, 1) := by decide +kernel
theorem d6_10_18 : decode prog_6_method_10_code 18 = .ok (.aload_n 1, 1) := by decide +kernel
theorem d6_10_19 : decode prog_6_method_10_code 19 = .ok (.putfield 151, 3) := by decide +kernel
theorem kn357 : (Jvm.Cond.fieldLinkNest "PagedValues$Patcher" (151 : Nat) "PagedValues$Value" "name" "Ljava/lang/String;" "PagedValues") ∈ NW := tn_2 117 rfl rfl
theorem d6_10_22 : decode prog_6_method_10_code 22 = .ok (.aload_n 0, 1) := by decide +kernel
theorem d6_10_23 : decode prog_6_method_10_code 23 = .ok (.aload_n 2, 1) := by decide +kernel
theorem d6_10_24 : decode prog_6_method_10_code 24 = .ok (.invokevirtual 154, 3) := by decide +kernel
theorem k854 : (Jvm.Cond.methodLink "PagedValues$Patcher" (154 : Nat) ({ cls := "PagedValues$Value", name := "append", desc := "(LPagedValues$Value;)V" } : Jvm.MethodName)) ∈ TB := tk_4 134 rfl rfl
theorem d6_10_27 : decode prog_6_method_10_code 27 = .ok (.return_, 1) := by decide +kernel
theorem d6_10_10 : decode prog_6_method_10_code 10 = .ok (.aload_n 0, 1) := by decide +kernel
theorem d6_10_11 : decode prog_6_method_10_code 11 = .ok (.aload_n 3, 1) := by decide +kernel
theorem d6_10_12 : decode prog_6_method_10_code 12 = .ok (.aload_n 2, 1) := by decide +kernel
theorem d6_10_13 : decode prog_6_method_10_code 13 = .ok (.invokevirtual 147, 3) := by decide +kernel
theorem k840 : (Jvm.Cond.code ({ cls := "PagedValues$Value", name := "swap", desc := "(LPagedValues$Value;LPagedValues$Value;)V" } : Jvm.MethodName) prog_12_method_8_code (3 : Nat) (Option.none : Option Jvm.ClassFile.FieldType)) ∈ TB := tk_4 120 rfl rfl
theorem k837 : (Jvm.Cond.methodLink "PagedValues$Patcher" (147 : Nat) ({ cls := "PagedValues$Value", name := "swap", desc := "(LPagedValues$Value;LPagedValues$Value;)V" } : Jvm.MethodName)) ∈ TB := tk_4 117 rfl rfl
theorem k838 : (Jvm.Cond.instanceMethod ({ cls := "PagedValues$Value", name := "swap", desc := "(LPagedValues$Value;LPagedValues$Value;)V" } : Jvm.MethodName)) ∈ TB := tk_4 118 rfl rfl
theorem k839 : (Jvm.Cond.selects "PagedValues$Value" ({ cls := "PagedValues$Value", name := "swap", desc := "(LPagedValues$Value;LPagedValues$Value;)V" } : Jvm.MethodName) ({ cls := "PagedValues$Value", name := "swap", desc := "(LPagedValues$Value;LPagedValues$Value;)V" } : Jvm.MethodName)) ∈ TB := tk_4 119 rfl rfl
theorem d6_10_16 : decode prog_6_method_10_code 16 = .ok (.return_, 1) := by decide +kernel
def y6_10 : MethodName := { cls := "PagedValues$Patcher", name := "addMember", desc := "(LPagedValues$Value;Ljava/lang/String;LPagedValues$Value;)V" }
theorem k853 : (Jvm.Cond.code ({ cls := "PagedValues$Patcher", name := "addMember", desc := "(LPagedValues$Value;Ljava/lang/String;LPagedValues$Value;)V" } : Jvm.MethodName) prog_6_method_10_code (4 : Nat) (Option.none : Option Jvm.ClassFile.FieldType)) ∈ TB := tk_4 133 rfl rfl
theorem k851 : (Jvm.Cond.methodLink "PagedValues$Patcher" (139 : Nat) ({ cls := "PagedValues$Patcher", name := "addMember", desc := "(LPagedValues$Value;Ljava/lang/String;LPagedValues$Value;)V" } : Jvm.MethodName)) ∈ TB := tk_4 131 rfl rfl
theorem k852 : (Jvm.Cond.static ({ cls := "PagedValues$Patcher", name := "addMember", desc := "(LPagedValues$Value;Ljava/lang/String;LPagedValues$Value;)V" } : Jvm.MethodName)) ∈ TB := tk_4 132 rfl rfl
theorem d6_9_77 : decode prog_6_method_9_code 77 = .ok (.iconst 1, 1) := by decide +kernel
theorem d6_9_78 : decode prog_6_method_9_code 78 = .ok (.ireturn, 1) := by decide +kernel
theorem d6_9_7 : decode prog_6_method_9_code 7 = .ok (.aload_n 0, 1) := by decide +kernel
theorem d6_9_8 : decode prog_6_method_9_code 8 = .ok (.aload_n 2, 1) := by decide +kernel
theorem d6_9_9 : decode prog_6_method_9_code 9 = .ok (.putfield 28, 3) := by decide +kernel
theorem d6_9_12 : decode prog_6_method_9_code 12 = .ok (.iconst 1, 1) := by decide +kernel
theorem d6_9_13 : decode prog_6_method_9_code 13 = .ok (.ireturn, 1) := by decide +kernel
def y6_9 : MethodName := { cls := "PagedValues$Patcher", name := "add", desc := "(Ljava/lang/String;LPagedValues$Value;)Z" }
theorem k848 : (Jvm.Cond.code ({ cls := "PagedValues$Patcher", name := "add", desc := "(Ljava/lang/String;LPagedValues$Value;)Z" } : Jvm.MethodName) prog_6_method_9_code (6 : Nat) (Option.some Jvm.ClassFile.FieldType.boolean)) ∈ TB := tk_4 128 rfl rfl
theorem k845 : (Jvm.Cond.methodLink "PagedValues$Patcher" (118 : Nat) ({ cls := "PagedValues$Patcher", name := "add", desc := "(Ljava/lang/String;LPagedValues$Value;)Z" } : Jvm.MethodName)) ∈ TB := tk_4 125 rfl rfl
theorem k847 : (Jvm.Cond.instanceMethod ({ cls := "PagedValues$Patcher", name := "add", desc := "(Ljava/lang/String;LPagedValues$Value;)Z" } : Jvm.MethodName)) ∈ TB := tk_4 127 rfl rfl
theorem ks21 : Cond.selects y6_9.cls y6_9 y6_9 ∈ TB := List.mem_filter.mpr ⟨List.mem_append_left _ (List.mem_of_getElem? (i := 21) (by decide +kernel)), rfl⟩
theorem d6_7_108 : decode prog_6_method_7_code 108 = .ok (.aload_n 0, 1) := by decide +kernel
theorem d6_7_109 : decode prog_6_method_7_code 109 = .ok (.aload_n 3, 1) := by decide +kernel
theorem d6_7_110 : decode prog_6_method_7_code 110 = .ok (.aload 5, 2) := by decide +kernel
theorem d6_7_112 : decode prog_6_method_7_code 112 = .ok (.invokevirtual 111, 3) := by decide +kernel
theorem d6_12_0 : decode prog_6_method_12_code 0 = .ok (.aload_n 1, 1) := by decide +kernel
theorem d6_12_1 : decode prog_6_method_12_code 1 = .ok (.invokevirtual 107, 3) := by decide +kernel
theorem d6_12_4 : decode prog_6_method_12_code 4 = .ok (.ifCond .eq 10, 3) := by decide +kernel
theorem d6_12_14 : decode prog_6_method_12_code 14 = .ok (.aload_n 0, 1) := by decide +kernel
theorem d6_12_15 : decode prog_6_method_12_code 15 = .ok (.getfield 12, 3) := by decide +kernel
theorem d6_12_18 : decode prog_6_method_12_code 18 = .ok (.aload_n 0, 1) := by decide +kernel
theorem d6_12_19 : decode prog_6_method_12_code 19 = .ok (.getfield 28, 3) := by decide +kernel
theorem d6_12_22 : decode prog_6_method_12_code 22 = .ok (.aload_n 1, 1) := by decide +kernel
theorem d6_12_23 : decode prog_6_method_12_code 23 = .ok (.aload_n 1, 1) := by decide +kernel
theorem d6_12_24 : decode prog_6_method_12_code 24 = .ok (.invokestatic 128, 3) := by decide +kernel
theorem d6_12_27 : decode prog_6_method_12_code 27 = .ok (.invokevirtual 124, 3) := by decide +kernel
theorem d6_12_30 : decode prog_6_method_12_code 30 = .ok (.astore_n 3, 1) := by decide +kernel
theorem d6_12_31 : decode prog_6_method_12_code 31 = .ok (.aload_n 0, 1) := by decide +kernel
theorem d6_12_32 : decode prog_6_method_12_code 32 = .ok (.getfield 12, 3) := by decide +kernel
theorem d6_12_35 : decode prog_6_method_12_code 35 = .ok (.aload_n 0, 1) := by decide +kernel
theorem d6_12_36 : decode prog_6_method_12_code 36 = .ok (.getfield 28, 3) := by decide +kernel
theorem d6_12_39 : decode prog_6_method_12_code 39 = .ok (.aload_n 1, 1) := by decide +kernel
theorem d6_12_40 : decode prog_6_method_12_code 40 = .ok (.aload_n 1, 1) := by decide +kernel
theorem d6_12_41 : decode prog_6_method_12_code 41 = .ok (.invokevirtual 120, 3) := by decide +kernel
theorem d6_12_44 : decode prog_6_method_12_code 44 = .ok (.invokevirtual 124, 3) := by decide +kernel
theorem d6_12_47 : decode prog_6_method_12_code 47 = .ok (.astore 4, 2) := by decide +kernel
theorem d6_12_49 : decode prog_6_method_12_code 49 = .ok (.aload_n 3, 1) := by decide +kernel
theorem d6_12_50 : decode prog_6_method_12_code 50 = .ok (.ifnull 8, 3) := by decide +kernel
theorem d6_12_58 : decode prog_6_method_12_code 58 = .ok (.iconst 0, 1) := by decide +kernel
theorem d6_12_59 : decode prog_6_method_12_code 59 = .ok (.ireturn, 1) := by decide +kernel
theorem d6_12_53 : decode prog_6_method_12_code 53 = .ok (.aload 4, 2) := by decide +kernel
theorem d6_12_55 : decode prog_6_method_12_code 55 = .ok (.ifnonnull 5, 3) := by decide +kernel
theorem d6_12_60 : decode prog_6_method_12_code 60 = .ok (.aload_n 2, 1) := by decide +kernel
theorem d6_12_61 : decode prog_6_method_12_code 61 = .ok (.ifnonnull 12, 3) := by decide +kernel
theorem d6_12_64 : decode prog_6_method_12_code 64 = .ok (.aload_n 3, 1) := by decide +kernel
theorem d6_12_65 : decode prog_6_method_12_code 65 = .ok (.aload 4, 2) := by decide +kernel
theorem d6_12_67 : decode prog_6_method_12_code 67 = .ok (.invokevirtual 170, 3) := by decide +kernel
theorem k832 : (Jvm.Cond.code ({ cls := "PagedValues$Value", name := "drop", desc := "(LPagedValues$Value;)V" } : Jvm.MethodName) prog_12_method_7_code (2 : Nat) (Option.none : Option Jvm.ClassFile.FieldType)) ∈ TB := tk_4 112 rfl rfl
theorem k829 : (Jvm.Cond.methodLink "PagedValues$Patcher" (170 : Nat) ({ cls := "PagedValues$Value", name := "drop", desc := "(LPagedValues$Value;)V" } : Jvm.MethodName)) ∈ TB := tk_4 109 rfl rfl
theorem k830 : (Jvm.Cond.instanceMethod ({ cls := "PagedValues$Value", name := "drop", desc := "(LPagedValues$Value;)V" } : Jvm.MethodName)) ∈ TB := tk_4 110 rfl rfl
theorem k831 : (Jvm.Cond.selects "PagedValues$Value" ({ cls := "PagedValues$Value", name := "drop", desc := "(LPagedValues$Value;)V" } : Jvm.MethodName) ({ cls := "PagedValues$Value", name := "drop", desc := "(LPagedValues$Value;)V" } : Jvm.MethodName)) ∈ TB := tk_4 111 rfl rfl
theorem d6_12_70 : decode prog_6_method_12_code 70 = .ok (.goto 10, 3) := by decide +kernel
theorem d6_12_73 : decode prog_6_method_12_code 73 = .ok (.aload_n 3, 1) := by decide +kernel
theorem d6_12_74 : decode prog_6_method_12_code 74 = .ok (.aload 4, 2) := by decide +kernel
theorem d6_12_76 : decode prog_6_method_12_code 76 = .ok (.aload_n 2, 1) := by decide +kernel
theorem d6_12_77 : decode prog_6_method_12_code 77 = .ok (.invokevirtual 147, 3) := by decide +kernel
theorem d6_12_80 : decode prog_6_method_12_code 80 = .ok (.iconst 1, 1) := by decide +kernel
theorem d6_12_81 : decode prog_6_method_12_code 81 = .ok (.ireturn, 1) := by decide +kernel
theorem d6_12_7 : decode prog_6_method_12_code 7 = .ok (.aload_n 0, 1) := by decide +kernel
theorem d6_12_8 : decode prog_6_method_12_code 8 = .ok (.aload_n 2, 1) := by decide +kernel
theorem d6_12_9 : decode prog_6_method_12_code 9 = .ok (.putfield 28, 3) := by decide +kernel
theorem d6_12_12 : decode prog_6_method_12_code 12 = .ok (.iconst 1, 1) := by decide +kernel
theorem d6_12_13 : decode prog_6_method_12_code 13 = .ok (.ireturn, 1) := by decide +kernel
def y6_12 : MethodName := { cls := "PagedValues$Patcher", name := "exchange", desc := "(Ljava/lang/String;LPagedValues$Value;)Z" }
theorem k802 : (Jvm.Cond.code ({ cls := "PagedValues$Patcher", name := "exchange", desc := "(Ljava/lang/String;LPagedValues$Value;)Z" } : Jvm.MethodName) prog_6_method_12_code (5 : Nat) (Option.some Jvm.ClassFile.FieldType.boolean)) ∈ TB := tk_4 82 rfl rfl
theorem k799 : (Jvm.Cond.methodLink "PagedValues$Patcher" (111 : Nat) ({ cls := "PagedValues$Patcher", name := "exchange", desc := "(Ljava/lang/String;LPagedValues$Value;)Z" } : Jvm.MethodName)) ∈ TB := tk_4 79 rfl rfl
theorem k801 : (Jvm.Cond.instanceMethod ({ cls := "PagedValues$Patcher", name := "exchange", desc := "(Ljava/lang/String;LPagedValues$Value;)Z" } : Jvm.MethodName)) ∈ TB := tk_4 81 rfl rfl
theorem ks18 : Cond.selects y6_12.cls y6_12 y6_12 ∈ TB := List.mem_filter.mpr ⟨List.mem_append_left _ (List.mem_of_getElem? (i := 18) (by decide +kernel)), rfl⟩
theorem d6_7_115 : decode prog_6_method_7_code 115 = .ok (.goto 10, 3) := by decide +kernel
theorem d6_7_125 : decode prog_6_method_7_code 125 = .ok (.ireturn, 1) := by decide +kernel
theorem d6_7_32 : decode prog_6_method_7_code 32 = .ok (.aload_n 3, 1) := by decide +kernel
theorem d6_7_33 : decode prog_6_method_7_code 33 = .ok (.invokevirtual 107, 3) := by decide +kernel
theorem d6_7_36 : decode prog_6_method_7_code 36 = .ok (.ifCond .ne 16, 3) := by decide +kernel
theorem d6_7_52 : decode prog_6_method_7_code 52 = .ok (.iconst 0, 1) := by decide +kernel
theorem d6_7_39 : decode prog_6_method_7_code 39 = .ok (.aload_n 0, 1) := by decide +kernel
theorem d6_7_40 : decode prog_6_method_7_code 40 = .ok (.aload_n 3, 1) := by decide +kernel
theorem d6_7_41 : decode prog_6_method_7_code 41 = .ok (.aconst_null, 1) := by decide +kernel
theorem d6_7_42 : decode prog_6_method_7_code 42 = .ok (.invokevirtual 111, 3) := by decide +kernel
theorem d6_7_45 : decode prog_6_method_7_code 45 = .ok (.ifCond .eq 7, 3) := by decide +kernel
theorem d6_7_48 : decode prog_6_method_7_code 48 = .ok (.iconst 1, 1) := by decide +kernel
theorem d6_7_49 : decode prog_6_method_7_code 49 = .ok (.goto 4, 3) := by decide +kernel
theorem d6_7_53 : decode prog_6_method_7_code 53 = .ok (.ireturn, 1) := by decide +kernel
theorem d6_7_21 : decode prog_6_method_7_code 21 = .ok (.iconst 0, 1) := by decide +kernel
theorem d6_7_22 : decode prog_6_method_7_code 22 = .ok (.ireturn, 1) := by decide +kernel
def y6_7 : MethodName := { cls := "PagedValues$Patcher", name := "perform", desc := "(LPagedValues$Value;)Z" }
theorem k785 : (Jvm.Cond.code ({ cls := "PagedValues$Patcher", name := "perform", desc := "(LPagedValues$Value;)Z" } : Jvm.MethodName) prog_6_method_7_code (6 : Nat) (Option.some Jvm.ClassFile.FieldType.boolean)) ∈ TB := tk_4 65 rfl rfl
theorem k782 : (Jvm.Cond.methodLink "PagedValues$Patcher" (35 : Nat) ({ cls := "PagedValues$Patcher", name := "perform", desc := "(LPagedValues$Value;)Z" } : Jvm.MethodName)) ∈ TB := tk_4 62 rfl rfl
theorem k784 : (Jvm.Cond.instanceMethod ({ cls := "PagedValues$Patcher", name := "perform", desc := "(LPagedValues$Value;)Z" } : Jvm.MethodName)) ∈ TB := tk_4 64 rfl rfl
theorem ks17 : Cond.selects y6_7.cls y6_7 y6_7 ∈ TB := List.mem_filter.mpr ⟨List.mem_append_left _ (List.mem_of_getElem? (i := 17) (by decide +kernel)), rfl⟩
theorem d6_2_38 : decode prog_6_method_2_code 38 = .ok (.ifCond .ne 8, 3) := by decide +kernel
theorem d6_2_46 : decode prog_6_method_2_code 46 = .ok (.aload_n 0, 1) := by decide +kernel
theorem d6_2_47 : decode prog_6_method_2_code 47 = .ok (.getfield 28, 3) := by decide +kernel
theorem d6_2_50 : decode prog_6_method_2_code 50 = .ok (.iconst 0, 1) := by decide +kernel
theorem d6_2_51 : decode prog_6_method_2_code 51 = .ok (.invokestatic 38, 3) := by decide +kernel
theorem kn862 : (Jvm.Cond.methodLinkNest "PagedValues$Patcher" (38 : Nat) ({ cls := "PagedValues$Value", name := "sizeOf", desc := "(LPagedValues$Value;I)I" } : Jvm.MethodName) "PagedValues") ∈ NW := tn_4 142 rfl rfl
theorem d6_2_54 : decode prog_6_method_2_code 54 = .ok (.bipush 24, 2) := by decide +kernel
theorem d6_2_56 : decode prog_6_method_2_code 56 = .ok (.if_icmp .gt 15, 3) := by decide +kernel
theorem d6_2_71 : decode prog_6_method_2_code 71 = .ok (.bipush (-5), 2) := by decide +kernel
theorem d6_2_73 : decode prog_6_method_2_code 73 = .ok (.ireturn, 1) := by decide +kernel
theorem d6_2_59 : decode prog_6_method_2_code 59 = .ok (.aload_n 0, 1) := by decide +kernel
theorem d6_2_60 : decode prog_6_method_2_code 60 = .ok (.getfield 28, 3) := by decide +kernel
theorem d6_2_63 : decode prog_6_method_2_code 63 = .ok (.iconst 0, 1) := by decide +kernel
theorem d6_2_64 : decode prog_6_method_2_code 64 = .ok (.invokestatic 42, 3) := by decide +kernel
theorem kn863 : (Jvm.Cond.methodLinkNest "PagedValues$Patcher" (42 : Nat) ({ cls := "PagedValues$Value", name := "depthOf", desc := "(LPagedValues$Value;I)I" } : Jvm.MethodName) "PagedValues") ∈ NW := tn_4 143 rfl rfl
theorem d6_2_67 : decode prog_6_method_2_code 67 = .ok (.iconst 4, 1) := by decide +kernel
theorem d6_2_68 : decode prog_6_method_2_code 68 = .ok (.if_icmp .le 6, 3) := by decide +kernel
theorem d6_2_74 : decode prog_6_method_2_code 74 = .ok (.iinc 3 1, 3) := by decide +kernel
theorem d6_2_77 : decode prog_6_method_2_code 77 = .ok (.aload 4, 2) := by decide +kernel
theorem d6_2_79 : decode prog_6_method_2_code 79 = .ok (.getfield 45, 3) := by decide +kernel
theorem d6_2_82 : decode prog_6_method_2_code 82 = .ok (.astore 4, 2) := by decide +kernel
theorem d6_2_84 : decode prog_6_method_2_code 84 = .ok (.goto (-57), 3) := by decide +kernel
theorem d6_2_41 : decode prog_6_method_2_code 41 = .ok (.bipush (-10), 2) := by decide +kernel
theorem d6_2_43 : decode prog_6_method_2_code 43 = .ok (.iload_n 3, 1) := by decide +kernel
theorem d6_2_44 : decode prog_6_method_2_code 44 = .ok (.isub, 1) := by decide +kernel
theorem d6_2_45 : decode prog_6_method_2_code 45 = .ok (.ireturn, 1) := by decide +kernel
theorem d6_2_7 : decode prog_6_method_2_code 7 = .ok (.bipush (-3), 2) := by decide +kernel
theorem d6_2_9 : decode prog_6_method_2_code 9 = .ok (.ireturn, 1) := by decide +kernel
def y6_2 : MethodName := { cls := "PagedValues$Patcher", name := "apply", desc := "(LPagedValues$Value;LPagedValues$Value;)I" }
def c_Patcher_hasString (Zd : Nat → Nat) (K : KE) (a0 : Option Nat) (a1 : Option Nat) (st : CS) : Option (Int32) := a0.bind fun a11z => (isO K st a11z 11).bind fun _ => (c_Value_member Zd K a11z a1 st).bind fun x12 => (nl x12 (some (0 : Int32)) (fun a17z => (gQ K st a17z 11 0).bind fun x18 => if x18 = some (Zd 12) then (some (1 : Int32)) else (some (0 : Int32)))).bind fun e15 => (bz e15).bind fun _ => some e15
set_option maxHeartbeats 4000000 in
set_option maxRecDepth 100000 in
theorem cc_Patcher_hasString (l : Launch) (G : Gk) (Zd : Nat → Nat) (K : KE) (a0 : Option Nat) (a1 : Option Nat) (st : CS) (r0 : Int32) (hm : c_Patcher_hasString Zd K a0 a1 st = some r0) : CT l y6_5 prog_6_method_5_code 3 (some .boolean) G Zd K (3) [va_rf a0, va_rf a1] st (hI G Zd r0 st) := by
  refine goH (d := 3) (y := y6_5) (cc := prog_6_method_5_code) (maxL := 3) (ret := (some .boolean)) (av := [va_rf a0, va_rf a1]) (Qc := hI G Zd r0 st) "PagedValues$Patcher" rfl (by decide) (c1_c (rf_cat _) (c1_c (rf_cat _) c1_n)) (Nat.le_of_ble_eq_true rfl) ?_
  intro p e s m below meth c ls A args Q hQ hx hb hr hlk hml hown hts hin hl hE hw
  have hl : lw ls 3 [(0, va_rf a0), (1, va_rf a1)] := hl
  have hZ := hE.2.2.1
  have h := hm
  clear hm
  refine xq_aload_n (r := a0) hx hb d6_5_0 rfl (lv_at hl.1 0 rfl) ?_
  refine xq_aload_n (r := a1) hx hb d6_5_1 rfl (lv_at hl.1 1 rfl) ?_
  obtain ⟨a11z, hn11, h⟩ := ob h
  have hn11 : a0 = some a11z := hn11
  refine W.eq (g2 := F0 m 2 ls [va_rf a1, .ref a11z]) (by rw [hn11]; rfl) ?_
  obtain ⟨u9, ho, h⟩ := ob h
  obtain ⟨x12, hc, h⟩ := ob h
  refine hV_q (ci := 11) (As := [va_rf a1]) (rest := []) ⟨hx, hb, hml, hown, hts⟩ (cc_Value_member l G Zd K a11z a1 st x12 hc) (kw_V (n := 1) hts k584 k762 k18 k582 k583 (by decide +kernel) ⟨Nat.le_of_ble_eq_true rfl, Nat.le_of_ble_eq_true rfl⟩) hE hw rfl rfl ho rfl hl.1.1 rfl (c1_8 c1_n (Nat.le_of_ble_eq_true rfl)) d6_5_2 (fun H locs cells slots hw => ?_)
  clear hc ho u9
  refine W.eq (g2 := F0 m 5 ls [va_rf x12]) rfl ?_
  refine xt_astore_n (r := x12) (lv' := [(2, va_rf x12), (0, va_rf a0), (1, va_rf a1)]) hx hb d6_5_5 rfl hl (by decide) rfl (fun ls hl => ?_)
  refine xq_aload_n (r := x12) hx hb d6_5_6 rfl (lv_at hl.1 0 rfl) ?_
  obtain ⟨e15, hX, h⟩ := ob h
  have hj : ∀ (H : Heap) (locs : List Loc) (cells slots : Nat) (ls : Array Slot), lw ls 3 [(0, va_rf a0), (1, va_rf a1), (2, va_rf x12)] → wsH G Zd A s st H locs → W p l e (rmH Zd (3) st.1) s m args below meth c H locs cells slots Q (F0 m 25 ls [.int e15]) := by
    intro H locs cells slots ls hl hw
    obtain ⟨u9, hr9, h⟩ := ob h
    have hi := bz_some hr9
    clear hr9 u9
    cases h
    exact finH_z hQ hx hb hr hlk (nar01 hi) hE hw d6_5_25
  clear h
  rcases nl_case hX with ⟨hn17, h⟩ | ⟨a17z, hn17, h⟩
  ·
    have hn17 : x12 = none := hn17
    refine W.eq (g2 := F0 m 7 ls [.null]) (by rw [hn17]; rfl) ?_
    refine lv_ifnullN (tgt := 24) hx hb d6_5_7 rfl ?_
    refine lv_iconst (v := 0) hx hb d6_5_24 (by decide) ?_
    have e9 := Option.some.inj h
    subst e15
    have hl := lw_sub hl (l' := [(0, va_rf a0), (1, va_rf a1), (2, va_rf x12)]) [1, 2, 0] rfl
    exact hj _ _ _ _ _ hl hw
  ·
    have hn17 : x12 = some a17z := hn17
    refine W.eq (g2 := F0 m 7 ls [.ref a17z]) (by rw [hn17]; rfl) ?_
    refine lv_ifnull hx hb d6_5_7 ?_
    refine xq_aload_n (r := x12) hx hb d6_5_10 rfl (lv_at hl.1 0 rfl) ?_
    refine W.eq (g2 := F0 m 11 ls [.ref a17z]) (by rw [hn17]; rfl) ?_
    obtain ⟨x18, hr, h⟩ := ob h
    refine xgN_q (ci := 11) (C := r_11) (T := f_11) (N := 6) (ref := "PagedValues$Value") hx hb hts (fun w h => List.mem_cons_of_mem _ (ly_11 w h)) hown hE hw rfl 0 (by decide) (va_Nw.use rfl (hZ.1.1 _ kn350)) (fun _ h9 => h9) hr d6_5_11 ?_
    clear hr
    refine va_gets (ref := "PagedValues$Kind") hx hb (hZ.2.1.1.1 4 (by decide)).1 hw.2.2.2 hown (hts _ (List.mem_cons_of_mem _ k763)) (fun _ h9 => h9) d6_5_14 ?_
    refine W.eq (g2 := F0 m 17 ls [.ref (Zd 12), va_rf x18]) rfl ?_
    refine lv_acmp_ne (rx := x18) (ry := some (Zd 12)) (tgt := 24) hx hb d6_5_17 rfl (fun c19 => ?_) (fun c19 => ?_)
    ·
      replace h := (if_neg c19).symm.trans h
      refine lv_iconst (v := 0) hx hb d6_5_24 (by decide) ?_
      have e9 := Option.some.inj h
      subst e15
      have hl := lw_sub hl (l' := [(0, va_rf a0), (1, va_rf a1), (2, va_rf x12)]) [1, 2, 0] rfl
      exact hj _ _ _ _ _ hl hw
    ·
      replace h := (if_pos c19).symm.trans h
      refine lv_iconst (v := 1) hx hb d6_5_20 (by decide) ?_
      refine lv_goto (tgt := 25) hx hb d6_5_21 rfl ?_
      have e9 := Option.some.inj h
      subst e15
      have hl := lw_sub hl (l' := [(0, va_rf a0), (1, va_rf a1), (2, va_rf x12)]) [1, 2, 0] rfl
      exact hj _ _ _ _ _ hl hw
def c_Patcher_stringOf (Zd : Nat → Nat) (K : KE) (a0 : Option Nat) (a1 : Option Nat) (st : CS) : Option (Option Nat) := a0.bind fun a11z => (isO K st a11z 11).bind fun _ => (c_Value_member Zd K a11z a1 st).bind fun x12 => (nl x12 (some (some (Zd 0))) (fun a17z => (gQ K st a17z 11 2).bind fun x18 => some x18)).bind fun e15 => some e15
set_option maxHeartbeats 4000000 in
set_option maxRecDepth 100000 in
theorem cc_Patcher_stringOf (l : Launch) (G : Gk) (Zd : Nat → Nat) (K : KE) (a0 : Option Nat) (a1 : Option Nat) (st : CS) (r0 : Option Nat) (hm : c_Patcher_stringOf Zd K a0 a1 st = some r0) : CT l y6_6 prog_6_method_6_code 3 (some (.object "java/lang/String")) G Zd K (3) [va_rf a0, va_rf a1] st (hQ G Zd r0 st) := by
  refine goH (d := 3) (y := y6_6) (cc := prog_6_method_6_code) (maxL := 3) (ret := (some (.object "java/lang/String"))) (av := [va_rf a0, va_rf a1]) (Qc := hQ G Zd r0 st) "PagedValues$Patcher" rfl (by decide) (c1_c (rf_cat _) (c1_c (rf_cat _) c1_n)) (Nat.le_of_ble_eq_true rfl) ?_
  intro p e s m below meth c ls A args Q hQ hx hb hr hlk hml hown hts hin hl hE hw
  have hl : lw ls 3 [(0, va_rf a0), (1, va_rf a1)] := hl
  have hZ := hE.2.2.1
  have h := hm
  clear hm
  refine xq_aload_n (r := a0) hx hb d6_6_0 rfl (lv_at hl.1 0 rfl) ?_
  refine xq_aload_n (r := a1) hx hb d6_6_1 rfl (lv_at hl.1 1 rfl) ?_
  obtain ⟨a11z, hn11, h⟩ := ob h
  have hn11 : a0 = some a11z := hn11
  refine W.eq (g2 := F0 m 2 ls [va_rf a1, .ref a11z]) (by rw [hn11]; rfl) ?_
  obtain ⟨u9, ho, h⟩ := ob h
  obtain ⟨x12, hc, h⟩ := ob h
  refine hV_q (ci := 11) (As := [va_rf a1]) (rest := []) ⟨hx, hb, hml, hown, hts⟩ (cc_Value_member l G Zd K a11z a1 st x12 hc) (kw_V (n := 1) hts k584 k762 k18 k582 k583 (by decide +kernel) ⟨Nat.le_of_ble_eq_true rfl, Nat.le_of_ble_eq_true rfl⟩) hE hw rfl rfl ho rfl hl.1.1 rfl (c1_8 c1_n (Nat.le_of_ble_eq_true rfl)) d6_6_2 (fun H locs cells slots hw => ?_)
  clear hc ho u9
  refine W.eq (g2 := F0 m 5 ls [va_rf x12]) rfl ?_
  refine xt_astore_n (r := x12) (lv' := [(2, va_rf x12), (0, va_rf a0), (1, va_rf a1)]) hx hb d6_6_5 rfl hl (by decide) rfl (fun ls hl => ?_)
  refine xq_aload_n (r := x12) hx hb d6_6_6 rfl (lv_at hl.1 0 rfl) ?_
  obtain ⟨e15, hX, h⟩ := ob h
  have hj : ∀ (H : Heap) (locs : List Loc) (cells slots : Nat) (ls : Array Slot), lw ls 3 [(0, va_rf a0), (1, va_rf a1), (2, va_rf x12)] → wsH G Zd A s st H locs → W p l e (rmH Zd (3) st.1) s m args below meth c H locs cells slots Q (F0 m 19 ls [va_rf e15]) := by
    intro H locs cells slots ls hl hw
    cases h
    exact finH_q hQ hx hb hr hlk rfl (Or.inl ⟨_, rfl⟩) hE hw d6_6_19
  clear h
  rcases nl_case hX with ⟨hn17, h⟩ | ⟨a17z, hn17, h⟩
  ·
    have hn17 : x12 = none := hn17
    refine W.eq (g2 := F0 m 7 ls [.null]) (by rw [hn17]; rfl) ?_
    refine lv_ifnonnullN hx hb d6_6_7 ?_
    refine va_ldcS hx hb hown (hZ.2.2.1 ("PagedValues$Patcher", 97, "", 0) (List.mem_of_getElem? (i := 4) rfl)) d6_6_10 ?_
    refine W.eq (g2 := F0 m 12 ls [.ref (Zd 0)]) rfl ?_
    refine lv_goto (tgt := 19) hx hb d6_6_12 rfl ?_
    have e9 := Option.some.inj h
    subst e15
    have hl := lw_sub hl (l' := [(0, va_rf a0), (1, va_rf a1), (2, va_rf x12)]) [1, 2, 0] rfl
    exact hj _ _ _ _ _ hl hw
  ·
    have hn17 : x12 = some a17z := hn17
    refine W.eq (g2 := F0 m 7 ls [.ref a17z]) (by rw [hn17]; rfl) ?_
    refine lv_ifnonnull (tgt := 15) hx hb d6_6_7 rfl ?_
    refine xq_aload_n (r := x12) hx hb d6_6_15 rfl (lv_at hl.1 0 rfl) ?_
    refine W.eq (g2 := F0 m 16 ls [.ref a17z]) (by rw [hn17]; rfl) ?_
    obtain ⟨x18, hr, h⟩ := ob h
    refine xgN_q (ci := 11) (C := r_11) (T := f_11) (N := 6) (ref := "PagedValues$Value") hx hb hts (fun w h => List.mem_cons_of_mem _ (ly_11 w h)) hown hE hw rfl 2 (by decide) (va_Nw.use rfl (hZ.1.1 _ kn354)) (fun _ h9 => h9) hr d6_6_16 ?_
    clear hr
    have e9 := Option.some.inj h
    subst e15
    have hl := lw_sub hl (l' := [(0, va_rf a0), (1, va_rf a1), (2, va_rf x12)]) [1, 2, 0] rfl
    exact hj _ _ _ _ _ hl hw
def c_Patcher_isOperation (Zd : Nat → Nat) (K : KE) (a0 : Option Nat) (st : CS) : Option (Int32) := (c_Patcher_hasString Zd K a0 (some (Zd 23)) st).bind fun x11 => if x11 = (0 : Int32) then (some (0 : Int32)) else ((c_Patcher_hasString Zd K a0 (some (Zd 24)) st).bind fun x15 => if x15 = (0 : Int32) then (some (0 : Int32)) else ((c_Patcher_stringOf Zd K a0 (some (Zd 23)) st).bind fun x19 => x19.bind fun a22z => (isO K st a22z 12).bind fun _ => (c_String_equals Zd K a22z (some (Zd 25)) st).bind fun x23 => if x23 = (0 : Int32) then ((isO K st a22z 12).bind fun _ => (c_String_equals Zd K a22z (some (Zd 26)) st).bind fun x34 => if x34 = (0 : Int32) then ((isO K st a22z 12).bind fun _ => (c_String_equals Zd K a22z (some (Zd 28)) st).bind fun x38 => if x38 = (0 : Int32) then ((isO K st a22z 12).bind fun _ => (c_String_equals Zd K a22z (some (Zd 30)) st).bind fun x42 => (bz x42).bind fun _ => some x42) else ((c_Patcher_hasString Zd K a0 (some (Zd 29)) st).bind fun x45 => (bz x45).bind fun _ => some x45)) else (a0.bind fun a48z => (isO K st a48z 11).bind fun _ => (c_Value_member Zd K a48z (some (Zd 27)) st).bind fun x49 => (nl x49 (some (0 : Int32)) (fun a54z => some (1 : Int32))).bind fun e52 => (bz e52).bind fun _ => some e52)) else (a0.bind fun a27z => (isO K st a27z 11).bind fun _ => (c_Value_member Zd K a27z (some (Zd 27)) st).bind fun x28 => (nl x28 (some (0 : Int32)) (fun a33z => some (1 : Int32))).bind fun e31 => (bz e31).bind fun _ => some e31)))
set_option maxHeartbeats 4000000 in
set_option maxRecDepth 100000 in
theorem cc_Patcher_isOperation (l : Launch) (G : Gk) (Zd : Nat → Nat) (K : KE) (a0 : Option Nat) (st : CS) (r0 : Int32) (hm : c_Patcher_isOperation Zd K a0 st = some r0) : CT l y6_4 prog_6_method_4_code 2 (some .boolean) G Zd K (4) [va_rf a0] st (hI G Zd r0 st) := by
  refine goH (d := 4) (y := y6_4) (cc := prog_6_method_4_code) (maxL := 2) (ret := (some .boolean)) (av := [va_rf a0]) (Qc := hI G Zd r0 st) "PagedValues$Patcher" rfl (by decide) (c1_c (rf_cat _) c1_n) (Nat.le_of_ble_eq_true rfl) ?_
  intro p e s m below meth c ls A args Q hQ hx hb hr hlk hml hown hts hin hl hE hw
  have hl : lw ls 2 [(0, va_rf a0)] := hl
  have hZ := hE.2.2.1
  have h := hm
  clear hm
  refine xq_aload_n (r := a0) hx hb d6_4_0 rfl (lv_at hl.1 0 rfl) ?_
  refine va_ldcS hx hb hown (hZ.2.2.1 ("PagedValues$Patcher", 60, "op", 23) (List.mem_of_getElem? (i := 11) rfl)) d6_4_1 ?_
  refine W.eq (g2 := F0 m 3 ls [.ref (Zd 23), va_rf a0]) rfl ?_
  obtain ⟨x11, hc, h⟩ := ob h
  refine hS_i (As := [va_rf a0, .ref (Zd 23)]) (rest := []) ⟨hx, hb, hml, hown, hts⟩ (cc_Patcher_hasString l G Zd K a0 (some (Zd 23)) st x11 hc) (kw_S (n := 2) hts k761 k759 k8 k760 (by decide +kernel) ⟨Nat.le_of_ble_eq_true rfl, Nat.le_of_ble_eq_true rfl⟩) hE hw rfl hl.1.1 rfl (c1_8 c1_n (Nat.le_of_ble_eq_true rfl)) d6_4_3 (fun H locs cells slots hw => ?_)
  clear hc
  refine W.eq (g2 := F0 m 6 ls [.int x11]) rfl ?_
  refine lv_if_eq (tgt := 18) hx hb d6_4_6 rfl (fun c14 => ?_) (fun c14 => ?_)
  ·
    replace h := (if_pos c14).symm.trans h
    refine lv_iconst (v := 0) hx hb d6_4_18 (by decide) ?_
    cases h
    exact finH_z hQ hx hb hr hlk (by decide) hE hw d6_4_19
  ·
    replace h := (if_neg c14).symm.trans h
    refine xq_aload_n (r := a0) hx hb d6_4_9 rfl (lv_at hl.1 0 rfl) ?_
    refine va_ldcS hx hb hown (hZ.2.2.1 ("PagedValues$Patcher", 66, "path", 24) (List.mem_of_getElem? (i := 12) rfl)) d6_4_10 ?_
    refine W.eq (g2 := F0 m 12 ls [.ref (Zd 24), va_rf a0]) rfl ?_
    obtain ⟨x15, hc, h⟩ := ob h
    refine hS_i (As := [va_rf a0, .ref (Zd 24)]) (rest := []) ⟨hx, hb, hml, hown, hts⟩ (cc_Patcher_hasString l G Zd K a0 (some (Zd 24)) st x15 hc) (kw_S (n := 2) hts k761 k759 k8 k760 (by decide +kernel) ⟨Nat.le_of_ble_eq_true rfl, Nat.le_of_ble_eq_true rfl⟩) hE hw rfl hl.1.1 rfl (c1_8 c1_n (Nat.le_of_ble_eq_true rfl)) d6_4_12 (fun H locs cells slots hw => ?_)
    clear hc
    refine W.eq (g2 := F0 m 15 ls [.int x15]) rfl ?_
    refine lv_if_ne (tgt := 20) hx hb d6_4_15 rfl (fun c18 => ?_) (fun c18 => ?_)
    ·
      replace h := (if_neg c18).symm.trans h
      refine xq_aload_n (r := a0) hx hb d6_4_20 rfl (lv_at hl.1 0 rfl) ?_
      refine va_ldcS hx hb hown (hZ.2.2.1 ("PagedValues$Patcher", 60, "op", 23) (List.mem_of_getElem? (i := 11) rfl)) d6_4_21 ?_
      refine W.eq (g2 := F0 m 23 ls [.ref (Zd 23), va_rf a0]) rfl ?_
      obtain ⟨x19, hc, h⟩ := ob h
      refine hS_q (As := [va_rf a0, .ref (Zd 23)]) (rest := []) ⟨hx, hb, hml, hown, hts⟩ (cc_Patcher_stringOf l G Zd K a0 (some (Zd 23)) st x19 hc) (kw_S (n := 2) hts k767 k765 k8 k766 (by decide +kernel) ⟨Nat.le_of_ble_eq_true rfl, Nat.le_of_ble_eq_true rfl⟩) hE hw rfl hl.1.1 rfl (c1_8 c1_n (Nat.le_of_ble_eq_true rfl)) d6_4_23 (fun H locs cells slots hw => ?_)
      clear hc
      refine W.eq (g2 := F0 m 26 ls [va_rf x19]) rfl ?_
      refine xt_astore_n (r := x19) (lv' := [(1, va_rf x19), (0, va_rf a0)]) hx hb d6_4_26 rfl hl (by decide) rfl (fun ls hl => ?_)
      refine xq_aload_n (r := x19) hx hb d6_4_27 rfl (lv_at hl.1 0 rfl) ?_
      refine va_ldcS hx hb hown (hZ.2.2.1 ("PagedValues$Patcher", 72, "add", 25) (List.mem_of_getElem? (i := 13) rfl)) d6_4_28 ?_
      refine W.eq (g2 := F0 m 30 ls [.ref (Zd 25), va_rf x19]) rfl ?_
      obtain ⟨a22z, hn22, h⟩ := ob h
      have hn22 : x19 = some a22z := hn22
      refine W.eq (g2 := F0 m 30 ls [.ref (Zd 25), .ref a22z]) (by rw [hn22]; rfl) ?_
      obtain ⟨u9, ho, h⟩ := ob h
      obtain ⟨x23, hc, h⟩ := ob h
      refine hV_i (ci := 12) (As := [.ref (Zd 25)]) (rest := []) ⟨hx, hb, hml, hown, hts⟩ (cc_String_equals l G Zd K a22z (some (Zd 25)) st x23 hc) (kw_V (n := 1) hts k590 k770 k5 k588 k589 (by decide +kernel) ⟨Nat.le_of_ble_eq_true rfl, Nat.le_of_ble_eq_true rfl⟩) hE hw rfl rfl ho rfl hl.1.1 rfl (c1_8 c1_n (Nat.le_of_ble_eq_true rfl)) d6_4_30 (fun H locs cells slots hw => ?_)
      clear hc ho u9
      refine W.eq (g2 := F0 m 33 ls [.int x23]) rfl ?_
      refine lv_if_ne (tgt := 45) hx hb d6_4_33 rfl (fun c26 => ?_) (fun c26 => ?_)
      ·
        replace h := (if_neg c26).symm.trans h
        refine xq_aload_n (r := a0) hx hb d6_4_45 rfl (lv_at hl.1 1 rfl) ?_
        refine va_ldcS hx hb hown (hZ.2.2.1 ("PagedValues$Patcher", 82, "value", 27) (List.mem_of_getElem? (i := 15) rfl)) d6_4_46 ?_
        refine W.eq (g2 := F0 m 48 ls [.ref (Zd 27), va_rf a0]) rfl ?_
        obtain ⟨a27z, hn27, h⟩ := ob h
        have hn27 : a0 = some a27z := hn27
        refine W.eq (g2 := F0 m 48 ls [.ref (Zd 27), .ref a27z]) (by rw [hn27]; rfl) ?_
        obtain ⟨u9, ho, h⟩ := ob h
        obtain ⟨x28, hc, h⟩ := ob h
        refine hV_q (ci := 11) (As := [.ref (Zd 27)]) (rest := []) ⟨hx, hb, hml, hown, hts⟩ (cc_Value_member l G Zd K a27z (some (Zd 27)) st x28 hc) (kw_V (n := 1) hts k584 k762 k18 k582 k583 (by decide +kernel) ⟨Nat.le_of_ble_eq_true rfl, Nat.le_of_ble_eq_true rfl⟩) hE hw rfl rfl ho rfl hl.1.1 rfl (c1_8 c1_n (Nat.le_of_ble_eq_true rfl)) d6_4_48 (fun H locs cells slots hw => ?_)
        clear hc ho u9
        refine W.eq (g2 := F0 m 51 ls [va_rf x28]) rfl ?_
        obtain ⟨e31, hX, h⟩ := ob h
        have hj : ∀ (H : Heap) (locs : List Loc) (cells slots : Nat) (ls : Array Slot), lw ls 2 [(0, va_rf a0), (1, va_rf x19)] → wsH G Zd A s st H locs → W p l e (rmH Zd (4) st.1) s m args below meth c H locs cells slots Q (F0 m 59 ls [.int e31]) := by
          intro H locs cells slots ls hl hw
          obtain ⟨u9, hr9, h⟩ := ob h
          have hi := bz_some hr9
          clear hr9 u9
          cases h
          exact finH_z hQ hx hb hr hlk (nar01 hi) hE hw d6_4_59
        clear h
        rcases nl_case hX with ⟨hn33, h⟩ | ⟨a33z, hn33, h⟩
        ·
          have hn33 : x28 = none := hn33
          refine W.eq (g2 := F0 m 51 ls [.null]) (by rw [hn33]; rfl) ?_
          refine lv_ifnullN (tgt := 58) hx hb d6_4_51 rfl ?_
          refine lv_iconst (v := 0) hx hb d6_4_58 (by decide) ?_
          have e9 := Option.some.inj h
          subst e31
          have hl := lw_sub hl (l' := [(0, va_rf a0), (1, va_rf x19)]) [1, 0] rfl
          exact hj _ _ _ _ _ hl hw
        ·
          have hn33 : x28 = some a33z := hn33
          refine W.eq (g2 := F0 m 51 ls [.ref a33z]) (by rw [hn33]; rfl) ?_
          refine lv_ifnull hx hb d6_4_51 ?_
          refine lv_iconst (v := 1) hx hb d6_4_54 (by decide) ?_
          refine lv_goto (tgt := 59) hx hb d6_4_55 rfl ?_
          have e9 := Option.some.inj h
          subst e31
          have hl := lw_sub hl (l' := [(0, va_rf a0), (1, va_rf x19)]) [1, 0] rfl
          exact hj _ _ _ _ _ hl hw
      ·
        replace h := (if_pos c26).symm.trans h
        refine xq_aload_n (r := x19) hx hb d6_4_36 rfl (lv_at hl.1 0 rfl) ?_
        refine va_ldcS hx hb hown (hZ.2.2.1 ("PagedValues$Patcher", 80, "replace", 26) (List.mem_of_getElem? (i := 14) rfl)) d6_4_37 ?_
        refine W.eq (g2 := F0 m 39 ls [.ref (Zd 26), va_rf x19]) rfl ?_
        refine W.eq (g2 := F0 m 39 ls [.ref (Zd 26), .ref a22z]) (by rw [hn22]; rfl) ?_
        obtain ⟨u9, ho, h⟩ := ob h
        obtain ⟨x34, hc, h⟩ := ob h
        refine hV_i (ci := 12) (As := [.ref (Zd 26)]) (rest := []) ⟨hx, hb, hml, hown, hts⟩ (cc_String_equals l G Zd K a22z (some (Zd 26)) st x34 hc) (kw_V (n := 1) hts k590 k770 k5 k588 k589 (by decide +kernel) ⟨Nat.le_of_ble_eq_true rfl, Nat.le_of_ble_eq_true rfl⟩) hE hw rfl rfl ho rfl hl.1.1 rfl (c1_8 c1_n (Nat.le_of_ble_eq_true rfl)) d6_4_39 (fun H locs cells slots hw => ?_)
        clear hc ho u9
        refine W.eq (g2 := F0 m 42 ls [.int x34]) rfl ?_
        refine lv_if_eq (tgt := 60) hx hb d6_4_42 rfl (fun c37 => ?_) (fun c37 => ?_)
        ·
          replace h := (if_pos c37).symm.trans h
          refine xq_aload_n (r := x19) hx hb d6_4_60 rfl (lv_at hl.1 0 rfl) ?_
          refine va_ldcS hx hb hown (hZ.2.2.1 ("PagedValues$Patcher", 88, "copy", 28) (List.mem_of_getElem? (i := 16) rfl)) d6_4_61 ?_
          refine W.eq (g2 := F0 m 63 ls [.ref (Zd 28), va_rf x19]) rfl ?_
          refine W.eq (g2 := F0 m 63 ls [.ref (Zd 28), .ref a22z]) (by rw [hn22]; rfl) ?_
          obtain ⟨u9, ho, h⟩ := ob h
          obtain ⟨x38, hc, h⟩ := ob h
          refine hV_i (ci := 12) (As := [.ref (Zd 28)]) (rest := []) ⟨hx, hb, hml, hown, hts⟩ (cc_String_equals l G Zd K a22z (some (Zd 28)) st x38 hc) (kw_V (n := 1) hts k590 k770 k5 k588 k589 (by decide +kernel) ⟨Nat.le_of_ble_eq_true rfl, Nat.le_of_ble_eq_true rfl⟩) hE hw rfl rfl ho rfl hl.1.1 rfl (c1_8 c1_n (Nat.le_of_ble_eq_true rfl)) d6_4_63 (fun H locs cells slots hw => ?_)
          clear hc ho u9
          refine W.eq (g2 := F0 m 66 ls [.int x38]) rfl ?_
          refine lv_if_eq (tgt := 76) hx hb d6_4_66 rfl (fun c41 => ?_) (fun c41 => ?_)
          ·
            replace h := (if_pos c41).symm.trans h
            refine xq_aload_n (r := x19) hx hb d6_4_76 rfl (lv_at hl.1 0 rfl) ?_
            refine va_ldcS hx hb hown (hZ.2.2.1 ("PagedValues$Patcher", 92, "remove", 30) (List.mem_of_getElem? (i := 18) rfl)) d6_4_77 ?_
            refine W.eq (g2 := F0 m 79 ls [.ref (Zd 30), va_rf x19]) rfl ?_
            refine W.eq (g2 := F0 m 79 ls [.ref (Zd 30), .ref a22z]) (by rw [hn22]; rfl) ?_
            obtain ⟨u9, ho, h⟩ := ob h
            obtain ⟨x42, hc, h⟩ := ob h
            refine hV_i (ci := 12) (As := [.ref (Zd 30)]) (rest := []) ⟨hx, hb, hml, hown, hts⟩ (cc_String_equals l G Zd K a22z (some (Zd 30)) st x42 hc) (kw_V (n := 1) hts k590 k770 k5 k588 k589 (by decide +kernel) ⟨Nat.le_of_ble_eq_true rfl, Nat.le_of_ble_eq_true rfl⟩) hE hw rfl rfl ho rfl hl.1.1 rfl (c1_8 c1_n (Nat.le_of_ble_eq_true rfl)) d6_4_79 (fun H locs cells slots hw => ?_)
            clear hc ho u9
            refine W.eq (g2 := F0 m 82 ls [.int x42]) rfl ?_
            obtain ⟨u9, hr9, h⟩ := ob h
            have hi := bz_some hr9
            clear hr9 u9
            cases h
            exact finH_z hQ hx hb hr hlk (nar01 hi) hE hw d6_4_82
          ·
            replace h := (if_neg c41).symm.trans h
            refine xq_aload_n (r := a0) hx hb d6_4_69 rfl (lv_at hl.1 1 rfl) ?_
            refine va_ldcS hx hb hown (hZ.2.2.1 ("PagedValues$Patcher", 90, "from", 29) (List.mem_of_getElem? (i := 17) rfl)) d6_4_70 ?_
            refine W.eq (g2 := F0 m 72 ls [.ref (Zd 29), va_rf a0]) rfl ?_
            obtain ⟨x45, hc, h⟩ := ob h
            refine hS_i (As := [va_rf a0, .ref (Zd 29)]) (rest := []) ⟨hx, hb, hml, hown, hts⟩ (cc_Patcher_hasString l G Zd K a0 (some (Zd 29)) st x45 hc) (kw_S (n := 2) hts k761 k759 k8 k760 (by decide +kernel) ⟨Nat.le_of_ble_eq_true rfl, Nat.le_of_ble_eq_true rfl⟩) hE hw rfl hl.1.1 rfl (c1_8 c1_n (Nat.le_of_ble_eq_true rfl)) d6_4_72 (fun H locs cells slots hw => ?_)
            clear hc
            refine W.eq (g2 := F0 m 75 ls [.int x45]) rfl ?_
            obtain ⟨u9, hr9, h⟩ := ob h
            have hi := bz_some hr9
            clear hr9 u9
            cases h
            exact finH_z hQ hx hb hr hlk (nar01 hi) hE hw d6_4_75
        ·
          replace h := (if_neg c37).symm.trans h
          refine xq_aload_n (r := a0) hx hb d6_4_45 rfl (lv_at hl.1 1 rfl) ?_
          refine va_ldcS hx hb hown (hZ.2.2.1 ("PagedValues$Patcher", 82, "value", 27) (List.mem_of_getElem? (i := 15) rfl)) d6_4_46 ?_
          refine W.eq (g2 := F0 m 48 ls [.ref (Zd 27), va_rf a0]) rfl ?_
          obtain ⟨a48z, hn48, h⟩ := ob h
          have hn48 : a0 = some a48z := hn48
          refine W.eq (g2 := F0 m 48 ls [.ref (Zd 27), .ref a48z]) (by rw [hn48]; rfl) ?_
          obtain ⟨u9, ho, h⟩ := ob h
          obtain ⟨x49, hc, h⟩ := ob h
          refine hV_q (ci := 11) (As := [.ref (Zd 27)]) (rest := []) ⟨hx, hb, hml, hown, hts⟩ (cc_Value_member l G Zd K a48z (some (Zd 27)) st x49 hc) (kw_V (n := 1) hts k584 k762 k18 k582 k583 (by decide +kernel) ⟨Nat.le_of_ble_eq_true rfl, Nat.le_of_ble_eq_true rfl⟩) hE hw rfl rfl ho rfl hl.1.1 rfl (c1_8 c1_n (Nat.le_of_ble_eq_true rfl)) d6_4_48 (fun H locs cells slots hw => ?_)
          clear hc ho u9
          refine W.eq (g2 := F0 m 51 ls [va_rf x49]) rfl ?_
          obtain ⟨e52, hX, h⟩ := ob h
          have hj : ∀ (H : Heap) (locs : List Loc) (cells slots : Nat) (ls : Array Slot), lw ls 2 [(0, va_rf a0), (1, va_rf x19)] → wsH G Zd A s st H locs → W p l e (rmH Zd (4) st.1) s m args below meth c H locs cells slots Q (F0 m 59 ls [.int e52]) := by
            intro H locs cells slots ls hl hw
            obtain ⟨u9, hr9, h⟩ := ob h
            have hi := bz_some hr9
            clear hr9 u9
            cases h
            exact finH_z hQ hx hb hr hlk (nar01 hi) hE hw d6_4_59
          clear h
          rcases nl_case hX with ⟨hn54, h⟩ | ⟨a54z, hn54, h⟩
          ·
            have hn54 : x49 = none := hn54
            refine W.eq (g2 := F0 m 51 ls [.null]) (by rw [hn54]; rfl) ?_
            refine lv_ifnullN (tgt := 58) hx hb d6_4_51 rfl ?_
            refine lv_iconst (v := 0) hx hb d6_4_58 (by decide) ?_
            have e9 := Option.some.inj h
            subst e52
            have hl := lw_sub hl (l' := [(0, va_rf a0), (1, va_rf x19)]) [1, 0] rfl
            exact hj _ _ _ _ _ hl hw
          ·
            have hn54 : x49 = some a54z := hn54
            refine W.eq (g2 := F0 m 51 ls [.ref a54z]) (by rw [hn54]; rfl) ?_
            refine lv_ifnull hx hb d6_4_51 ?_
            refine lv_iconst (v := 1) hx hb d6_4_54 (by decide) ?_
            refine lv_goto (tgt := 59) hx hb d6_4_55 rfl ?_
            have e9 := Option.some.inj h
            subst e52
            have hl := lw_sub hl (l' := [(0, va_rf a0), (1, va_rf x19)]) [1, 0] rfl
            exact hj _ _ _ _ _ hl hw
    ·
      replace h := (if_pos c18).symm.trans h
      refine lv_iconst (v := 0) hx hb d6_4_18 (by decide) ?_
      cases h
      exact finH_z hQ hx hb hr hlk (by decide) hE hw d6_4_19
def c_Patcher_isList_l1 (Zd : Nat → Nat) (K : KE) (st : CS) : Nat → (Option Nat) → Option ((Int32) ⊕ (Option Nat))
  | 0, _ => none
  | n9 + 1, e9 => nl e9 (some (.inr e9)) (fun a18z => (c_Patcher_isOperation Zd K e9 st).bind fun x19 => if x19 = (0 : Int32) then (some (.inl (0 : Int32))) else ((gQ K st a18z 11 5).bind fun x23 => c_Patcher_isList_l1 Zd K st n9 x23))
theorem c_Patcher_isList_l1_s (Zd : Nat → Nat) (K : KE) (st : CS) (n9 : Nat) (e9 : Option Nat) : c_Patcher_isList_l1 Zd K st (n9 + 1) e9 = (nl e9 (some (.inr e9)) (fun a18z => (c_Patcher_isOperation Zd K e9 st).bind fun x19 => if x19 = (0 : Int32) then (some (.inl (0 : Int32))) else ((gQ K st a18z 11 5).bind fun x23 => c_Patcher_isList_l1 Zd K st n9 x23))) := rfl
def c_Patcher_isList (Zd : Nat → Nat) (K : KE) (a0 : Option Nat) (st : CS) : Option (Int32) := a0.bind fun a11z => (gQ K st a11z 11 0).bind fun x12 => if x12 = some (Zd 13) then ((gQ K st a11z 11 4).bind fun x14 => (c_Patcher_isList_l1 Zd K st 4096 x14).bind fun e15 => match e15 with | .inl o9 => some o9 | .inr e8 => some (1 : Int32)) else (some (0 : Int32))
set_option maxHeartbeats 4000000 in
set_option maxRecDepth 100000 in
theorem cc_Patcher_isList (l : Launch) (G : Gk) (Zd : Nat → Nat) (K : KE) (a0 : Option Nat) (st : CS) (r0 : Int32) (hm : c_Patcher_isList Zd K a0 st = some r0) : CT l y6_3 prog_6_method_3_code 2 (some .boolean) G Zd K (5) [va_rf a0] st (hI G Zd r0 st) := by
  refine goH (d := 5) (y := y6_3) (cc := prog_6_method_3_code) (maxL := 2) (ret := (some .boolean)) (av := [va_rf a0]) (Qc := hI G Zd r0 st) "PagedValues$Patcher" rfl (by decide) (c1_c (rf_cat _) c1_n) (Nat.le_of_ble_eq_true rfl) ?_
  intro p e s m below meth c ls A args Q hQ hx hb hr hlk hml hown hts hin hl hE hw
  have hl : lw ls 2 [(0, va_rf a0)] := hl
  have hZ := hE.2.2.1
  have h := hm
  clear hm
  refine xq_aload_n (r := a0) hx hb d6_3_0 rfl (lv_at hl.1 0 rfl) ?_
  obtain ⟨a11z, hn11, h⟩ := ob h
  have hn11 : a0 = some a11z := hn11
  refine W.eq (g2 := F0 m 1 ls [.ref a11z]) (by rw [hn11]; rfl) ?_
  obtain ⟨x12, hr, h⟩ := ob h
  refine xgN_q (ci := 11) (C := r_11) (T := f_11) (N := 6) (ref := "PagedValues$Value") hx hb hts (fun w h => List.mem_cons_of_mem _ (ly_11 w h)) hown hE hw rfl 0 (by decide) (va_Nw.use rfl (hZ.1.1 _ kn350)) (fun _ h9 => h9) hr d6_3_1 ?_
  clear hr
  refine va_gets (ref := "PagedValues$Kind") hx hb (hZ.2.1.1.1 5 (by decide)).1 hw.2.2.2 hown (hts _ (List.mem_cons_of_mem _ k754)) (fun _ h9 => h9) d6_3_4 ?_
  refine W.eq (g2 := F0 m 7 ls [.ref (Zd 13), va_rf x12]) rfl ?_
  refine lv_acmp_eq (rx := x12) (ry := some (Zd 13)) (tgt := 12) hx hb d6_3_7 rfl (fun c13 => ?_) (fun c13 => ?_)
  ·
    replace h := (if_pos c13).symm.trans h
    refine xq_aload_n (r := a0) hx hb d6_3_12 rfl (lv_at hl.1 0 rfl) ?_
    refine W.eq (g2 := F0 m 13 ls [.ref a11z]) (by rw [hn11]; rfl) ?_
    obtain ⟨x14, hr, h⟩ := ob h
    refine xgN_q (ci := 11) (C := r_11) (T := f_11) (N := 6) (ref := "PagedValues$Value") hx hb hts (fun w h => List.mem_cons_of_mem _ (ly_11 w h)) hown hE hw rfl 4 (by decide) (va_Nw.use rfl (hZ.1.1 _ kn359)) (fun _ h9 => h9) hr d6_3_13 ?_
    clear hr
    refine xt_astore_n (r := x14) (lv' := [(1, va_rf x14), (0, va_rf a0)]) hx hb d6_3_16 rfl hl (by decide) rfl (fun ls hl => ?_)
    obtain ⟨e15, hX, hrest⟩ := ob h
    clear h
    have hj : ∀ (v17 : Option Nat), e15 = .inr (v17) → ∀ (H : Heap) (locs : List Loc) (cells slots : Nat) (ls : Array Slot), lw ls 2 [(0, va_rf a0), (1, va_rf v17)] → wsH G Zd A s st H locs → W p l e (rmH Zd (5) st.1) s m args below meth c H locs cells slots Q (F0 m 38 ls []) := by
      intro v17 he H locs cells slots ls hl hw
      subst e15
      have h := hrest
      clear hrest
      refine lv_iconst (v := 1) hx hb d6_3_38 (by decide) ?_
      cases h
      exact finH_z hQ hx hb hr hlk (by decide) hE hw d6_3_39
    have hloop : ∀ (n9 : Nat) (v16 : Option Nat), c_Patcher_isList_l1 Zd K st n9 (v16) = some e15 → ∀ (H : Heap) (locs : List Loc) (cells slots : Nat) (ls : Array Slot), lw ls 2 [(0, va_rf a0), (1, va_rf v16)] → wsH G Zd A s st H locs → W p l e (rmH Zd (5) st.1) s m args below meth c H locs cells slots Q (F0 m 17 ls []) := by
      intro n9
      induction n9 with
      | zero =>
        intro v16 h
        cases h
      | succ n9 ih =>
        intro v16 h H locs cells slots ls hl hw
        replace h := (c_Patcher_isList_l1_s Zd K st n9 (v16)).symm.trans h
        refine xq_aload_n (r := v16) hx hb d6_3_17 rfl (lv_at hl.1 1 rfl) ?_
        rcases nl_case h with ⟨hn18, h⟩ | ⟨a18z, hn18, h⟩
        ·
          have hn18 : v16 = none := hn18
          refine W.eq (g2 := F0 m 18 ls [.null]) (by rw [hn18]; rfl) ?_
          refine lv_ifnullN (tgt := 38) hx hb d6_3_18 rfl ?_
          have e9 := Option.some.inj h
          subst e15
          have hl := lw_sub hl (l' := [(0, va_rf a0), (1, va_rf v16)]) [0, 1] rfl
          exact hj _ rfl _ _ _ _ _ hl hw
        ·
          have hn18 : v16 = some a18z := hn18
          refine W.eq (g2 := F0 m 18 ls [.ref a18z]) (by rw [hn18]; rfl) ?_
          refine lv_ifnull hx hb d6_3_18 ?_
          refine xq_aload_n (r := v16) hx hb d6_3_21 rfl (lv_at hl.1 1 rfl) ?_
          obtain ⟨x19, hc, h⟩ := ob h
          refine hS_i (As := [va_rf v16]) (rest := []) ⟨hx, hb, hml, hown, hts⟩ (cc_Patcher_isOperation l G Zd K v16 st x19 hc) (kw_S (n := 1) hts k757 k755 k8 k756 (by decide +kernel) ⟨Nat.le_of_ble_eq_true rfl, Nat.le_of_ble_eq_true rfl⟩) hE hw rfl hl.1.1 rfl (c1_8 c1_n (Nat.le_of_ble_eq_true rfl)) d6_3_22 (fun H locs cells slots hw => ?_)
          clear hc
          refine W.eq (g2 := F0 m 25 ls [.int x19]) rfl ?_
          refine lv_if_ne (tgt := 30) hx hb d6_3_25 rfl (fun c22 => ?_) (fun c22 => ?_)
          ·
            replace h := (if_neg c22).symm.trans h
            refine xq_aload_n (r := v16) hx hb d6_3_30 rfl (lv_at hl.1 1 rfl) ?_
            refine W.eq (g2 := F0 m 31 ls [.ref a18z]) (by rw [hn18]; rfl) ?_
            obtain ⟨x23, hr, h⟩ := ob h
            refine xgN_q (ci := 11) (C := r_11) (T := f_11) (N := 6) (ref := "PagedValues$Value") hx hb hts (fun w h => List.mem_cons_of_mem _ (ly_11 w h)) hown hE hw rfl 5 (by decide) (va_Nw.use rfl (hZ.1.1 _ kn362)) (fun _ h9 => h9) hr d6_3_31 ?_
            clear hr
            refine xt_astore_n (r := x23) (lv' := [(1, va_rf x23), (0, va_rf a0)]) hx hb d6_3_34 rfl hl (by decide) rfl (fun ls hl => ?_)
            refine lv_goto (tgt := 17) hx hb d6_3_35 rfl ?_
            have hl := lw_sub hl (l' := [(0, va_rf a0), (1, va_rf x23)]) [1, 0] rfl
            exact ih _ h _ _ _ _ _ hl hw
          ·
            replace h := (if_pos c22).symm.trans h
            refine lv_iconst (v := 0) hx hb d6_3_28 (by decide) ?_
            cases h
            cases hrest
            exact finH_z hQ hx hb hr hlk (by decide) hE hw d6_3_29
    have hl := lw_sub hl (l' := [(0, va_rf a0), (1, va_rf x14)]) [1, 0] rfl
    exact hloop _ _ hX _ _ _ _ _ hl hw
  ·
    replace h := (if_neg c13).symm.trans h
    refine lv_iconst (v := 0) hx hb d6_3_10 (by decide) ?_
    cases h
    exact finH_z hQ hx hb hr hlk (by decide) hE hw d6_3_11
def c_Pointer_isEscape (Zd : Nat → Nat) (K : KE) (a0 : Option Nat) (a1 : Int32) (st : CS) : Option (Int32) := (some (a1 + (1 : Int32))).bind fun y11 => a0.bind fun a12z => (isO K st a12z 12).bind fun _ => (c_String_length Zd K a12z st).bind fun x13 => if y11 < x13 then ((some (a1 + (1 : Int32))).bind fun y17 => (isO K st a12z 12).bind fun _ => (c_String_charAt Zd K a12z y17 st).bind fun x18 => (if x18 = (48 : Int32) then (some (1 : Int32)) else (if x18 = (49 : Int32) then (some (1 : Int32)) else (some (0 : Int32)))).bind fun e21 => (bz e21).bind fun _ => some e21) else (some (0 : Int32))
set_option maxHeartbeats 4000000 in
set_option maxRecDepth 100000 in
theorem cc_Pointer_isEscape (l : Launch) (G : Gk) (Zd : Nat → Nat) (K : KE) (a0 : Option Nat) (a1 : Int32) (st : CS) (r0 : Int32) (hm : c_Pointer_isEscape Zd K a0 a1 st = some r0) : CT l y7_3 prog_7_method_3_code 3 (some .boolean) G Zd K (4) [va_rf a0, .int a1] st (hI G Zd r0 st) := by
  refine goH (d := 4) (y := y7_3) (cc := prog_7_method_3_code) (maxL := 3) (ret := (some .boolean)) (av := [va_rf a0, .int a1]) (Qc := hI G Zd r0 st) "PagedValues$Pointer" rfl (by decide) (c1_c (rf_cat _) (c1_c rfl c1_n)) (Nat.le_of_ble_eq_true rfl) ?_
  intro p e s m below meth c ls A args Q hQ hx hb hr hlk hml hown hts hin hl hE hw
  have hl : lw ls 3 [(0, va_rf a0), (1, .int a1)] := hl
  have hZ := hE.2.2.1
  have h := hm
  clear hm
  refine lv_iload_n hx hb d7_3_0 rfl (lv_at hl.1 1 rfl) ?_
  refine lv_iconst (v := 1) hx hb d7_3_1 (by decide) ?_
  refine lv_iadd hx hb d7_3_2 ?_
  obtain ⟨y11, hr, h⟩ := ob h
  refine lv_topi (fun y9 ey => ?_)
  have e9 := ey.trans (Option.some.inj hr)
  clear ey
  subst y9
  clear hr
  refine xq_aload_n (r := a0) hx hb d7_3_3 rfl (lv_at hl.1 0 rfl) ?_
  obtain ⟨a12z, hn12, h⟩ := ob h
  have hn12 : a0 = some a12z := hn12
  refine W.eq (g2 := F0 m 4 ls [.ref a12z, .int y11]) (by rw [hn12]; rfl) ?_
  obtain ⟨u9, ho, h⟩ := ob h
  obtain ⟨x13, hc, h⟩ := ob h
  refine hV_i (ci := 12) (As := []) (rest := [.int y11]) ⟨hx, hb, hml, hown, hts⟩ (cc_String_length l G Zd K a12z st x13 hc) (kw_V (n := 0) hts k628 k794 k5 k626 k627 (by decide +kernel) ⟨Nat.le_of_ble_eq_true rfl, Nat.le_of_ble_eq_true rfl⟩) hE hw rfl rfl ho rfl hl.1.1 rfl (c1_8 (c1_c rfl c1_n) (Nat.le_of_ble_eq_true rfl)) d7_3_4 (fun H locs cells slots hw => ?_)
  clear hc ho u9
  refine W.eq (g2 := F0 m 7 ls [.int x13, .int y11]) rfl ?_
  refine lv_icmp_lt (tgt := 12) hx hb d7_3_7 rfl (fun c16 => ?_) (fun c16 => ?_)
  ·
    replace h := (if_pos c16).symm.trans h
    refine xq_aload_n (r := a0) hx hb d7_3_12 rfl (lv_at hl.1 0 rfl) ?_
    refine lv_iload_n hx hb d7_3_13 rfl (lv_at hl.1 1 rfl) ?_
    refine lv_iconst (v := 1) hx hb d7_3_14 (by decide) ?_
    refine lv_iadd hx hb d7_3_15 ?_
    obtain ⟨y17, hr, h⟩ := ob h
    refine lv_topi (fun y9 ey => ?_)
    have e9 := ey.trans (Option.some.inj hr)
    clear ey
    subst y9
    clear hr
    refine W.eq (g2 := F0 m 16 ls [.int y17, .ref a12z]) (by rw [hn12]; rfl) ?_
    obtain ⟨u9, ho, h⟩ := ob h
    obtain ⟨x18, hc, h⟩ := ob h
    refine hV_i (ci := 12) (As := [.int y17]) (rest := []) ⟨hx, hb, hml, hown, hts⟩ (cc_String_charAt l G Zd K a12z y17 st x18 hc) (kw_V (n := 1) hts k636 k793 k5 k634 k635 (by decide +kernel) ⟨Nat.le_of_ble_eq_true rfl, Nat.le_of_ble_eq_true rfl⟩) hE hw rfl rfl ho rfl hl.1.1 rfl (c1_8 c1_n (Nat.le_of_ble_eq_true rfl)) d7_3_16 (fun H locs cells slots hw => ?_)
    clear hc ho u9
    refine W.eq (g2 := F0 m 19 ls [.int x18]) rfl ?_
    refine xt_istore_n (x := x18) (lv' := [(2, .int x18), (0, va_rf a0), (1, .int a1)]) hx hb d7_3_19 rfl hl (by decide) rfl (fun ls hl => ?_)
    refine lv_iload_n hx hb d7_3_20 rfl (lv_at hl.1 0 rfl) ?_
    refine lv_bipush (v := 48) hx hb d7_3_21 (by decide) ?_
    obtain ⟨e21, hX, h⟩ := ob h
    have hj : ∀ (H : Heap) (locs : List Loc) (cells slots : Nat) (ls : Array Slot), lw ls 3 [(0, va_rf a0), (1, .int a1), (2, .int x18)] → wsH G Zd A s st H locs → W p l e (rmH Zd (4) st.1) s m args below meth c H locs cells slots Q (F0 m 37 ls [.int e21]) := by
      intro H locs cells slots ls hl hw
      obtain ⟨u9, hr9, h⟩ := ob h
      have hi := bz_some hr9
      clear hr9 u9
      cases h
      exact finH_z hQ hx hb hr hlk (nar01 hi) hE hw d7_3_37
    clear h
    refine lv_icmp_eq (tgt := 32) hx hb d7_3_23 rfl (fun c23 => ?_) (fun c23 => ?_)
    ·
      replace h := (if_pos c23).symm.trans hX
      refine lv_iconst (v := 1) hx hb d7_3_32 (by decide) ?_
      refine lv_goto (tgt := 37) hx hb d7_3_33 rfl ?_
      have e9 := Option.some.inj h
      subst e21
      have hl := lw_sub hl (l' := [(0, va_rf a0), (1, .int a1), (2, .int x18)]) [1, 2, 0] rfl
      exact hj _ _ _ _ _ hl hw
    ·
      replace h := (if_neg c23).symm.trans hX
      refine lv_iload_n hx hb d7_3_26 rfl (lv_at hl.1 0 rfl) ?_
      refine lv_bipush (v := 49) hx hb d7_3_27 (by decide) ?_
      refine lv_icmp_ne (tgt := 36) hx hb d7_3_29 rfl (fun c24 => ?_) (fun c24 => ?_)
      ·
        replace h := (if_neg c24).symm.trans h
        refine lv_iconst (v := 0) hx hb d7_3_36 (by decide) ?_
        have e9 := Option.some.inj h
        subst e21
        have hl := lw_sub hl (l' := [(0, va_rf a0), (1, .int a1), (2, .int x18)]) [1, 2, 0] rfl
        exact hj _ _ _ _ _ hl hw
      ·
        replace h := (if_pos c24).symm.trans h
        refine lv_iconst (v := 1) hx hb d7_3_32 (by decide) ?_
        refine lv_goto (tgt := 37) hx hb d7_3_33 rfl ?_
        have e9 := Option.some.inj h
        subst e21
        have hl := lw_sub hl (l' := [(0, va_rf a0), (1, .int a1), (2, .int x18)]) [1, 2, 0] rfl
        exact hj _ _ _ _ _ hl hw
  ·
    replace h := (if_neg c16).symm.trans h
    refine lv_iconst (v := 0) hx hb d7_3_10 (by decide) ?_
    cases h
    exact finH_z hQ hx hb hr hlk (by decide) hE hw d7_3_11
def c_Pointer_isPointer_l1 (Zd : Nat → Nat) (K : KE) (a0 : Option Nat) (st : CS) (a11z : Nat) : Nat → (Int32) → Option ((Int32) ⊕ (Int32))
  | 0, _ => none
  | n9 + 1, e9 => (isO K st a11z 12).bind fun _ => (c_String_length Zd K a11z st).bind fun x23 => if x23 ≤ e9 then (some (.inr e9)) else ((isO K st a11z 12).bind fun _ => (c_String_charAt Zd K a11z e9 st).bind fun x27 => if x27 = (126 : Int32) then ((c_Pointer_isEscape Zd K a0 e9 st).bind fun x32 => if x32 = (0 : Int32) then (some (.inl (0 : Int32))) else ((some (e9 + 1)).bind fun y36 => c_Pointer_isPointer_l1 Zd K a0 st a11z n9 y36)) else ((some (e9 + 1)).bind fun y31 => c_Pointer_isPointer_l1 Zd K a0 st a11z n9 y31))
theorem c_Pointer_isPointer_l1_s (Zd : Nat → Nat) (K : KE) (a0 : Option Nat) (st : CS) (a11z : Nat) (n9 : Nat) (e9 : Int32) : c_Pointer_isPointer_l1 Zd K a0 st a11z (n9 + 1) e9 = ((isO K st a11z 12).bind fun _ => (c_String_length Zd K a11z st).bind fun x23 => if x23 ≤ e9 then (some (.inr e9)) else ((isO K st a11z 12).bind fun _ => (c_String_charAt Zd K a11z e9 st).bind fun x27 => if x27 = (126 : Int32) then ((c_Pointer_isEscape Zd K a0 e9 st).bind fun x32 => if x32 = (0 : Int32) then (some (.inl (0 : Int32))) else ((some (e9 + 1)).bind fun y36 => c_Pointer_isPointer_l1 Zd K a0 st a11z n9 y36)) else ((some (e9 + 1)).bind fun y31 => c_Pointer_isPointer_l1 Zd K a0 st a11z n9 y31))) := rfl
def c_Pointer_isPointer (Zd : Nat → Nat) (K : KE) (a0 : Option Nat) (st : CS) : Option (Int32) := a0.bind fun a11z => (isO K st a11z 12).bind fun _ => (c_String_isEmpty Zd K a11z st).bind fun x12 => if x12 = (0 : Int32) then ((isO K st a11z 12).bind fun _ => (c_String_charAt Zd K a11z (0 : Int32) st).bind fun x16 => if x16 = (47 : Int32) then ((c_Pointer_isPointer_l1 Zd K a0 st a11z 4096 (0 : Int32)).bind fun e20 => match e20 with | .inl o9 => some o9 | .inr e8 => some (1 : Int32)) else (some (0 : Int32))) else (some (1 : Int32))
set_option maxHeartbeats 4000000 in
set_option maxRecDepth 100000 in
theorem cc_Pointer_isPointer (l : Launch) (G : Gk) (Zd : Nat → Nat) (K : KE) (a0 : Option Nat) (st : CS) (r0 : Int32) (hm : c_Pointer_isPointer Zd K a0 st = some r0) : CT l y7_2 prog_7_method_2_code 2 (some .boolean) G Zd K (5) [va_rf a0] st (hI G Zd r0 st) := by
  refine goH (d := 5) (y := y7_2) (cc := prog_7_method_2_code) (maxL := 2) (ret := (some .boolean)) (av := [va_rf a0]) (Qc := hI G Zd r0 st) "PagedValues$Pointer" rfl (by decide) (c1_c (rf_cat _) c1_n) (Nat.le_of_ble_eq_true rfl) ?_
  intro p e s m below meth c ls A args Q hQ hx hb hr hlk hml hown hts hin hl hE hw
  have hl : lw ls 2 [(0, va_rf a0)] := hl
  have hZ := hE.2.2.1
  have h := hm
  clear hm
  refine xq_aload_n (r := a0) hx hb d7_2_0 rfl (lv_at hl.1 0 rfl) ?_
  obtain ⟨a11z, hn11, h⟩ := ob h
  have hn11 : a0 = some a11z := hn11
  refine W.eq (g2 := F0 m 1 ls [.ref a11z]) (by rw [hn11]; rfl) ?_
  obtain ⟨u9, ho, h⟩ := ob h
  obtain ⟨x12, hc, h⟩ := ob h
  refine hV_i (ci := 12) (As := []) (rest := []) ⟨hx, hb, hml, hown, hts⟩ (cc_String_isEmpty l G Zd K a11z st x12 hc) (kw_V (n := 0) hts k792 k789 k5 k790 k791 (by decide +kernel) ⟨Nat.le_of_ble_eq_true rfl, Nat.le_of_ble_eq_true rfl⟩) hE hw rfl rfl ho rfl hl.1.1 rfl (c1_8 c1_n (Nat.le_of_ble_eq_true rfl)) d7_2_1 (fun H locs cells slots hw => ?_)
  clear hc ho u9
  refine W.eq (g2 := F0 m 4 ls [.int x12]) rfl ?_
  refine lv_if_eq (tgt := 9) hx hb d7_2_4 rfl (fun c15 => ?_) (fun c15 => ?_)
  ·
    replace h := (if_pos c15).symm.trans h
    refine xq_aload_n (r := a0) hx hb d7_2_9 rfl (lv_at hl.1 0 rfl) ?_
    refine lv_iconst (v := 0) hx hb d7_2_10 (by decide) ?_
    refine W.eq (g2 := F0 m 11 ls [.int 0, .ref a11z]) (by rw [hn11]; rfl) ?_
    obtain ⟨u9, ho, h⟩ := ob h
    obtain ⟨x16, hc, h⟩ := ob h
    refine hV_i (ci := 12) (As := [.int 0]) (rest := []) ⟨hx, hb, hml, hown, hts⟩ (cc_String_charAt l G Zd K a11z (0 : Int32) st x16 hc) (kw_V (n := 1) hts k636 k793 k5 k634 k635 (by decide +kernel) ⟨Nat.le_of_ble_eq_true rfl, Nat.le_of_ble_eq_true rfl⟩) hE hw rfl rfl ho rfl hl.1.1 rfl (c1_8 c1_n (Nat.le_of_ble_eq_true rfl)) d7_2_11 (fun H locs cells slots hw => ?_)
    clear hc ho u9
    refine W.eq (g2 := F0 m 14 ls [.int x16]) rfl ?_
    refine lv_bipush (v := 47) hx hb d7_2_14 (by decide) ?_
    refine lv_icmp_eq (tgt := 21) hx hb d7_2_16 rfl (fun c19 => ?_) (fun c19 => ?_)
    ·
      replace h := (if_pos c19).symm.trans h
      refine lv_iconst (v := 0) hx hb d7_2_21 (by decide) ?_
      refine xt_istore_n (x := 0) (lv' := [(1, .int 0), (0, va_rf a0)]) hx hb d7_2_22 rfl hl (by decide) rfl (fun ls hl => ?_)
      obtain ⟨e20, hX, hrest⟩ := ob h
      clear h
      have hj : ∀ (v22 : Int32), e20 = .inr (v22) → ∀ (H : Heap) (locs : List Loc) (cells slots : Nat) (ls : Array Slot), lw ls 2 [(0, va_rf a0), (1, .int v22)] → wsH G Zd A s st H locs → W p l e (rmH Zd (5) st.1) s m args below meth c H locs cells slots Q (F0 m 57 ls []) := by
        intro v22 he H locs cells slots ls hl hw
        subst e20
        have h := hrest
        clear hrest
        refine lv_iconst (v := 1) hx hb d7_2_57 (by decide) ?_
        cases h
        exact finH_z hQ hx hb hr hlk (by decide) hE hw d7_2_58
      have hloop : ∀ (n9 : Nat) (v21 : Int32), c_Pointer_isPointer_l1 Zd K a0 st a11z n9 (v21) = some e20 → ∀ (H : Heap) (locs : List Loc) (cells slots : Nat) (ls : Array Slot), lw ls 2 [(0, va_rf a0), (1, .int v21)] → wsH G Zd A s st H locs → W p l e (rmH Zd (5) st.1) s m args below meth c H locs cells slots Q (F0 m 23 ls []) := by
        intro n9
        induction n9 with
        | zero =>
          intro v21 h
          cases h
        | succ n9 ih =>
          intro v21 h H locs cells slots ls hl hw
          replace h := (c_Pointer_isPointer_l1_s Zd K a0 st a11z n9 (v21)).symm.trans h
          refine lv_iload_n hx hb d7_2_23 rfl (lv_at hl.1 1 rfl) ?_
          refine xq_aload_n (r := a0) hx hb d7_2_24 rfl (lv_at hl.1 0 rfl) ?_
          refine W.eq (g2 := F0 m 25 ls [.ref a11z, .int v21]) (by rw [hn11]; rfl) ?_
          obtain ⟨u9, ho, h⟩ := ob h
          obtain ⟨x23, hc, h⟩ := ob h
          refine hV_i (ci := 12) (As := []) (rest := [.int v21]) ⟨hx, hb, hml, hown, hts⟩ (cc_String_length l G Zd K a11z st x23 hc) (kw_V (n := 0) hts k628 k794 k5 k626 k627 (by decide +kernel) ⟨Nat.le_of_ble_eq_true rfl, Nat.le_of_ble_eq_true rfl⟩) hE hw rfl rfl ho rfl hl.1.1 rfl (c1_8 (c1_c rfl c1_n) (Nat.le_of_ble_eq_true rfl)) d7_2_25 (fun H locs cells slots hw => ?_)
          clear hc ho u9
          refine W.eq (g2 := F0 m 28 ls [.int x23, .int v21]) rfl ?_
          refine lv_icmp_ge (tgt := 57) hx hb d7_2_28 rfl (fun c26 => ?_) (fun c26 => ?_)
          ·
            replace h := (if_pos c26).symm.trans h
            have e9 := Option.some.inj h
            subst e20
            have hl := lw_sub hl (l' := [(0, va_rf a0), (1, .int v21)]) [0, 1] rfl
            exact hj _ rfl _ _ _ _ _ hl hw
          ·
            replace h := (if_neg c26).symm.trans h
            refine xq_aload_n (r := a0) hx hb d7_2_31 rfl (lv_at hl.1 0 rfl) ?_
            refine lv_iload_n hx hb d7_2_32 rfl (lv_at hl.1 1 rfl) ?_
            refine W.eq (g2 := F0 m 33 ls [.int v21, .ref a11z]) (by rw [hn11]; rfl) ?_
            obtain ⟨u9, ho, h⟩ := ob h
            obtain ⟨x27, hc, h⟩ := ob h
            refine hV_i (ci := 12) (As := [.int v21]) (rest := []) ⟨hx, hb, hml, hown, hts⟩ (cc_String_charAt l G Zd K a11z v21 st x27 hc) (kw_V (n := 1) hts k636 k793 k5 k634 k635 (by decide +kernel) ⟨Nat.le_of_ble_eq_true rfl, Nat.le_of_ble_eq_true rfl⟩) hE hw rfl rfl ho rfl hl.1.1 rfl (c1_8 c1_n (Nat.le_of_ble_eq_true rfl)) d7_2_33 (fun H locs cells slots hw => ?_)
            clear hc ho u9
            refine W.eq (g2 := F0 m 36 ls [.int x27]) rfl ?_
            refine lv_bipush (v := 126) hx hb d7_2_36 (by decide) ?_
            refine lv_icmp_ne (tgt := 51) hx hb d7_2_38 rfl (fun c30 => ?_) (fun c30 => ?_)
            ·
              replace h := (if_neg c30).symm.trans h
              obtain ⟨y31, hr, h⟩ := ob h
              refine xt_iinc (k := 1) (v := y31) (lv' := [(1, .int y31), (0, va_rf a0)]) hx hb d7_2_51 hl rfl hr (by decide) rfl (fun ls hl => ?_)
              clear hr
              refine lv_goto (tgt := 23) hx hb d7_2_54 rfl ?_
              have hl := lw_sub hl (l' := [(0, va_rf a0), (1, .int y31)]) [1, 0] rfl
              exact ih _ h _ _ _ _ _ hl hw
            ·
              replace h := (if_pos c30).symm.trans h
              refine xq_aload_n (r := a0) hx hb d7_2_41 rfl (lv_at hl.1 0 rfl) ?_
              refine lv_iload_n hx hb d7_2_42 rfl (lv_at hl.1 1 rfl) ?_
              obtain ⟨x32, hc, h⟩ := ob h
              refine hS_i (As := [va_rf a0, .int v21]) (rest := []) ⟨hx, hb, hml, hown, hts⟩ (cc_Pointer_isEscape l G Zd K a0 v21 st x32 hc) (kw_S (n := 2) hts k797 k795 k9 k796 (by decide +kernel) ⟨Nat.le_of_ble_eq_true rfl, Nat.le_of_ble_eq_true rfl⟩) hE hw rfl hl.1.1 rfl (c1_8 c1_n (Nat.le_of_ble_eq_true rfl)) d7_2_43 (fun H locs cells slots hw => ?_)
              clear hc
              refine W.eq (g2 := F0 m 46 ls [.int x32]) rfl ?_
              refine lv_if_ne (tgt := 51) hx hb d7_2_46 rfl (fun c35 => ?_) (fun c35 => ?_)
              ·
                replace h := (if_neg c35).symm.trans h
                obtain ⟨y36, hr, h⟩ := ob h
                refine xt_iinc (k := 1) (v := y36) (lv' := [(1, .int y36), (0, va_rf a0)]) hx hb d7_2_51 hl rfl hr (by decide) rfl (fun ls hl => ?_)
                clear hr
                refine lv_goto (tgt := 23) hx hb d7_2_54 rfl ?_
                have hl := lw_sub hl (l' := [(0, va_rf a0), (1, .int y36)]) [1, 0] rfl
                exact ih _ h _ _ _ _ _ hl hw
              ·
                replace h := (if_pos c35).symm.trans h
                refine lv_iconst (v := 0) hx hb d7_2_49 (by decide) ?_
                cases h
                cases hrest
                exact finH_z hQ hx hb hr hlk (by decide) hE hw d7_2_50
      have hl := lw_sub hl (l' := [(0, va_rf a0), (1, .int 0)]) [1, 0] rfl
      exact hloop _ _ hX _ _ _ _ _ hl hw
    ·
      replace h := (if_neg c19).symm.trans h
      refine lv_iconst (v := 0) hx hb d7_2_19 (by decide) ?_
      cases h
      exact finH_z hQ hx hb hr hlk (by decide) hE hw d7_2_20
  ·
    replace h := (if_neg c15).symm.trans h
    refine lv_iconst (v := 1) hx hb d7_2_7 (by decide) ?_
    cases h
    exact finH_z hQ hx hb hr hlk (by decide) hE hw d7_2_8
def c_Pointer_token_l1 (Zd : Nat → Nat) (K : KE) (o : Nat) (a0 : Option Nat) (a2 : Int32) : Nat → (Int32 × Int32 × CS) → Option (Int32 × Int32 × CS)
  | 0, _ => none
  | n9 + 1, e9 => if a2 ≤ e9.2.1 then (some (e9.1, e9.2.1, e9.2.2)) else (a0.bind fun a29z => (isO K e9.2.2 a29z 12).bind fun _ => (c_String_charAt Zd K a29z e9.2.1 e9.2.2).bind fun x30 => (if e9.1 = (0 : Int32) then (if x30 = (126 : Int32) then (some ((1 : Int32), e9.2.2)) else ((gQ K e9.2.2 o 5 0).bind fun x39 => x39.bind fun a40z => (isO K e9.2.2 a40z 2).bind fun _ => (c_StringBuilder_append_C Zd K a40z x30 e9.2.2).bind fun r43 => some (e9.1, r43.2))) else ((gQ K e9.2.2 o 5 0).bind fun x44 => (if x30 = (48 : Int32) then (some (126 : Int32)) else (some (47 : Int32))).bind fun e45 => x44.bind fun a47z => (isO K e9.2.2 a47z 2).bind fun _ => (c_StringBuilder_append_C Zd K a47z e45 e9.2.2).bind fun r50 => some ((0 : Int32), r50.2))).bind fun e33 => (some (e9.2.1 + 1)).bind fun y36 => c_Pointer_token_l1 Zd K o a0 a2 n9 (e33.1, y36, e33.2))
theorem c_Pointer_token_l1_s (Zd : Nat → Nat) (K : KE) (o : Nat) (a0 : Option Nat) (a2 : Int32) (n9 : Nat) (e9 : Int32 × Int32 × CS) : c_Pointer_token_l1 Zd K o a0 a2 (n9 + 1) e9 = (if a2 ≤ e9.2.1 then (some (e9.1, e9.2.1, e9.2.2)) else (a0.bind fun a29z => (isO K e9.2.2 a29z 12).bind fun _ => (c_String_charAt Zd K a29z e9.2.1 e9.2.2).bind fun x30 => (if e9.1 = (0 : Int32) then (if x30 = (126 : Int32) then (some ((1 : Int32), e9.2.2)) else ((gQ K e9.2.2 o 5 0).bind fun x39 => x39.bind fun a40z => (isO K e9.2.2 a40z 2).bind fun _ => (c_StringBuilder_append_C Zd K a40z x30 e9.2.2).bind fun r43 => some (e9.1, r43.2))) else ((gQ K e9.2.2 o 5 0).bind fun x44 => (if x30 = (48 : Int32) then (some (126 : Int32)) else (some (47 : Int32))).bind fun e45 => x44.bind fun a47z => (isO K e9.2.2 a47z 2).bind fun _ => (c_StringBuilder_append_C Zd K a47z e45 e9.2.2).bind fun r50 => some ((0 : Int32), r50.2))).bind fun e33 => (some (e9.2.1 + 1)).bind fun y36 => c_Pointer_token_l1 Zd K o a0 a2 n9 (e33.1, y36, e33.2))) := rfl
def c_Pointer_token (Zd : Nat → Nat) (K : KE) (o : Nat) (a0 : Option Nat) (a1 : Int32) (a2 : Int32) (st : CS) : Option (Option Nat × CS) := (gQ K st o 5 0).bind fun x11 => x11.bind fun a12z => (isO K st a12z 2).bind fun _ => (c_StringBuilder_setLength Zd K a12z (0 : Int32) st).bind fun st14 => (c_Pointer_token_l1 Zd K o a0 a2 4096 ((0 : Int32), a1, st14)).bind fun e16 => (gQ K e16.2.2 o 5 0).bind fun x23 => x23.bind fun a24z => (isO K e16.2.2 a24z 2).bind fun _ => (c_StringBuilder_toString Zd K a24z e16.2.2).bind fun r27 => some (r27.1, r27.2)
set_option maxHeartbeats 4000000 in
set_option maxRecDepth 100000 in
theorem cc_Pointer_token (l : Launch) (G : Gk) (Zd : Nat → Nat) (K : KE) (o : Nat) (a0 : Option Nat) (a1 : Int32) (a2 : Int32) (st : CS) (r0 : Option Nat) (st0 : CS) (hm : c_Pointer_token Zd K o a0 a1 a2 st = some (r0, st0)) : CT l y7_6 prog_7_method_6_code 7 (some (.object "java/lang/String")) G Zd K (6) [.ref o, va_rf a0, .int a1, .int a2] st (hQ G Zd r0 st0) := by
  refine goH (d := 6) (y := y7_6) (cc := prog_7_method_6_code) (maxL := 7) (ret := (some (.object "java/lang/String"))) (av := [.ref o, va_rf a0, .int a1, .int a2]) (Qc := hQ G Zd r0 st0) "PagedValues$Pointer" rfl (by decide) (c1_c rfl (c1_c (rf_cat _) (c1_c rfl (c1_c rfl c1_n)))) (Nat.le_of_ble_eq_true rfl) ?_
  intro p e s m below meth c ls A args Q hQ hx hb hr hlk hml hown hts hin hl hE hw
  have hl : lw ls 7 [(0, .ref o), (1, va_rf a0), (2, .int a1), (3, .int a2)] := hl
  have hZ := hE.2.2.1
  have h := hm
  clear hm
  refine lv_aload_n hx hb d7_6_0 rfl (lv_at hl.1 0 rfl) ?_
  obtain ⟨x11, hr, h⟩ := ob h
  refine xg_q (ci := 5) (C := r_5) (T := f_5) (N := 1) (ref := "PagedValues$Pointer") hx hb hts (fun w h => List.mem_cons_of_mem _ (ly_5 w h)) hown hE hw rfl 0 (by decide) (hts _ (List.mem_cons_of_mem _ k118)) (fun _ h9 => h9) hr d7_6_1 ?_
  clear hr
  refine lv_iconst (v := 0) hx hb d7_6_4 (by decide) ?_
  obtain ⟨a12z, hn12, h⟩ := ob h
  have hn12 : x11 = some a12z := hn12
  refine W.eq (g2 := F0 m 5 ls [.int 0, .ref a12z]) (by rw [hn12]; rfl) ?_
  obtain ⟨u9, ho, h⟩ := ob h
  obtain ⟨st14, hc, h⟩ := ob h
  refine hV_v (ci := 2) (As := [.int 0]) (rest := []) ⟨hx, hb, hml, hown, hts⟩ (cc_StringBuilder_setLength l G Zd K a12z (0 : Int32) st st14 hc) (kw_V (n := 1) hts k398 k814 k4 k396 k397 (by decide +kernel) ⟨Nat.le_of_ble_eq_true rfl, Nat.le_of_ble_eq_true rfl⟩) hE hw rfl rfl ho rfl hl.1.1 rfl (c1_8 c1_n (Nat.le_of_ble_eq_true rfl)) d7_6_5 (fun H locs cells slots hw => ?_)
  clear hc ho u9
  refine W.eq (g2 := F0 m 8 ls []) rfl ?_
  refine lv_iconst (v := 0) hx hb d7_6_8 (by decide) ?_
  refine xt_istore (x := 0) (lv' := [(4, .int 0), (0, .ref o), (1, va_rf a0), (2, .int a1), (3, .int a2)]) hx hb d7_6_9 hl (by decide) rfl (fun ls hl => ?_)
  refine lv_iload_n hx hb d7_6_11 rfl (lv_at hl.1 3 rfl) ?_
  refine xt_istore (x := a1) (lv' := [(5, .int a1), (4, .int 0), (0, .ref o), (1, va_rf a0), (2, .int a1), (3, .int a2)]) hx hb d7_6_12 hl (by decide) rfl (fun ls hl => ?_)
  obtain ⟨e16, hX, hrest⟩ := ob h
  clear h
  have hj : ∀ (v20 : Int32) (v21 : Int32) (v22 : CS), e16 = (v20, v21, v22) → ∀ (H : Heap) (locs : List Loc) (cells slots : Nat) (ls : Array Slot), lw ls 7 [(0, .ref o), (1, va_rf a0), (2, .int a1), (3, .int a2), (4, .int v20), (5, .int v21)] → wsH G Zd A s v22 H locs → W p l e (rmH Zd (6) st.1) s m args below meth c H locs cells slots Q (F0 m 90 ls []) := by
    intro v20 v21 v22 he H locs cells slots ls hl hw
    subst e16
    have h := hrest
    clear hrest
    refine lv_aload_n hx hb d7_6_90 rfl (lv_at hl.1 0 rfl) ?_
    obtain ⟨x23, hr, h⟩ := ob h
    refine xg_q (ci := 5) (C := r_5) (T := f_5) (N := 1) (ref := "PagedValues$Pointer") hx hb hts (fun w h => List.mem_cons_of_mem _ (ly_5 w h)) hown hE hw rfl 0 (by decide) (hts _ (List.mem_cons_of_mem _ k118)) (fun _ h9 => h9) hr d7_6_91 ?_
    clear hr
    obtain ⟨a24z, hn24, h⟩ := ob h
    have hn24 : x23 = some a24z := hn24
    refine W.eq (g2 := F0 m 94 ls [.ref a24z]) (by rw [hn24]; rfl) ?_
    obtain ⟨u9, ho, h⟩ := ob h
    obtain ⟨⟨x25, st26⟩, hc, h⟩ := ob h
    refine hV_q (ci := 2) (As := []) (rest := []) ⟨hx, hb, hml, hown, hts⟩ (cc_StringBuilder_toString l G Zd K a24z v22 x25 st26 hc) (kw_V (n := 0) hts k460 k816 k4 k458 k459 (by decide +kernel) ⟨Nat.le_of_ble_eq_true rfl, Nat.le_of_ble_eq_true rfl⟩) hE hw rfl rfl ho rfl hl.1.1 rfl (c1_8 c1_n (Nat.le_of_ble_eq_true rfl)) d7_6_94 (fun H locs cells slots hw => ?_)
    clear hc ho u9
    refine W.eq (g2 := F0 m 97 ls [va_rf x25]) rfl ?_
    cases h
    exact finH_q hQ hx hb hr hlk rfl (Or.inl ⟨_, rfl⟩) hE hw d7_6_97
  have hloop : ∀ (n9 : Nat) (v17 : Int32) (v18 : Int32) (v19 : CS), c_Pointer_token_l1 Zd K o a0 a2 n9 (v17, v18, v19) = some e16 → ∀ (H : Heap) (locs : List Loc) (cells slots : Nat) (ls : Array Slot), lw ls 7 [(0, .ref o), (1, va_rf a0), (2, .int a1), (3, .int a2), (4, .int v17), (5, .int v18)] → wsH G Zd A s v19 H locs → W p l e (rmH Zd (6) st.1) s m args below meth c H locs cells slots Q (F0 m 14 ls []) := by
    intro n9
    induction n9 with
    | zero =>
      intro v17 v18 v19 h
      cases h
    | succ n9 ih =>
      intro v17 v18 v19 h H locs cells slots ls hl hw
      replace h := (c_Pointer_token_l1_s Zd K o a0 a2 n9 (v17, v18, v19)).symm.trans h
      refine lv_iload hx hb d7_6_14 (lv_at hl.1 5 rfl) ?_
      refine lv_iload_n hx hb d7_6_16 rfl (lv_at hl.1 3 rfl) ?_
      refine lv_icmp_ge (tgt := 90) hx hb d7_6_17 rfl (fun c28 => ?_) (fun c28 => ?_)
      ·
        replace h := (if_pos c28).symm.trans h
        have e9 := Option.some.inj h
        subst e16
        have hl := lw_sub hl (l' := [(0, .ref o), (1, va_rf a0), (2, .int a1), (3, .int a2), (4, .int v17), (5, .int v18)]) [0, 1, 2, 3, 4, 5] rfl
        exact hj _ _ _ rfl _ _ _ _ _ hl hw
      ·
        replace h := (if_neg c28).symm.trans h
        refine xq_aload_n (r := a0) hx hb d7_6_20 rfl (lv_at hl.1 1 rfl) ?_
        refine lv_iload hx hb d7_6_21 (lv_at hl.1 5 rfl) ?_
        obtain ⟨a29z, hn29, h⟩ := ob h
        have hn29 : a0 = some a29z := hn29
        refine W.eq (g2 := F0 m 23 ls [.int v18, .ref a29z]) (by rw [hn29]; rfl) ?_
        obtain ⟨u9, ho, h⟩ := ob h
        obtain ⟨x30, hc, h⟩ := ob h
        refine hV_i (ci := 12) (As := [.int v18]) (rest := []) ⟨hx, hb, hml, hown, hts⟩ (cc_String_charAt l G Zd K a29z v18 v19 x30 hc) (kw_V (n := 1) hts k636 k793 k5 k634 k635 (by decide +kernel) ⟨Nat.le_of_ble_eq_true rfl, Nat.le_of_ble_eq_true rfl⟩) hE hw rfl rfl ho rfl hl.1.1 rfl (c1_8 c1_n (Nat.le_of_ble_eq_true rfl)) d7_6_23 (fun H locs cells slots hw => ?_)
        clear hc ho u9
        refine W.eq (g2 := F0 m 26 ls [.int x30]) rfl ?_
        refine xt_istore (x := x30) (lv' := [(6, .int x30), (0, .ref o), (1, va_rf a0), (2, .int a1), (3, .int a2), (4, .int v17), (5, .int v18)]) hx hb d7_6_26 hl (by decide) rfl (fun ls hl => ?_)
        refine lv_iload hx hb d7_6_28 (lv_at hl.1 5 rfl) ?_
        obtain ⟨e33, hX, h⟩ := ob h
        obtain ⟨v34, v35⟩ := e33
        have hj : ∀ (H : Heap) (locs : List Loc) (cells slots : Nat) (ls : Array Slot), lw ls 7 [(0, .ref o), (1, va_rf a0), (2, .int a1), (3, .int a2), (4, .int v34), (5, .int v18), (6, .int x30)] → wsH G Zd A s v35 H locs → W p l e (rmH Zd (6) st.1) s m args below meth c H locs cells slots Q (F0 m 84 ls []) := by
          intro H locs cells slots ls hl hw
          obtain ⟨y36, hr, h⟩ := ob h
          refine xt_iinc (k := 5) (v := y36) (lv' := [(5, .int y36), (0, .ref o), (1, va_rf a0), (2, .int a1), (3, .int a2), (4, .int v34), (6, .int x30)]) hx hb d7_6_84 hl rfl hr (by decide) rfl (fun ls hl => ?_)
          clear hr
          refine lv_goto (tgt := 14) hx hb d7_6_87 rfl ?_
          have hl := lw_sub hl (l' := [(0, .ref o), (1, va_rf a0), (2, .int a1), (3, .int a2), (4, .int v34), (5, .int y36)]) [1, 2, 3, 4, 5, 0] rfl
          exact ih _ _ _ h _ _ _ _ _ hl hw
        clear h
        refine lv_if_eq (tgt := 61) hx hb d7_6_30 rfl (fun c37 => ?_) (fun c37 => ?_)
        ·
          replace h := (if_pos c37).symm.trans hX
          refine lv_iload hx hb d7_6_61 (lv_at hl.1 0 rfl) ?_
          refine lv_bipush (v := 126) hx hb d7_6_63 (by decide) ?_
          refine lv_icmp_ne (tgt := 74) hx hb d7_6_65 rfl (fun c38 => ?_) (fun c38 => ?_)
          ·
            replace h := (if_neg c38).symm.trans h
            refine lv_aload_n hx hb d7_6_74 rfl (lv_at hl.1 1 rfl) ?_
            obtain ⟨x39, hr, h⟩ := ob h
            refine xg_q (ci := 5) (C := r_5) (T := f_5) (N := 1) (ref := "PagedValues$Pointer") hx hb hts (fun w h => List.mem_cons_of_mem _ (ly_5 w h)) hown hE hw rfl 0 (by decide) (hts _ (List.mem_cons_of_mem _ k118)) (fun _ h9 => h9) hr d7_6_75 ?_
            clear hr
            refine lv_iload hx hb d7_6_78 (lv_at hl.1 0 rfl) ?_
            obtain ⟨a40z, hn40, h⟩ := ob h
            have hn40 : x39 = some a40z := hn40
            refine W.eq (g2 := F0 m 80 ls [.int x30, .ref a40z]) (by rw [hn40]; rfl) ?_
            obtain ⟨u9, ho, h⟩ := ob h
            obtain ⟨⟨x41, st42⟩, hc, h⟩ := ob h
            refine hV_q (ci := 2) (As := [.int x30]) (rest := []) ⟨hx, hb, hml, hown, hts⟩ (cc_StringBuilder_append_C l G Zd K a40z x30 v19 x41 st42 hc) (kw_V (n := 1) hts k545 k815 k4 k543 k544 (by decide +kernel) ⟨Nat.le_of_ble_eq_true rfl, Nat.le_of_ble_eq_true rfl⟩) hE hw rfl rfl ho rfl hl.1.1 rfl (c1_8 c1_n (Nat.le_of_ble_eq_true rfl)) d7_6_80 (fun H locs cells slots hw => ?_)
            clear hc ho u9
            refine W.eq (g2 := F0 m 83 ls [va_rf x41]) rfl ?_
            refine lv_pop hx hb d7_6_83 (rf_cat _) ?_
            have e9_0 := Option.some.inj h
            obtain ⟨q9, e9_1⟩ := Prod.mk.inj e9_0
            clear e9_0
            subst v34
            subst v35
            have hl := lw_sub hl (l' := [(0, .ref o), (1, va_rf a0), (2, .int a1), (3, .int a2), (4, .int v17), (5, .int v18), (6, .int x30)]) [1, 2, 3, 4, 5, 6, 0] rfl
            exact hj _ _ _ _ _ hl hw
          ·
            replace h := (if_pos c38).symm.trans h
            refine lv_iconst (v := 1) hx hb d7_6_68 (by decide) ?_
            refine xt_istore (x := 1) (lv' := [(4, .int 1), (6, .int x30), (0, .ref o), (1, va_rf a0), (2, .int a1), (3, .int a2), (5, .int v18)]) hx hb d7_6_69 hl (by decide) rfl (fun ls hl => ?_)
            refine lv_goto (tgt := 84) hx hb d7_6_71 rfl ?_
            have e9_0 := Option.some.inj h
            obtain ⟨q9, e9_1⟩ := Prod.mk.inj e9_0
            clear e9_0
            subst v34
            subst v35
            have hl := lw_sub hl (l' := [(0, .ref o), (1, va_rf a0), (2, .int a1), (3, .int a2), (4, .int 1), (5, .int v18), (6, .int x30)]) [2, 3, 4, 5, 0, 6, 1] rfl
            exact hj _ _ _ _ _ hl hw
        ·
          replace h := (if_neg c37).symm.trans hX
          refine lv_aload_n hx hb d7_6_33 rfl (lv_at hl.1 1 rfl) ?_
          obtain ⟨x44, hr, h⟩ := ob h
          refine xg_q (ci := 5) (C := r_5) (T := f_5) (N := 1) (ref := "PagedValues$Pointer") hx hb hts (fun w h => List.mem_cons_of_mem _ (ly_5 w h)) hown hE hw rfl 0 (by decide) (hts _ (List.mem_cons_of_mem _ k118)) (fun _ h9 => h9) hr d7_6_34 ?_
          clear hr
          refine lv_iload hx hb d7_6_37 (lv_at hl.1 0 rfl) ?_
          refine lv_bipush (v := 48) hx hb d7_6_39 (by decide) ?_
          obtain ⟨e45, hX, h⟩ := ob h
          have hj : ∀ (H : Heap) (locs : List Loc) (cells slots : Nat) (ls : Array Slot), lw ls 7 [(0, .ref o), (1, va_rf a0), (2, .int a1), (3, .int a2), (4, .int v17), (5, .int v18), (6, .int x30)] → wsH G Zd A s v19 H locs → W p l e (rmH Zd (6) st.1) s m args below meth c H locs cells slots Q (F0 m 51 ls [.int e45, va_rf x44]) := by
            intro H locs cells slots ls hl hw
            obtain ⟨a47z, hn47, h⟩ := ob h
            have hn47 : x44 = some a47z := hn47
            refine W.eq (g2 := F0 m 51 ls [.int e45, .ref a47z]) (by rw [hn47]; rfl) ?_
            obtain ⟨u9, ho, h⟩ := ob h
            obtain ⟨⟨x48, st49⟩, hc, h⟩ := ob h
            refine hV_q (ci := 2) (As := [.int e45]) (rest := []) ⟨hx, hb, hml, hown, hts⟩ (cc_StringBuilder_append_C l G Zd K a47z e45 v19 x48 st49 hc) (kw_V (n := 1) hts k545 k815 k4 k543 k544 (by decide +kernel) ⟨Nat.le_of_ble_eq_true rfl, Nat.le_of_ble_eq_true rfl⟩) hE hw rfl rfl ho rfl hl.1.1 rfl (c1_8 c1_n (Nat.le_of_ble_eq_true rfl)) d7_6_51 (fun H locs cells slots hw => ?_)
            clear hc ho u9
            refine W.eq (g2 := F0 m 54 ls [va_rf x48]) rfl ?_
            refine lv_pop hx hb d7_6_54 (rf_cat _) ?_
            refine lv_iconst (v := 0) hx hb d7_6_55 (by decide) ?_
            refine xt_istore (x := 0) (lv' := [(4, .int 0), (0, .ref o), (1, va_rf a0), (2, .int a1), (3, .int a2), (5, .int v18), (6, .int x30)]) hx hb d7_6_56 hl (by decide) rfl (fun ls hl => ?_)
            refine lv_goto (tgt := 84) hx hb d7_6_58 rfl ?_
            have e9_0 := Option.some.inj h
            obtain ⟨q9, e9_1⟩ := Prod.mk.inj e9_0
            clear e9_0
            subst v34
            subst v35
            have hl := lw_sub hl (l' := [(0, .ref o), (1, va_rf a0), (2, .int a1), (3, .int a2), (4, .int 0), (5, .int v18), (6, .int x30)]) [1, 2, 3, 4, 0, 5, 6] rfl
            exact hj _ _ _ _ _ hl hw
          clear h
          refine lv_icmp_ne (tgt := 49) hx hb d7_6_41 rfl (fun c51 => ?_) (fun c51 => ?_)
          ·
            replace h := (if_neg c51).symm.trans hX
            refine lv_bipush (v := 47) hx hb d7_6_49 (by decide) ?_
            have e9 := Option.some.inj h
            subst e45
            have hl := lw_sub hl (l' := [(0, .ref o), (1, va_rf a0), (2, .int a1), (3, .int a2), (4, .int v17), (5, .int v18), (6, .int x30)]) [1, 2, 3, 4, 5, 6, 0] rfl
            exact hj _ _ _ _ _ hl hw
          ·
            replace h := (if_pos c51).symm.trans hX
            refine lv_bipush (v := 126) hx hb d7_6_44 (by decide) ?_
            refine lv_goto (tgt := 51) hx hb d7_6_46 rfl ?_
            have e9 := Option.some.inj h
            subst e45
            have hl := lw_sub hl (l' := [(0, .ref o), (1, va_rf a0), (2, .int a1), (3, .int a2), (4, .int v17), (5, .int v18), (6, .int x30)]) [1, 2, 3, 4, 5, 6, 0] rfl
            exact hj _ _ _ _ _ hl hw
  have hl := lw_sub hl (l' := [(0, .ref o), (1, va_rf a0), (2, .int a1), (3, .int a2), (4, .int 0), (5, .int a1)]) [2, 3, 4, 5, 1, 0] rfl
  exact hloop _ _ _ _ hX _ _ _ _ _ hl hw
def c_Pointer_index_l1 (Zd : Nat → Nat) (K : KE) (st : CS) (a11z : Nat) (x12 : Int32) : Nat → (Int32 × Int32) → Option ((Int32) ⊕ (Int32 × Int32))
  | 0, _ => none
  | n9 + 1, e9 => if x12 ≤ e9.2 then (some (.inr (e9.1, e9.2))) else ((isO K st a11z 12).bind fun _ => (c_String_charAt Zd K a11z e9.2 st).bind fun x24 => (c_Text_isDigit Zd K x24 st).bind fun x27 => if x27 = (0 : Int32) then (some (.inl ((-1) : Int32))) else ((some (e9.1 * (10 : Int32))).bind fun y31 => (some (x24 - (48 : Int32))).bind fun y32 => (some (y31 + y32)).bind fun y33 => (some (e9.2 + 1)).bind fun y34 => c_Pointer_index_l1 Zd K st a11z x12 n9 (y33, y34)))
theorem c_Pointer_index_l1_s (Zd : Nat → Nat) (K : KE) (st : CS) (a11z : Nat) (x12 : Int32) (n9 : Nat) (e9 : Int32 × Int32) : c_Pointer_index_l1 Zd K st a11z x12 (n9 + 1) e9 = (if x12 ≤ e9.2 then (some (.inr (e9.1, e9.2))) else ((isO K st a11z 12).bind fun _ => (c_String_charAt Zd K a11z e9.2 st).bind fun x24 => (c_Text_isDigit Zd K x24 st).bind fun x27 => if x27 = (0 : Int32) then (some (.inl ((-1) : Int32))) else ((some (e9.1 * (10 : Int32))).bind fun y31 => (some (x24 - (48 : Int32))).bind fun y32 => (some (y31 + y32)).bind fun y33 => (some (e9.2 + 1)).bind fun y34 => c_Pointer_index_l1 Zd K st a11z x12 n9 (y33, y34)))) := rfl
def c_Pointer_index_l2 (Zd : Nat → Nat) (K : KE) (st : CS) (a11z : Nat) (x12 : Int32) : Nat → (Int32 × Int32) → Option ((Int32) ⊕ (Int32 × Int32))
  | 0, _ => none
  | n9 + 1, e9 => if x12 ≤ e9.2 then (some (.inr (e9.1, e9.2))) else ((isO K st a11z 12).bind fun _ => (c_String_charAt Zd K a11z e9.2 st).bind fun x45 => (c_Text_isDigit Zd K x45 st).bind fun x48 => if x48 = (0 : Int32) then (some (.inl ((-1) : Int32))) else ((some (e9.1 * (10 : Int32))).bind fun y52 => (some (x45 - (48 : Int32))).bind fun y53 => (some (y52 + y53)).bind fun y54 => (some (e9.2 + 1)).bind fun y55 => c_Pointer_index_l2 Zd K st a11z x12 n9 (y54, y55)))
theorem c_Pointer_index_l2_s (Zd : Nat → Nat) (K : KE) (st : CS) (a11z : Nat) (x12 : Int32) (n9 : Nat) (e9 : Int32 × Int32) : c_Pointer_index_l2 Zd K st a11z x12 (n9 + 1) e9 = (if x12 ≤ e9.2 then (some (.inr (e9.1, e9.2))) else ((isO K st a11z 12).bind fun _ => (c_String_charAt Zd K a11z e9.2 st).bind fun x45 => (c_Text_isDigit Zd K x45 st).bind fun x48 => if x48 = (0 : Int32) then (some (.inl ((-1) : Int32))) else ((some (e9.1 * (10 : Int32))).bind fun y52 => (some (x45 - (48 : Int32))).bind fun y53 => (some (y52 + y53)).bind fun y54 => (some (e9.2 + 1)).bind fun y55 => c_Pointer_index_l2 Zd K st a11z x12 n9 (y54, y55)))) := rfl
def c_Pointer_index (Zd : Nat → Nat) (K : KE) (a0 : Option Nat) (st : CS) : Option (Int32) := a0.bind fun a11z => (isO K st a11z 12).bind fun _ => (c_String_length Zd K a11z st).bind fun x12 => if x12 = (0 : Int32) then (some ((-1) : Int32)) else (if (10 : Int32) ≤ x12 then (some ((-1) : Int32)) else (if x12 ≤ (1 : Int32) then ((c_Pointer_index_l1 Zd K st a11z x12 4096 ((0 : Int32), (0 : Int32))).bind fun e18 => match e18 with | .inl o9 => some o9 | .inr e8 => some e8.1) else ((isO K st a11z 12).bind fun _ => (c_String_charAt Zd K a11z (0 : Int32) st).bind fun x35 => if x35 = (48 : Int32) then (some ((-1) : Int32)) else ((c_Pointer_index_l2 Zd K st a11z x12 4096 ((0 : Int32), (0 : Int32))).bind fun e39 => match e39 with | .inl o9 => some o9 | .inr e8 => some e8.1))))
set_option maxHeartbeats 4000000 in
set_option maxRecDepth 100000 in
theorem cc_Pointer_index (l : Launch) (G : Gk) (Zd : Nat → Nat) (K : KE) (a0 : Option Nat) (st : CS) (r0 : Int32) (hm : c_Pointer_index Zd K a0 st = some r0) : CT l y7_7 prog_7_method_7_code 5 (some .int) G Zd K (4) [va_rf a0] st (hI G Zd r0 st) := by
  refine goH (d := 4) (y := y7_7) (cc := prog_7_method_7_code) (maxL := 5) (ret := (some .int)) (av := [va_rf a0]) (Qc := hI G Zd r0 st) "PagedValues$Pointer" rfl (by decide) (c1_c (rf_cat _) c1_n) (Nat.le_of_ble_eq_true rfl) ?_
  intro p e s m below meth c ls A args Q hQ hx hb hr hlk hml hown hts hin hl hE hw
  have hl : lw ls 5 [(0, va_rf a0)] := hl
  have hZ := hE.2.2.1
  have h := hm
  clear hm
  refine xq_aload_n (r := a0) hx hb d7_7_0 rfl (lv_at hl.1 0 rfl) ?_
  obtain ⟨a11z, hn11, h⟩ := ob h
  have hn11 : a0 = some a11z := hn11
  refine W.eq (g2 := F0 m 1 ls [.ref a11z]) (by rw [hn11]; rfl) ?_
  obtain ⟨u9, ho, h⟩ := ob h
  obtain ⟨x12, hc, h⟩ := ob h
  refine hV_i (ci := 12) (As := []) (rest := []) ⟨hx, hb, hml, hown, hts⟩ (cc_String_length l G Zd K a11z st x12 hc) (kw_V (n := 0) hts k628 k794 k5 k626 k627 (by decide +kernel) ⟨Nat.le_of_ble_eq_true rfl, Nat.le_of_ble_eq_true rfl⟩) hE hw rfl rfl ho rfl hl.1.1 rfl (c1_8 c1_n (Nat.le_of_ble_eq_true rfl)) d7_7_1 (fun H locs cells slots hw => ?_)
  clear hc ho u9
  refine W.eq (g2 := F0 m 4 ls [.int x12]) rfl ?_
  refine xt_istore_n (x := x12) (lv' := [(1, .int x12), (0, va_rf a0)]) hx hb d7_7_4 rfl hl (by decide) rfl (fun ls hl => ?_)
  refine lv_iload_n hx hb d7_7_5 rfl (lv_at hl.1 0 rfl) ?_
  refine lv_if_eq (tgt := 30) hx hb d7_7_6 rfl (fun c15 => ?_) (fun c15 => ?_)
  ·
    replace h := (if_pos c15).symm.trans h
    refine lv_iconst (v := (-1)) hx hb d7_7_30 (by decide) ?_
    cases h
    exact finH_i hQ hx hb hr hlk hE hw d7_7_31
  ·
    replace h := (if_neg c15).symm.trans h
    refine lv_iload_n hx hb d7_7_9 rfl (lv_at hl.1 0 rfl) ?_
    refine lv_bipush (v := 10) hx hb d7_7_10 (by decide) ?_
    refine lv_icmp_ge (tgt := 30) hx hb d7_7_12 rfl (fun c16 => ?_) (fun c16 => ?_)
    ·
      replace h := (if_pos c16).symm.trans h
      refine lv_iconst (v := (-1)) hx hb d7_7_30 (by decide) ?_
      cases h
      exact finH_i hQ hx hb hr hlk hE hw d7_7_31
    ·
      replace h := (if_neg c16).symm.trans h
      refine lv_iload_n hx hb d7_7_15 rfl (lv_at hl.1 0 rfl) ?_
      refine lv_iconst (v := 1) hx hb d7_7_16 (by decide) ?_
      refine lv_icmp_le (tgt := 32) hx hb d7_7_17 rfl (fun c17 => ?_) (fun c17 => ?_)
      ·
        replace h := (if_pos c17).symm.trans h
        refine lv_iconst (v := 0) hx hb d7_7_32 (by decide) ?_
        refine xt_istore_n (x := 0) (lv' := [(2, .int 0), (1, .int x12), (0, va_rf a0)]) hx hb d7_7_33 rfl hl (by decide) rfl (fun ls hl => ?_)
        refine lv_iconst (v := 0) hx hb d7_7_34 (by decide) ?_
        refine xt_istore_n (x := 0) (lv' := [(3, .int 0), (2, .int 0), (1, .int x12), (0, va_rf a0)]) hx hb d7_7_35 rfl hl (by decide) rfl (fun ls hl => ?_)
        obtain ⟨e18, hX, hrest⟩ := ob h
        clear h
        have hj : ∀ (v21 : Int32) (v22 : Int32), e18 = .inr (v21, v22) → ∀ (H : Heap) (locs : List Loc) (cells slots : Nat) (ls : Array Slot), lw ls 5 [(0, va_rf a0), (1, .int x12), (2, .int v21), (3, .int v22)] → wsH G Zd A s st H locs → W p l e (rmH Zd (4) st.1) s m args below meth c H locs cells slots Q (F0 m 75 ls []) := by
          intro v21 v22 he H locs cells slots ls hl hw
          subst e18
          have h := hrest
          clear hrest
          refine lv_iload_n hx hb d7_7_75 rfl (lv_at hl.1 2 rfl) ?_
          cases h
          exact finH_i hQ hx hb hr hlk hE hw d7_7_76
        have hloop : ∀ (n9 : Nat) (v19 : Int32) (v20 : Int32), c_Pointer_index_l1 Zd K st a11z x12 n9 (v19, v20) = some e18 → ∀ (H : Heap) (locs : List Loc) (cells slots : Nat) (ls : Array Slot), lw ls 5 [(0, va_rf a0), (1, .int x12), (2, .int v19), (3, .int v20)] → wsH G Zd A s st H locs → W p l e (rmH Zd (4) st.1) s m args below meth c H locs cells slots Q (F0 m 36 ls []) := by
          intro n9
          induction n9 with
          | zero =>
            intro v19 v20 h
            cases h
          | succ n9 ih =>
            intro v19 v20 h H locs cells slots ls hl hw
            replace h := (c_Pointer_index_l1_s Zd K st a11z x12 n9 (v19, v20)).symm.trans h
            refine lv_iload_n hx hb d7_7_36 rfl (lv_at hl.1 3 rfl) ?_
            refine lv_iload_n hx hb d7_7_37 rfl (lv_at hl.1 1 rfl) ?_
            refine lv_icmp_ge (tgt := 75) hx hb d7_7_38 rfl (fun c23 => ?_) (fun c23 => ?_)
            ·
              replace h := (if_pos c23).symm.trans h
              have e9 := Option.some.inj h
              subst e18
              have hl := lw_sub hl (l' := [(0, va_rf a0), (1, .int x12), (2, .int v19), (3, .int v20)]) [0, 1, 2, 3] rfl
              exact hj _ _ rfl _ _ _ _ _ hl hw
            ·
              replace h := (if_neg c23).symm.trans h
              refine xq_aload_n (r := a0) hx hb d7_7_41 rfl (lv_at hl.1 0 rfl) ?_
              refine lv_iload_n hx hb d7_7_42 rfl (lv_at hl.1 3 rfl) ?_
              refine W.eq (g2 := F0 m 43 ls [.int v20, .ref a11z]) (by rw [hn11]; rfl) ?_
              obtain ⟨u9, ho, h⟩ := ob h
              obtain ⟨x24, hc, h⟩ := ob h
              refine hV_i (ci := 12) (As := [.int v20]) (rest := []) ⟨hx, hb, hml, hown, hts⟩ (cc_String_charAt l G Zd K a11z v20 st x24 hc) (kw_V (n := 1) hts k636 k793 k5 k634 k635 (by decide +kernel) ⟨Nat.le_of_ble_eq_true rfl, Nat.le_of_ble_eq_true rfl⟩) hE hw rfl rfl ho rfl hl.1.1 rfl (c1_8 c1_n (Nat.le_of_ble_eq_true rfl)) d7_7_43 (fun H locs cells slots hw => ?_)
              clear hc ho u9
              refine W.eq (g2 := F0 m 46 ls [.int x24]) rfl ?_
              refine xt_istore (x := x24) (lv' := [(4, .int x24), (0, va_rf a0), (1, .int x12), (2, .int v19), (3, .int v20)]) hx hb d7_7_46 hl (by decide) rfl (fun ls hl => ?_)
              refine lv_iload hx hb d7_7_48 (lv_at hl.1 0 rfl) ?_
              obtain ⟨x27, hc, h⟩ := ob h
              refine hS_i (As := [.int x24]) (rest := []) ⟨hx, hb, hml, hown, hts⟩ (cc_Text_isDigit l G Zd K x24 st x27 hc) (kw_S (n := 1) hts k664 k822 k2 k663 (by decide +kernel) ⟨Nat.le_of_ble_eq_true rfl, Nat.le_of_ble_eq_true rfl⟩) hE hw rfl hl.1.1 rfl (c1_8 c1_n (Nat.le_of_ble_eq_true rfl)) d7_7_50 (fun H locs cells slots hw => ?_)
              clear hc
              refine W.eq (g2 := F0 m 53 ls [.int x27]) rfl ?_
              refine lv_if_ne (tgt := 58) hx hb d7_7_53 rfl (fun c30 => ?_) (fun c30 => ?_)
              ·
                replace h := (if_neg c30).symm.trans h
                refine lv_iload_n hx hb d7_7_58 rfl (lv_at hl.1 3 rfl) ?_
                refine lv_bipush (v := 10) hx hb d7_7_59 (by decide) ?_
                refine lv_imul hx hb d7_7_61 ?_
                obtain ⟨y31, hr, h⟩ := ob h
                refine lv_topi (fun y9 ey => ?_)
                have e9 := ey.trans (Option.some.inj hr)
                clear ey
                subst y9
                clear hr
                refine lv_iload hx hb d7_7_62 (lv_at hl.1 0 rfl) ?_
                refine lv_bipush (v := 48) hx hb d7_7_64 (by decide) ?_
                refine lv_isub hx hb d7_7_66 ?_
                obtain ⟨y32, hr, h⟩ := ob h
                refine lv_topi (fun y9 ey => ?_)
                have e9 := ey.trans (Option.some.inj hr)
                clear ey
                subst y9
                clear hr
                refine lv_iadd hx hb d7_7_67 ?_
                obtain ⟨y33, hr, h⟩ := ob h
                refine lv_topi (fun y9 ey => ?_)
                have e9 := ey.trans (Option.some.inj hr)
                clear ey
                subst y9
                clear hr
                refine xt_istore_n (x := y33) (lv' := [(2, .int y33), (4, .int x24), (0, va_rf a0), (1, .int x12), (3, .int v20)]) hx hb d7_7_68 rfl hl (by decide) rfl (fun ls hl => ?_)
                obtain ⟨y34, hr, h⟩ := ob h
                refine xt_iinc (k := 4) (v := y34) (lv' := [(3, .int y34), (2, .int y33), (4, .int x24), (0, va_rf a0), (1, .int x12)]) hx hb d7_7_69 hl rfl hr (by decide) rfl (fun ls hl => ?_)
                clear hr
                refine lv_goto (tgt := 36) hx hb d7_7_72 rfl ?_
                have hl := lw_sub hl (l' := [(0, va_rf a0), (1, .int x12), (2, .int y33), (3, .int y34)]) [3, 4, 1, 0] rfl
                exact ih _ _ h _ _ _ _ _ hl hw
              ·
                replace h := (if_pos c30).symm.trans h
                refine lv_iconst (v := (-1)) hx hb d7_7_56 (by decide) ?_
                cases h
                cases hrest
                exact finH_i hQ hx hb hr hlk hE hw d7_7_57
        have hl := lw_sub hl (l' := [(0, va_rf a0), (1, .int x12), (2, .int 0), (3, .int 0)]) [3, 2, 1, 0] rfl
        exact hloop _ _ _ hX _ _ _ _ _ hl hw
      ·
        replace h := (if_neg c17).symm.trans h
        refine xq_aload_n (r := a0) hx hb d7_7_20 rfl (lv_at hl.1 1 rfl) ?_
        refine lv_iconst (v := 0) hx hb d7_7_21 (by decide) ?_
        refine W.eq (g2 := F0 m 22 ls [.int 0, .ref a11z]) (by rw [hn11]; rfl) ?_
        obtain ⟨u9, ho, h⟩ := ob h
        obtain ⟨x35, hc, h⟩ := ob h
        refine hV_i (ci := 12) (As := [.int 0]) (rest := []) ⟨hx, hb, hml, hown, hts⟩ (cc_String_charAt l G Zd K a11z (0 : Int32) st x35 hc) (kw_V (n := 1) hts k636 k793 k5 k634 k635 (by decide +kernel) ⟨Nat.le_of_ble_eq_true rfl, Nat.le_of_ble_eq_true rfl⟩) hE hw rfl rfl ho rfl hl.1.1 rfl (c1_8 c1_n (Nat.le_of_ble_eq_true rfl)) d7_7_22 (fun H locs cells slots hw => ?_)
        clear hc ho u9
        refine W.eq (g2 := F0 m 25 ls [.int x35]) rfl ?_
        refine lv_bipush (v := 48) hx hb d7_7_25 (by decide) ?_
        refine lv_icmp_ne (tgt := 32) hx hb d7_7_27 rfl (fun c38 => ?_) (fun c38 => ?_)
        ·
          replace h := (if_neg c38).symm.trans h
          refine lv_iconst (v := 0) hx hb d7_7_32 (by decide) ?_
          refine xt_istore_n (x := 0) (lv' := [(2, .int 0), (1, .int x12), (0, va_rf a0)]) hx hb d7_7_33 rfl hl (by decide) rfl (fun ls hl => ?_)
          refine lv_iconst (v := 0) hx hb d7_7_34 (by decide) ?_
          refine xt_istore_n (x := 0) (lv' := [(3, .int 0), (2, .int 0), (1, .int x12), (0, va_rf a0)]) hx hb d7_7_35 rfl hl (by decide) rfl (fun ls hl => ?_)
          obtain ⟨e39, hX, hrest⟩ := ob h
          clear h
          have hj : ∀ (v42 : Int32) (v43 : Int32), e39 = .inr (v42, v43) → ∀ (H : Heap) (locs : List Loc) (cells slots : Nat) (ls : Array Slot), lw ls 5 [(0, va_rf a0), (1, .int x12), (2, .int v42), (3, .int v43)] → wsH G Zd A s st H locs → W p l e (rmH Zd (4) st.1) s m args below meth c H locs cells slots Q (F0 m 75 ls []) := by
            intro v42 v43 he H locs cells slots ls hl hw
            subst e39
            have h := hrest
            clear hrest
            refine lv_iload_n hx hb d7_7_75 rfl (lv_at hl.1 2 rfl) ?_
            cases h
            exact finH_i hQ hx hb hr hlk hE hw d7_7_76
          have hloop : ∀ (n9 : Nat) (v40 : Int32) (v41 : Int32), c_Pointer_index_l2 Zd K st a11z x12 n9 (v40, v41) = some e39 → ∀ (H : Heap) (locs : List Loc) (cells slots : Nat) (ls : Array Slot), lw ls 5 [(0, va_rf a0), (1, .int x12), (2, .int v40), (3, .int v41)] → wsH G Zd A s st H locs → W p l e (rmH Zd (4) st.1) s m args below meth c H locs cells slots Q (F0 m 36 ls []) := by
            intro n9
            induction n9 with
            | zero =>
              intro v40 v41 h
              cases h
            | succ n9 ih =>
              intro v40 v41 h H locs cells slots ls hl hw
              replace h := (c_Pointer_index_l2_s Zd K st a11z x12 n9 (v40, v41)).symm.trans h
              refine lv_iload_n hx hb d7_7_36 rfl (lv_at hl.1 3 rfl) ?_
              refine lv_iload_n hx hb d7_7_37 rfl (lv_at hl.1 1 rfl) ?_
              refine lv_icmp_ge (tgt := 75) hx hb d7_7_38 rfl (fun c44 => ?_) (fun c44 => ?_)
              ·
                replace h := (if_pos c44).symm.trans h
                have e9 := Option.some.inj h
                subst e39
                have hl := lw_sub hl (l' := [(0, va_rf a0), (1, .int x12), (2, .int v40), (3, .int v41)]) [0, 1, 2, 3] rfl
                exact hj _ _ rfl _ _ _ _ _ hl hw
              ·
                replace h := (if_neg c44).symm.trans h
                refine xq_aload_n (r := a0) hx hb d7_7_41 rfl (lv_at hl.1 0 rfl) ?_
                refine lv_iload_n hx hb d7_7_42 rfl (lv_at hl.1 3 rfl) ?_
                refine W.eq (g2 := F0 m 43 ls [.int v41, .ref a11z]) (by rw [hn11]; rfl) ?_
                obtain ⟨u9, ho, h⟩ := ob h
                obtain ⟨x45, hc, h⟩ := ob h
                refine hV_i (ci := 12) (As := [.int v41]) (rest := []) ⟨hx, hb, hml, hown, hts⟩ (cc_String_charAt l G Zd K a11z v41 st x45 hc) (kw_V (n := 1) hts k636 k793 k5 k634 k635 (by decide +kernel) ⟨Nat.le_of_ble_eq_true rfl, Nat.le_of_ble_eq_true rfl⟩) hE hw rfl rfl ho rfl hl.1.1 rfl (c1_8 c1_n (Nat.le_of_ble_eq_true rfl)) d7_7_43 (fun H locs cells slots hw => ?_)
                clear hc ho u9
                refine W.eq (g2 := F0 m 46 ls [.int x45]) rfl ?_
                refine xt_istore (x := x45) (lv' := [(4, .int x45), (0, va_rf a0), (1, .int x12), (2, .int v40), (3, .int v41)]) hx hb d7_7_46 hl (by decide) rfl (fun ls hl => ?_)
                refine lv_iload hx hb d7_7_48 (lv_at hl.1 0 rfl) ?_
                obtain ⟨x48, hc, h⟩ := ob h
                refine hS_i (As := [.int x45]) (rest := []) ⟨hx, hb, hml, hown, hts⟩ (cc_Text_isDigit l G Zd K x45 st x48 hc) (kw_S (n := 1) hts k664 k822 k2 k663 (by decide +kernel) ⟨Nat.le_of_ble_eq_true rfl, Nat.le_of_ble_eq_true rfl⟩) hE hw rfl hl.1.1 rfl (c1_8 c1_n (Nat.le_of_ble_eq_true rfl)) d7_7_50 (fun H locs cells slots hw => ?_)
                clear hc
                refine W.eq (g2 := F0 m 53 ls [.int x48]) rfl ?_
                refine lv_if_ne (tgt := 58) hx hb d7_7_53 rfl (fun c51 => ?_) (fun c51 => ?_)
                ·
                  replace h := (if_neg c51).symm.trans h
                  refine lv_iload_n hx hb d7_7_58 rfl (lv_at hl.1 3 rfl) ?_
                  refine lv_bipush (v := 10) hx hb d7_7_59 (by decide) ?_
                  refine lv_imul hx hb d7_7_61 ?_
                  obtain ⟨y52, hr, h⟩ := ob h
                  refine lv_topi (fun y9 ey => ?_)
                  have e9 := ey.trans (Option.some.inj hr)
                  clear ey
                  subst y9
                  clear hr
                  refine lv_iload hx hb d7_7_62 (lv_at hl.1 0 rfl) ?_
                  refine lv_bipush (v := 48) hx hb d7_7_64 (by decide) ?_
                  refine lv_isub hx hb d7_7_66 ?_
                  obtain ⟨y53, hr, h⟩ := ob h
                  refine lv_topi (fun y9 ey => ?_)
                  have e9 := ey.trans (Option.some.inj hr)
                  clear ey
                  subst y9
                  clear hr
                  refine lv_iadd hx hb d7_7_67 ?_
                  obtain ⟨y54, hr, h⟩ := ob h
                  refine lv_topi (fun y9 ey => ?_)
                  have e9 := ey.trans (Option.some.inj hr)
                  clear ey
                  subst y9
                  clear hr
                  refine xt_istore_n (x := y54) (lv' := [(2, .int y54), (4, .int x45), (0, va_rf a0), (1, .int x12), (3, .int v41)]) hx hb d7_7_68 rfl hl (by decide) rfl (fun ls hl => ?_)
                  obtain ⟨y55, hr, h⟩ := ob h
                  refine xt_iinc (k := 4) (v := y55) (lv' := [(3, .int y55), (2, .int y54), (4, .int x45), (0, va_rf a0), (1, .int x12)]) hx hb d7_7_69 hl rfl hr (by decide) rfl (fun ls hl => ?_)
                  clear hr
                  refine lv_goto (tgt := 36) hx hb d7_7_72 rfl ?_
                  have hl := lw_sub hl (l' := [(0, va_rf a0), (1, .int x12), (2, .int y54), (3, .int y55)]) [3, 4, 1, 0] rfl
                  exact ih _ _ h _ _ _ _ _ hl hw
                ·
                  replace h := (if_pos c51).symm.trans h
                  refine lv_iconst (v := (-1)) hx hb d7_7_56 (by decide) ?_
                  cases h
                  cases hrest
                  exact finH_i hQ hx hb hr hlk hE hw d7_7_57
          have hl := lw_sub hl (l' := [(0, va_rf a0), (1, .int x12), (2, .int 0), (3, .int 0)]) [3, 2, 1, 0] rfl
          exact hloop _ _ _ hX _ _ _ _ _ hl hw
        ·
          replace h := (if_pos c38).symm.trans h
          refine lv_iconst (v := (-1)) hx hb d7_7_30 (by decide) ?_
          cases h
          exact finH_i hQ hx hb hr hlk hE hw d7_7_31
