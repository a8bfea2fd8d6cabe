theorem d15_79_0 : decode prog_15_method_79_code 0 = .ok (.iload_n 1, 1) := by decide +kernel
theorem d15_79_1 : decode prog_15_method_79_code 1 = .ok (.iconst 0, 1) := by decide +kernel
theorem d15_79_2 : decode prog_15_method_79_code 2 = .ok (.aload_n 0, 1) := by decide +kernel
theorem d15_79_3 : decode prog_15_method_79_code 3 = .ok (.getfield 383, 3) := by decide +kernel
theorem d15_79_6 : decode prog_15_method_79_code 6 = .ok (.iconst 1, 1) := by decide +kernel
theorem d15_79_7 : decode prog_15_method_79_code 7 = .ok (.isub, 1) := by decide +kernel
theorem d15_79_8 : decode prog_15_method_79_code 8 = .ok (.invokestatic 260, 3) := by decide +kernel
theorem d15_79_11 : decode prog_15_method_79_code 11 = .ok (.ifCond .eq 12, 3) := by decide +kernel
theorem d15_79_23 : decode prog_15_method_79_code 23 = .ok (.iconst (-1), 1) := by decide +kernel
theorem d15_79_14 : decode prog_15_method_79_code 14 = .ok (.aload_n 0, 1) := by decide +kernel
theorem d15_79_15 : decode prog_15_method_79_code 15 = .ok (.getfield 62, 3) := by decide +kernel
theorem d15_79_18 : decode prog_15_method_79_code 18 = .ok (.iload_n 1, 1) := by decide +kernel
theorem d15_79_19 : decode prog_15_method_79_code 19 = .ok (.iaload, 1) := by decide +kernel
theorem d15_79_20 : decode prog_15_method_79_code 20 = .ok (.goto 4, 3) := by decide +kernel
theorem d15_79_24 : decode prog_15_method_79_code 24 = .ok (.ireturn, 1) := by decide +kernel
def y15_79 : MethodName := { cls := "PagedValuesModel", name := "result", desc := "(I)I" }
def m_result (a0 : Int32) (st : MS) : Option (Int32) := (some ((st.1 10) - 1)).bind fun y1 => (m_within a0 (0 : Int32) y1).bind fun x2 => (if x2 = (0 : Int32) then (some ((-1) : Int32)) else ((rd (st.2.2.1 10) 32 a0).bind fun x8 => some x8)).bind fun e6 => some e6
set_option maxHeartbeats 4000000 in
set_option maxRecDepth 100000 in
theorem cm_result (l : Launch) (G : Gk) (Zd : Nat → Nat) (q : Nat → Nat) (a0 : Int32) (st : MS) (r0 : Int32) (hm : m_result a0 st = some r0) (sz : Nat) : Met l y15_79 (Cond.code y15_79 prog_15_method_79_code 2 (some .int) :: TB) (rmD 1 0 0) (va_Pc [.ref (q 0), .int a0] (pcW G Zd (wMs q G.2 st) sz)) (qI G (fun rr (_ : Unit) => rr = r0) (fun _ => (wMs q G.2 st)) (va_A (wMs q G.2 st) sz)) 0 0 (va_A (wMs q G.2 st) sz) := by
  refine go (y := y15_79) (cc := prog_15_method_79_code) (maxL := 2) (ret := (some .int)) (av := [.ref (q 0), .int a0]) (Qc := qI G (fun rr (_ : Unit) => rr = r0) (fun _ => (wMs q G.2 st))) "PagedValuesModel" rfl (by decide) (Nat.le_of_ble_eq_true rfl) ?_
  intro p e s m below meth c ls A hx hb hr hlk hml hown hts hin hl hP hD hK hS hA hZ
  have hl : lv_has ls 2 [(0, .ref (q 0)), (1, .int a0)] := hl
  have h := hm
  clear hm
  refine lv_iload_n hx hb d15_79_0 rfl (lv_at hl 1 rfl) ?_
  refine lv_iconst (v := 0) hx hb d15_79_1 (by decide) ?_
  refine lv_aload_n hx hb d15_79_2 rfl (lv_at hl 0 rfl) ?_
  refine va_get (D := G.1) (ci := 13) (v := .int (st.1 10)) (C := r_13) (T := f_13) (N := 42) (ref := "PagedValuesModel") hx hb hts (fun w h => List.mem_cons_of_mem _ (ly_13 w h)) hown hK hP 0 rfl rfl 28 (by decide) (hts _ (List.mem_cons_of_mem _ k1179)) (fun _ h9 => h9) rfl d15_79_3 ?_
  refine lv_iconst (v := 1) hx hb d15_79_6 (by decide) ?_
  refine lv_isub hx hb d15_79_7 ?_
  obtain ⟨y1, hr, h⟩ := ob h
  refine lv_topi (fun y9 ey => ?_)
  have e9 := ey.trans (Option.some.inj hr)
  clear ey
  subst y9
  clear hr
  obtain ⟨x2, hc, h⟩ := ob h
  refine sS_i (As := [.int a0, .int 0, .int y1]) (rest := []) ⟨hx, hb, hml, hown, hts⟩ (cm_within l G Zd _ a0 (0 : Int32) y1 x2 hc _) (kw_S (n := 3) hts k1289 k1287 k15 k1288 (by decide +kernel) ⟨Nat.le_of_ble_eq_true rfl, Nat.le_of_ble_eq_true rfl⟩) hP hD hK hS hA hZ rfl hl.1 rfl (Nat.le_of_ble_eq_true rfl) d15_79_8 ⟨Nat.le_of_ble_eq_true rfl, Nat.le_of_ble_eq_true rfl⟩ (fun rr u9 H locs hp hP hD hS => ?_)
  clear u9
  subst rr
  clear hc
  refine W.eq (g2 := F0 m 11 ls [.int x2]) rfl ?_
  have hP : va_P G.1 vwCl (wMs q G.2 st) H := hP
  have hD : va_D A (wMs q G.2 st) := hD
  obtain ⟨e6, hX, h⟩ := ob h
  have hj : ∀ (H : Heap) (locs : List Loc) (ls : Array Slot), lv_has ls 2 [(0, .ref (q 0)), (1, .int a0)] → va_P G.1 vwCl (wMs q G.2 st) H → va_D A (wMs q G.2 st) → va_S A s.heap H locs → W p l e (rmD 1 0 0) s m ([.ref (q 0), .int a0] : List Value).toArray below meth c H locs 0 0 (MQ below (qI G (fun rr (_ : Unit) => rr = r0) (fun _ => (wMs q G.2 st)) A) ([.ref (q 0), .int a0] : List Value).toArray s 0 0 A) (F0 m 24 ls [.int e6]) := by
    intro H locs ls hl hP hD hS
    cases h
    exact fin_i hx hb hr hlk hS () rfl hP hD (Nat.le_of_ble_eq_true rfl) (Nat.le_of_ble_eq_true rfl) d15_79_24
  clear h
  refine lv_if_eq (tgt := 23) hx hb d15_79_11 rfl (fun c5 => ?_) (fun c5 => ?_)
  ·
    replace h := (if_pos c5).symm.trans hX
    refine lv_iconst (v := (-1)) hx hb d15_79_23 (by decide) ?_
    have e9 := Option.some.inj h
    subst e6
    have hl := lv_sub hl (l' := [(0, .ref (q 0)), (1, .int a0)]) [0, 1] rfl
    exact hj _ _ _ hl hP hD hS
  ·
    replace h := (if_neg c5).symm.trans hX
    refine lv_aload_n hx hb d15_79_14 rfl (lv_at hl 0 rfl) ?_
    refine va_get (D := G.1) (ci := 13) (v := .ref (q 17)) (C := r_13) (T := f_13) (N := 42) (ref := "PagedValuesModel") hx hb hts (fun w h => List.mem_cons_of_mem _ (ly_13 w h)) hown hK hP 0 rfl rfl 29 (by decide) (hts _ (List.mem_cons_of_mem _ k1180)) (fun _ h9 => h9) rfl d15_79_15 ?_
    refine lv_iload_n hx hb d15_79_18 rfl (lv_at hl 1 rfl) ?_
    obtain ⟨x8, hr, h⟩ := ob h
    obtain ⟨hi, hv⟩ := rd_some hr
    refine va_iald (D := G.1) hx hb hK hP 17 1 rfl rfl (i := a0) hi d15_79_19 ?_
    refine lv_topi (fun y9 ey => ?_)
    have e9 := ey.trans hv
    clear ey
    subst y9
    clear hv hi hr
    refine lv_goto (tgt := 24) hx hb d15_79_20 rfl ?_
    have e9 := Option.some.inj h
    subst e6
    have hl := lv_sub hl (l' := [(0, .ref (q 0)), (1, .int a0)]) [0, 1] rfl
    exact hj _ _ _ hl hP hD hS
theorem d15_86_0 : decode prog_15_method_86_code 0 = .ok (.iload_n 1, 1) := by decide +kernel
theorem d15_86_1 : decode prog_15_method_86_code 1 = .ok (.iconst 0, 1) := by decide +kernel
theorem d15_86_2 : decode prog_15_method_86_code 2 = .ok (.aload_n 0, 1) := by decide +kernel
theorem d15_86_3 : decode prog_15_method_86_code 3 = .ok (.getfield 383, 3) := by decide +kernel
theorem d15_86_6 : decode prog_15_method_86_code 6 = .ok (.iconst 1, 1) := by decide +kernel
theorem d15_86_7 : decode prog_15_method_86_code 7 = .ok (.isub, 1) := by decide +kernel
theorem d15_86_8 : decode prog_15_method_86_code 8 = .ok (.invokestatic 260, 3) := by decide +kernel
theorem d15_86_11 : decode prog_15_method_86_code 11 = .ok (.ifCond .ne 5, 3) := by decide +kernel
theorem d15_86_16 : decode prog_15_method_86_code 16 = .ok (.aload_n 0, 1) := by decide +kernel
theorem d15_86_17 : decode prog_15_method_86_code 17 = .ok (.bipush 48, 2) := by decide +kernel
theorem d15_86_19 : decode prog_15_method_86_code 19 = .ok (.iload_n 1, 1) := by decide +kernel
theorem d15_86_20 : decode prog_15_method_86_code 20 = .ok (.iadd, 1) := by decide +kernel
theorem d15_86_21 : decode prog_15_method_86_code 21 = .ok (.invokestatic 159, 3) := by decide +kernel
theorem d15_85_0 : decode prog_15_method_85_code 0 = .ok (.aload_n 0, 1) := by decide +kernel
theorem d15_85_1 : decode prog_15_method_85_code 1 = .ok (.iconst 0, 1) := by decide +kernel
theorem d15_85_2 : decode prog_15_method_85_code 2 = .ok (.putfield 398, 3) := by decide +kernel
theorem k1181 : (Jvm.Cond.fieldLink "PagedValuesModel" (398 : Nat) "PagedValuesModel" "outputs" "I") ∈ TB := tk_5 221 rfl rfl
theorem d15_85_5 : decode prog_15_method_85_code 5 = .ok (.iload_n 1, 1) := by decide +kernel
theorem d15_85_6 : decode prog_15_method_85_code 6 = .ok (.aload_n 0, 1) := by decide +kernel
theorem d15_85_7 : decode prog_15_method_85_code 7 = .ok (.getfield 17, 3) := by decide +kernel
theorem d15_85_10 : decode prog_15_method_85_code 10 = .ok (.iload_n 1, 1) := by decide +kernel
theorem d15_85_11 : decode prog_15_method_85_code 11 = .ok (.baload, 1) := by decide +kernel
theorem d15_85_12 : decode prog_15_method_85_code 12 = .ok (.iadd, 1) := by decide +kernel
theorem d15_85_13 : decode prog_15_method_85_code 13 = .ok (.istore_n 2, 1) := by decide +kernel
theorem d15_85_14 : decode prog_15_method_85_code 14 = .ok (.iload_n 1, 1) := by decide +kernel
theorem d15_85_15 : decode prog_15_method_85_code 15 = .ok (.istore_n 3, 1) := by decide +kernel
theorem d15_85_195 : decode prog_15_method_85_code 195 = .ok (.return_, 1) := by decide +kernel
theorem d15_85_16 : decode prog_15_method_85_code 16 = .ok (.iload_n 3, 1) := by decide +kernel
theorem d15_85_17 : decode prog_15_method_85_code 17 = .ok (.iload_n 2, 1) := by decide +kernel
theorem d15_85_18 : decode prog_15_method_85_code 18 = .ok (.if_icmp .ge 177, 3) := by decide +kernel
theorem d15_85_21 : decode prog_15_method_85_code 21 = .ok (.iconst (-1), 1) := by decide +kernel
theorem d15_85_22 : decode prog_15_method_85_code 22 = .ok (.istore 4, 2) := by decide +kernel
theorem d15_85_24 : decode prog_15_method_85_code 24 = .ok (.iload_n 1, 1) := by decide +kernel
theorem d15_85_25 : decode prog_15_method_85_code 25 = .ok (.istore 5, 2) := by decide +kernel
theorem d15_85_62 : decode prog_15_method_85_code 62 = .ok (.iload 4, 2) := by decide +kernel
theorem d15_85_64 : decode prog_15_method_85_code 64 = .ok (.ifCond .lt 17, 3) := by decide +kernel
theorem d15_85_67 : decode prog_15_method_85_code 67 = .ok (.iload_n 3, 1) := by decide +kernel
theorem d15_85_68 : decode prog_15_method_85_code 68 = .ok (.iload 4, 2) := by decide +kernel
theorem d15_85_70 : decode prog_15_method_85_code 70 = .ok (.iconst 1, 1) := by decide +kernel
theorem d15_85_71 : decode prog_15_method_85_code 71 = .ok (.iadd, 1) := by decide +kernel
theorem d15_85_72 : decode prog_15_method_85_code 72 = .ok (.if_icmp .le 9, 3) := by decide +kernel
theorem d15_85_75 : decode prog_15_method_85_code 75 = .ok (.aload_n 0, 1) := by decide +kernel
theorem d15_85_76 : decode prog_15_method_85_code 76 = .ok (.bipush 44, 2) := by decide +kernel
theorem d15_80_0 : decode prog_15_method_80_code 0 = .ok (.aload_n 0, 1) := by decide +kernel
theorem d15_80_1 : decode prog_15_method_80_code 1 = .ok (.getfield 65, 3) := by decide +kernel
theorem d15_80_4 : decode prog_15_method_80_code 4 = .ok (.aload_n 0, 1) := by decide +kernel
theorem d15_80_5 : decode prog_15_method_80_code 5 = .ok (.getfield 398, 3) := by decide +kernel
theorem d15_80_8 : decode prog_15_method_80_code 8 = .ok (.iload_n 1, 1) := by decide +kernel
theorem d15_80_9 : decode prog_15_method_80_code 9 = .ok (.i2c, 1) := by decide +kernel
theorem d15_80_10 : decode prog_15_method_80_code 10 = .ok (.castore, 1) := by decide +kernel
theorem d15_80_11 : decode prog_15_method_80_code 11 = .ok (.aload_n 0, 1) := by decide +kernel
theorem d15_80_12 : decode prog_15_method_80_code 12 = .ok (.dup, 1) := by decide +kernel
theorem d15_80_13 : decode prog_15_method_80_code 13 = .ok (.getfield 398, 3) := by decide +kernel
theorem d15_80_16 : decode prog_15_method_80_code 16 = .ok (.iconst 1, 1) := by decide +kernel
theorem d15_80_17 : decode prog_15_method_80_code 17 = .ok (.iadd, 1) := by decide +kernel
theorem d15_80_18 : decode prog_15_method_80_code 18 = .ok (.putfield 398, 3) := by decide +kernel
theorem d15_80_21 : decode prog_15_method_80_code 21 = .ok (.return_, 1) := by decide +kernel
def y15_80 : MethodName := { cls := "PagedValuesModel", name := "emit", desc := "(I)V" }
theorem k1605 : (Jvm.Cond.code ({ cls := "PagedValuesModel", name := "emit", desc := "(I)V" } : Jvm.MethodName) prog_15_method_80_code (2 : Nat) (Option.none : Option Jvm.ClassFile.FieldType)) ∈ TB := tk_7 165 rfl rfl
theorem k1602 : (Jvm.Cond.methodLink "PagedValuesModel" (401 : Nat) ({ cls := "PagedValuesModel", name := "emit", desc := "(I)V" } : Jvm.MethodName)) ∈ TB := tk_7 162 rfl rfl
theorem k1604 : (Jvm.Cond.instanceMethod ({ cls := "PagedValuesModel", name := "emit", desc := "(I)V" } : Jvm.MethodName)) ∈ TB := tk_7 164 rfl rfl
theorem ks99 : Cond.selects y15_80.cls y15_80 y15_80 ∈ TB := List.mem_filter.mpr ⟨List.mem_append_left _ (List.mem_of_getElem? (i := 99) (by decide +kernel)), rfl⟩
theorem d15_85_78 : decode prog_15_method_85_code 78 = .ok (.invokevirtual 401, 3) := by decide +kernel
theorem d15_85_81 : decode prog_15_method_85_code 81 = .ok (.iload 4, 2) := by decide +kernel
theorem d15_85_83 : decode prog_15_method_85_code 83 = .ok (.ifCond .lt 37, 3) := by decide +kernel
theorem d15_85_86 : decode prog_15_method_85_code 86 = .ok (.aload_n 0, 1) := by decide +kernel
theorem d15_85_87 : decode prog_15_method_85_code 87 = .ok (.getfield 13, 3) := by decide +kernel
theorem d15_85_90 : decode prog_15_method_85_code 90 = .ok (.iload 4, 2) := by decide +kernel
theorem d15_85_92 : decode prog_15_method_85_code 92 = .ok (.baload, 1) := by decide +kernel
theorem d15_85_93 : decode prog_15_method_85_code 93 = .ok (.bipush 6, 2) := by decide +kernel
theorem d15_85_95 : decode prog_15_method_85_code 95 = .ok (.if_icmp .ne 25, 3) := by decide +kernel
theorem d15_85_98 : decode prog_15_method_85_code 98 = .ok (.aload_n 0, 1) := by decide +kernel
theorem d15_85_99 : decode prog_15_method_85_code 99 = .ok (.aload_n 0, 1) := by decide +kernel
theorem d15_85_100 : decode prog_15_method_85_code 100 = .ok (.getfield 27, 3) := by decide +kernel
theorem d15_85_103 : decode prog_15_method_85_code 103 = .ok (.iload_n 3, 1) := by decide +kernel
theorem d15_85_104 : decode prog_15_method_85_code 104 = .ok (.laload, 1) := by decide +kernel
theorem d15_85_105 : decode prog_15_method_85_code 105 = .ok (.aload_n 0, 1) := by decide +kernel
theorem d15_85_106 : decode prog_15_method_85_code 106 = .ok (.getfield 30, 3) := by decide +kernel
theorem d15_85_109 : decode prog_15_method_85_code 109 = .ok (.iload_n 3, 1) := by decide +kernel
theorem d15_85_110 : decode prog_15_method_85_code 110 = .ok (.laload, 1) := by decide +kernel
theorem d15_81_0 : decode prog_15_method_81_code 0 = .ok (.aload_n 0, 1) := by decide +kernel
theorem d15_81_1 : decode prog_15_method_81_code 1 = .ok (.bipush 34, 2) := by decide +kernel
theorem d15_81_3 : decode prog_15_method_81_code 3 = .ok (.invokevirtual 401, 3) := by decide +kernel
theorem d15_81_6 : decode prog_15_method_81_code 6 = .ok (.iconst 0, 1) := by decide +kernel
theorem d15_81_7 : decode prog_15_method_81_code 7 = .ok (.istore 5, 2) := by decide +kernel
theorem d15_81_59 : decode prog_15_method_81_code 59 = .ok (.aload_n 0, 1) := by decide +kernel
theorem d15_81_60 : decode prog_15_method_81_code 60 = .ok (.bipush 34, 2) := by decide +kernel
theorem d15_81_62 : decode prog_15_method_81_code 62 = .ok (.invokevirtual 401, 3) := by decide +kernel
theorem d15_81_65 : decode prog_15_method_81_code 65 = .ok (.return_, 1) := by decide +kernel
theorem d15_81_9 : decode prog_15_method_81_code 9 = .ok (.iload 5, 2) := by decide +kernel
theorem d15_81_11 : decode prog_15_method_81_code 11 = .ok (.lload_n 1, 1) := by decide +kernel
theorem d15_81_12 : decode prog_15_method_81_code 12 = .ok (.invokestatic 95, 3) := by decide +kernel
theorem d15_81_15 : decode prog_15_method_81_code 15 = .ok (.if_icmp .ge 44, 3) := by decide +kernel
theorem d15_81_18 : decode prog_15_method_81_code 18 = .ok (.lload_n 1, 1) := by decide +kernel
theorem d15_81_19 : decode prog_15_method_81_code 19 = .ok (.lload_n 3, 1) := by decide +kernel
theorem d15_81_20 : decode prog_15_method_81_code 20 = .ok (.iload 5, 2) := by decide +kernel
theorem d15_81_22 : decode prog_15_method_81_code 22 = .ok (.invokestatic 206, 3) := by decide +kernel
theorem d15_81_25 : decode prog_15_method_81_code 25 = .ok (.istore 6, 2) := by decide +kernel
theorem d15_81_27 : decode prog_15_method_81_code 27 = .ok (.iload 6, 2) := by decide +kernel
theorem d15_81_29 : decode prog_15_method_81_code 29 = .ok (.bipush 34, 2) := by decide +kernel
theorem d15_81_31 : decode prog_15_method_81_code 31 = .ok (.if_icmp .eq 10, 3) := by decide +kernel
theorem d15_81_41 : decode prog_15_method_81_code 41 = .ok (.aload_n 0, 1) := by decide +kernel
theorem d15_81_42 : decode prog_15_method_81_code 42 = .ok (.bipush 92, 2) := by decide +kernel
theorem d15_81_44 : decode prog_15_method_81_code 44 = .ok (.invokevirtual 401, 3) := by decide +kernel
theorem d15_81_34 : decode prog_15_method_81_code 34 = .ok (.iload 6, 2) := by decide +kernel
theorem d15_81_36 : decode prog_15_method_81_code 36 = .ok (.bipush 92, 2) := by decide +kernel
theorem d15_81_38 : decode prog_15_method_81_code 38 = .ok (.if_icmp .ne 9, 3) := by decide +kernel
theorem d15_81_47 : decode prog_15_method_81_code 47 = .ok (.aload_n 0, 1) := by decide +kernel
theorem d15_81_48 : decode prog_15_method_81_code 48 = .ok (.iload 6, 2) := by decide +kernel
theorem d15_81_50 : decode prog_15_method_81_code 50 = .ok (.invokevirtual 401, 3) := by decide +kernel
theorem d15_81_53 : decode prog_15_method_81_code 53 = .ok (.iinc 5 1, 3) := by decide +kernel
theorem d15_81_56 : decode prog_15_method_81_code 56 = .ok (.goto (-47), 3) := by decide +kernel
def y15_81 : MethodName := { cls := "PagedValuesModel", name := "emitString", desc := "(JJ)V" }
theorem k1609 : (Jvm.Cond.code ({ cls := "PagedValuesModel", name := "emitString", desc := "(JJ)V" } : Jvm.MethodName) prog_15_method_81_code (7 : Nat) (Option.none : Option Jvm.ClassFile.FieldType)) ∈ TB := tk_7 169 rfl rfl
theorem k1606 : (Jvm.Cond.methodLink "PagedValuesModel" (411 : Nat) ({ cls := "PagedValuesModel", name := "emitString", desc := "(JJ)V" } : Jvm.MethodName)) ∈ TB := tk_7 166 rfl rfl
theorem k1608 : (Jvm.Cond.instanceMethod ({ cls := "PagedValuesModel", name := "emitString", desc := "(JJ)V" } : Jvm.MethodName)) ∈ TB := tk_7 168 rfl rfl
theorem ks100 : Cond.selects y15_81.cls y15_81 y15_81 ∈ TB := List.mem_filter.mpr ⟨List.mem_append_left _ (List.mem_of_getElem? (i := 100) (by decide +kernel)), rfl⟩
theorem d15_85_111 : decode prog_15_method_85_code 111 = .ok (.invokevirtual 411, 3) := by decide +kernel
theorem d15_85_114 : decode prog_15_method_85_code 114 = .ok (.aload_n 0, 1) := by decide +kernel
theorem d15_85_115 : decode prog_15_method_85_code 115 = .ok (.bipush 58, 2) := by decide +kernel
theorem d15_85_117 : decode prog_15_method_85_code 117 = .ok (.invokevirtual 401, 3) := by decide +kernel
theorem d15_85_120 : decode prog_15_method_85_code 120 = .ok (.aload_n 0, 1) := by decide +kernel
theorem d15_85_121 : decode prog_15_method_85_code 121 = .ok (.iload_n 3, 1) := by decide +kernel
theorem d15_84_0 : decode prog_15_method_84_code 0 = .ok (.aload_n 0, 1) := by decide +kernel
theorem d15_84_1 : decode prog_15_method_84_code 1 = .ok (.getfield 13, 3) := by decide +kernel
theorem d15_84_4 : decode prog_15_method_84_code 4 = .ok (.iload_n 1, 1) := by decide +kernel
theorem d15_84_5 : decode prog_15_method_84_code 5 = .ok (.baload, 1) := by decide +kernel
theorem d15_84_6 : decode prog_15_method_84_code 6 = .ok (.tableswitch 117 0 4 #[34, 49, 64, 85, 98], 34) := by decide +kernel
theorem d15_84_40 : decode prog_15_method_84_code 40 = .ok (.aload_n 0, 1) := by decide +kernel
theorem d15_84_41 : decode prog_15_method_84_code 41 = .ok (.bipush 110, 2) := by decide +kernel
theorem d15_84_43 : decode prog_15_method_84_code 43 = .ok (.bipush 117, 2) := by decide +kernel
theorem d15_84_45 : decode prog_15_method_84_code 45 = .ok (.bipush 108, 2) := by decide +kernel
theorem d15_84_47 : decode prog_15_method_84_code 47 = .ok (.bipush 108, 2) := by decide +kernel
theorem d15_83_0 : decode prog_15_method_83_code 0 = .ok (.aload_n 0, 1) := by decide +kernel
theorem d15_83_1 : decode prog_15_method_83_code 1 = .ok (.iload_n 1, 1) := by decide +kernel
theorem d15_83_2 : decode prog_15_method_83_code 2 = .ok (.invokevirtual 401, 3) := by decide +kernel
theorem d15_83_5 : decode prog_15_method_83_code 5 = .ok (.aload_n 0, 1) := by decide +kernel
theorem d15_83_6 : decode prog_15_method_83_code 6 = .ok (.iload_n 2, 1) := by decide +kernel
theorem d15_83_7 : decode prog_15_method_83_code 7 = .ok (.invokevirtual 401, 3) := by decide +kernel
theorem d15_83_10 : decode prog_15_method_83_code 10 = .ok (.aload_n 0, 1) := by decide +kernel
theorem d15_83_11 : decode prog_15_method_83_code 11 = .ok (.iload_n 3, 1) := by decide +kernel
theorem d15_83_12 : decode prog_15_method_83_code 12 = .ok (.invokevirtual 401, 3) := by decide +kernel
theorem d15_83_15 : decode prog_15_method_83_code 15 = .ok (.aload_n 0, 1) := by decide +kernel
theorem d15_83_16 : decode prog_15_method_83_code 16 = .ok (.iload 4, 2) := by decide +kernel
theorem d15_83_18 : decode prog_15_method_83_code 18 = .ok (.invokevirtual 401, 3) := by decide +kernel
theorem d15_83_21 : decode prog_15_method_83_code 21 = .ok (.return_, 1) := by decide +kernel
def y15_83 : MethodName := { cls := "PagedValuesModel", name := "emitFour", desc := "(IIII)V" }
theorem k1617 : (Jvm.Cond.code ({ cls := "PagedValuesModel", name := "emitFour", desc := "(IIII)V" } : Jvm.MethodName) prog_15_method_83_code (5 : Nat) (Option.none : Option Jvm.ClassFile.FieldType)) ∈ TB := tk_7 177 rfl rfl
theorem k1614 : (Jvm.Cond.methodLink "PagedValuesModel" (404 : Nat) ({ cls := "PagedValuesModel", name := "emitFour", desc := "(IIII)V" } : Jvm.MethodName)) ∈ TB := tk_7 174 rfl rfl
theorem k1616 : (Jvm.Cond.instanceMethod ({ cls := "PagedValuesModel", name := "emitFour", desc := "(IIII)V" } : Jvm.MethodName)) ∈ TB := tk_7 176 rfl rfl
theorem ks102 : Cond.selects y15_83.cls y15_83 y15_83 ∈ TB := List.mem_filter.mpr ⟨List.mem_append_left _ (List.mem_of_getElem? (i := 102) (by decide +kernel)), rfl⟩
theorem d15_84_49 : decode prog_15_method_84_code 49 = .ok (.invokevirtual 404, 3) := by decide +kernel
theorem d15_84_52 : decode prog_15_method_84_code 52 = .ok (.goto 92, 3) := by decide +kernel
theorem d15_84_55 : decode prog_15_method_84_code 55 = .ok (.aload_n 0, 1) := by decide +kernel
theorem d15_84_56 : decode prog_15_method_84_code 56 = .ok (.bipush 116, 2) := by decide +kernel
theorem d15_84_58 : decode prog_15_method_84_code 58 = .ok (.bipush 114, 2) := by decide +kernel
theorem d15_84_60 : decode prog_15_method_84_code 60 = .ok (.bipush 117, 2) := by decide +kernel
theorem d15_84_62 : decode prog_15_method_84_code 62 = .ok (.bipush 101, 2) := by decide +kernel
theorem d15_84_64 : decode prog_15_method_84_code 64 = .ok (.invokevirtual 404, 3) := by decide +kernel
theorem d15_84_67 : decode prog_15_method_84_code 67 = .ok (.goto 77, 3) := by decide +kernel
theorem d15_84_70 : decode prog_15_method_84_code 70 = .ok (.aload_n 0, 1) := by decide +kernel
theorem d15_84_71 : decode prog_15_method_84_code 71 = .ok (.bipush 102, 2) := by decide +kernel
theorem d15_84_73 : decode prog_15_method_84_code 73 = .ok (.invokevirtual 401, 3) := by decide +kernel
theorem d15_84_76 : decode prog_15_method_84_code 76 = .ok (.aload_n 0, 1) := by decide +kernel
theorem d15_84_77 : decode prog_15_method_84_code 77 = .ok (.bipush 97, 2) := by decide +kernel
theorem d15_84_79 : decode prog_15_method_84_code 79 = .ok (.bipush 108, 2) := by decide +kernel
theorem d15_84_81 : decode prog_15_method_84_code 81 = .ok (.bipush 115, 2) := by decide +kernel
theorem d15_84_83 : decode prog_15_method_84_code 83 = .ok (.bipush 101, 2) := by decide +kernel
theorem d15_84_85 : decode prog_15_method_84_code 85 = .ok (.invokevirtual 404, 3) := by decide +kernel
theorem d15_84_88 : decode prog_15_method_84_code 88 = .ok (.goto 56, 3) := by decide +kernel
theorem d15_84_91 : decode prog_15_method_84_code 91 = .ok (.aload_n 0, 1) := by decide +kernel
theorem d15_84_92 : decode prog_15_method_84_code 92 = .ok (.aload_n 0, 1) := by decide +kernel
theorem d15_84_93 : decode prog_15_method_84_code 93 = .ok (.getfield 20, 3) := by decide +kernel
theorem d15_84_96 : decode prog_15_method_84_code 96 = .ok (.iload_n 1, 1) := by decide +kernel
theorem d15_84_97 : decode prog_15_method_84_code 97 = .ok (.laload, 1) := by decide +kernel
theorem d15_82_0 : decode prog_15_method_82_code 0 = .ok (.lload_n 1, 1) := by decide +kernel
theorem d15_82_1 : decode prog_15_method_82_code 1 = .ok (.lconst 0, 1) := by decide +kernel
theorem d15_82_2 : decode prog_15_method_82_code 2 = .ok (.lcmp, 1) := by decide +kernel
theorem d15_82_3 : decode prog_15_method_82_code 3 = .ok (.ifCond .ge 8, 3) := by decide +kernel
theorem d15_82_11 : decode prog_15_method_82_code 11 = .ok (.lload_n 1, 1) := by decide +kernel
theorem d15_82_6 : decode prog_15_method_82_code 6 = .ok (.lload_n 1, 1) := by decide +kernel
theorem d15_82_7 : decode prog_15_method_82_code 7 = .ok (.lneg, 1) := by decide +kernel
theorem d15_82_8 : decode prog_15_method_82_code 8 = .ok (.goto 4, 3) := by decide +kernel
theorem d15_82_12 : decode prog_15_method_82_code 12 = .ok (.l2i, 1) := by decide +kernel
theorem d15_82_13 : decode prog_15_method_82_code 13 = .ok (.istore_n 3, 1) := by decide +kernel
theorem d15_82_14 : decode prog_15_method_82_code 14 = .ok (.lload_n 1, 1) := by decide +kernel
theorem d15_82_15 : decode prog_15_method_82_code 15 = .ok (.lconst 0, 1) := by decide +kernel
theorem d15_82_16 : decode prog_15_method_82_code 16 = .ok (.lcmp, 1) := by decide +kernel
theorem d15_82_17 : decode prog_15_method_82_code 17 = .ok (.ifCond .ge 9, 3) := by decide +kernel
theorem d15_82_20 : decode prog_15_method_82_code 20 = .ok (.aload_n 0, 1) := by decide +kernel
theorem d15_82_21 : decode prog_15_method_82_code 21 = .ok (.bipush 45, 2) := by decide +kernel
theorem d15_82_23 : decode prog_15_method_82_code 23 = .ok (.invokevirtual 401, 3) := by decide +kernel
theorem d15_82_26 : decode prog_15_method_82_code 26 = .ok (.iconst 1, 1) := by decide +kernel
theorem d15_82_27 : decode prog_15_method_82_code 27 = .ok (.istore 4, 2) := by decide +kernel
theorem d15_82_77 : decode prog_15_method_82_code 77 = .ok (.return_, 1) := by decide +kernel
theorem d15_82_48 : decode prog_15_method_82_code 48 = .ok (.iload 4, 2) := by decide +kernel
theorem d15_82_50 : decode prog_15_method_82_code 50 = .ok (.ifCond .le 27, 3) := by decide +kernel
theorem d15_82_53 : decode prog_15_method_82_code 53 = .ok (.aload_n 0, 1) := by decide +kernel
theorem d15_82_54 : decode prog_15_method_82_code 54 = .ok (.bipush 48, 2) := by decide +kernel
theorem d15_82_56 : decode prog_15_method_82_code 56 = .ok (.iload_n 3, 1) := by decide +kernel
theorem d15_82_57 : decode prog_15_method_82_code 57 = .ok (.iload 4, 2) := by decide +kernel
theorem d15_82_59 : decode prog_15_method_82_code 59 = .ok (.idiv, 1) := by decide +kernel
theorem d15_82_60 : decode prog_15_method_82_code 60 = .ok (.bipush 10, 2) := by decide +kernel
theorem d15_82_62 : decode prog_15_method_82_code 62 = .ok (.irem, 1) := by decide +kernel
theorem d15_82_63 : decode prog_15_method_82_code 63 = .ok (.iadd, 1) := by decide +kernel
theorem d15_82_64 : decode prog_15_method_82_code 64 = .ok (.invokevirtual 401, 3) := by decide +kernel
theorem d15_82_67 : decode prog_15_method_82_code 67 = .ok (.iload 4, 2) := by decide +kernel
theorem d15_82_69 : decode prog_15_method_82_code 69 = .ok (.bipush 10, 2) := by decide +kernel
theorem d15_82_71 : decode prog_15_method_82_code 71 = .ok (.idiv, 1) := by decide +kernel
theorem d15_82_72 : decode prog_15_method_82_code 72 = .ok (.istore 4, 2) := by decide +kernel
theorem d15_82_74 : decode prog_15_method_82_code 74 = .ok (.goto (-26), 3) := by decide +kernel
theorem d15_82_29 : decode prog_15_method_82_code 29 = .ok (.iload_n 3, 1) := by decide +kernel
theorem d15_82_30 : decode prog_15_method_82_code 30 = .ok (.iload 4, 2) := by decide +kernel
theorem d15_82_32 : decode prog_15_method_82_code 32 = .ok (.idiv, 1) := by decide +kernel
theorem d15_82_33 : decode prog_15_method_82_code 33 = .ok (.bipush 9, 2) := by decide +kernel
theorem d15_82_35 : decode prog_15_method_82_code 35 = .ok (.if_icmp .le 13, 3) := by decide +kernel
theorem d15_82_38 : decode prog_15_method_82_code 38 = .ok (.iload 4, 2) := by decide +kernel
theorem d15_82_40 : decode prog_15_method_82_code 40 = .ok (.bipush 10, 2) := by decide +kernel
theorem d15_82_42 : decode prog_15_method_82_code 42 = .ok (.imul, 1) := by decide +kernel
theorem d15_82_43 : decode prog_15_method_82_code 43 = .ok (.istore 4, 2) := by decide +kernel
theorem d15_82_45 : decode prog_15_method_82_code 45 = .ok (.goto (-16), 3) := by decide +kernel
def y15_82 : MethodName := { cls := "PagedValuesModel", name := "emitNumber", desc := "(J)V" }
theorem k1621 : (Jvm.Cond.code ({ cls := "PagedValuesModel", name := "emitNumber", desc := "(J)V" } : Jvm.MethodName) prog_15_method_82_code (5 : Nat) (Option.none : Option Jvm.ClassFile.FieldType)) ∈ TB := tk_7 181 rfl rfl
theorem k1618 : (Jvm.Cond.methodLink "PagedValuesModel" (407 : Nat) ({ cls := "PagedValuesModel", name := "emitNumber", desc := "(J)V" } : Jvm.MethodName)) ∈ TB := tk_7 178 rfl rfl
theorem k1620 : (Jvm.Cond.instanceMethod ({ cls := "PagedValuesModel", name := "emitNumber", desc := "(J)V" } : Jvm.MethodName)) ∈ TB := tk_7 180 rfl rfl
theorem ks103 : Cond.selects y15_82.cls y15_82 y15_82 ∈ TB := List.mem_filter.mpr ⟨List.mem_append_left _ (List.mem_of_getElem? (i := 103) (by decide +kernel)), rfl⟩
theorem d15_84_98 : decode prog_15_method_84_code 98 = .ok (.invokevirtual 407, 3) := by decide +kernel
theorem d15_84_101 : decode prog_15_method_84_code 101 = .ok (.goto 43, 3) := by decide +kernel
theorem d15_84_104 : decode prog_15_method_84_code 104 = .ok (.aload_n 0, 1) := by decide +kernel
theorem d15_84_105 : decode prog_15_method_84_code 105 = .ok (.aload_n 0, 1) := by decide +kernel
theorem d15_84_106 : decode prog_15_method_84_code 106 = .ok (.getfield 20, 3) := by decide +kernel
theorem d15_84_109 : decode prog_15_method_84_code 109 = .ok (.iload_n 1, 1) := by decide +kernel
theorem d15_84_110 : decode prog_15_method_84_code 110 = .ok (.laload, 1) := by decide +kernel
theorem d15_84_111 : decode prog_15_method_84_code 111 = .ok (.aload_n 0, 1) := by decide +kernel
theorem d15_84_112 : decode prog_15_method_84_code 112 = .ok (.getfield 24, 3) := by decide +kernel
theorem d15_84_115 : decode prog_15_method_84_code 115 = .ok (.iload_n 1, 1) := by decide +kernel
theorem d15_84_116 : decode prog_15_method_84_code 116 = .ok (.laload, 1) := by decide +kernel
theorem d15_84_117 : decode prog_15_method_84_code 117 = .ok (.invokevirtual 411, 3) := by decide +kernel
theorem d15_84_120 : decode prog_15_method_84_code 120 = .ok (.goto 24, 3) := by decide +kernel
theorem d15_84_123 : decode prog_15_method_84_code 123 = .ok (.aload_n 0, 1) := by decide +kernel
theorem d15_84_124 : decode prog_15_method_84_code 124 = .ok (.aload_n 0, 1) := by decide +kernel
theorem d15_84_125 : decode prog_15_method_84_code 125 = .ok (.getfield 13, 3) := by decide +kernel
theorem d15_84_128 : decode prog_15_method_84_code 128 = .ok (.iload_n 1, 1) := by decide +kernel
theorem d15_84_129 : decode prog_15_method_84_code 129 = .ok (.baload, 1) := by decide +kernel
theorem d15_84_130 : decode prog_15_method_84_code 130 = .ok (.iconst 5, 1) := by decide +kernel
theorem d15_84_131 : decode prog_15_method_84_code 131 = .ok (.if_icmp .ne 8, 3) := by decide +kernel
theorem d15_84_139 : decode prog_15_method_84_code 139 = .ok (.bipush 123, 2) := by decide +kernel
theorem d15_84_134 : decode prog_15_method_84_code 134 = .ok (.bipush 91, 2) := by decide +kernel
theorem d15_84_136 : decode prog_15_method_84_code 136 = .ok (.goto 5, 3) := by decide +kernel
theorem d15_84_141 : decode prog_15_method_84_code 141 = .ok (.invokevirtual 401, 3) := by decide +kernel
theorem d15_84_144 : decode prog_15_method_84_code 144 = .ok (.return_, 1) := by decide +kernel
def y15_84 : MethodName := { cls := "PagedValuesModel", name := "emitNode", desc := "(I)V" }
theorem k1613 : (Jvm.Cond.code ({ cls := "PagedValuesModel", name := "emitNode", desc := "(I)V" } : Jvm.MethodName) prog_15_method_84_code (2 : Nat) (Option.none : Option Jvm.ClassFile.FieldType)) ∈ TB := tk_7 173 rfl rfl
theorem k1610 : (Jvm.Cond.methodLink "PagedValuesModel" (414 : Nat) ({ cls := "PagedValuesModel", name := "emitNode", desc := "(I)V" } : Jvm.MethodName)) ∈ TB := tk_7 170 rfl rfl
theorem k1612 : (Jvm.Cond.instanceMethod ({ cls := "PagedValuesModel", name := "emitNode", desc := "(I)V" } : Jvm.MethodName)) ∈ TB := tk_7 172 rfl rfl
theorem ks101 : Cond.selects y15_84.cls y15_84 y15_84 ∈ TB := List.mem_filter.mpr ⟨List.mem_append_left _ (List.mem_of_getElem? (i := 101) (by decide +kernel)), rfl⟩
theorem d15_85_122 : decode prog_15_method_85_code 122 = .ok (.invokevirtual 414, 3) := by decide +kernel
theorem d15_85_125 : decode prog_15_method_85_code 125 = .ok (.iload_n 3, 1) := by decide +kernel
theorem d15_85_126 : decode prog_15_method_85_code 126 = .ok (.istore 5, 2) := by decide +kernel
theorem d15_85_189 : decode prog_15_method_85_code 189 = .ok (.iinc 3 1, 3) := by decide +kernel
theorem d15_85_192 : decode prog_15_method_85_code 192 = .ok (.goto (-176), 3) := by decide +kernel
theorem d15_85_128 : decode prog_15_method_85_code 128 = .ok (.iload 5, 2) := by decide +kernel
theorem d15_85_130 : decode prog_15_method_85_code 130 = .ok (.iload_n 1, 1) := by decide +kernel
theorem d15_85_131 : decode prog_15_method_85_code 131 = .ok (.if_icmp .lt 58, 3) := by decide +kernel
theorem d15_85_134 : decode prog_15_method_85_code 134 = .ok (.aload_n 0, 1) := by decide +kernel
theorem d15_85_135 : decode prog_15_method_85_code 135 = .ok (.getfield 13, 3) := by decide +kernel
theorem d15_85_138 : decode prog_15_method_85_code 138 = .ok (.iload 5, 2) := by decide +kernel
theorem d15_85_140 : decode prog_15_method_85_code 140 = .ok (.baload, 1) := by decide +kernel
theorem d15_85_141 : decode prog_15_method_85_code 141 = .ok (.iconst 5, 1) := by decide +kernel
theorem d15_85_142 : decode prog_15_method_85_code 142 = .ok (.if_icmp .lt 41, 3) := by decide +kernel
theorem d15_85_145 : decode prog_15_method_85_code 145 = .ok (.iload 5, 2) := by decide +kernel
theorem d15_85_147 : decode prog_15_method_85_code 147 = .ok (.aload_n 0, 1) := by decide +kernel
theorem d15_85_148 : decode prog_15_method_85_code 148 = .ok (.getfield 17, 3) := by decide +kernel
theorem d15_85_151 : decode prog_15_method_85_code 151 = .ok (.iload 5, 2) := by decide +kernel
theorem d15_85_153 : decode prog_15_method_85_code 153 = .ok (.baload, 1) := by decide +kernel
theorem d15_85_154 : decode prog_15_method_85_code 154 = .ok (.iadd, 1) := by decide +kernel
theorem d15_85_155 : decode prog_15_method_85_code 155 = .ok (.iload_n 3, 1) := by decide +kernel
theorem d15_85_156 : decode prog_15_method_85_code 156 = .ok (.iconst 1, 1) := by decide +kernel
theorem d15_85_157 : decode prog_15_method_85_code 157 = .ok (.iadd, 1) := by decide +kernel
theorem d15_85_158 : decode prog_15_method_85_code 158 = .ok (.if_icmp .ne 25, 3) := by decide +kernel
theorem d15_85_161 : decode prog_15_method_85_code 161 = .ok (.aload_n 0, 1) := by decide +kernel
theorem d15_85_162 : decode prog_15_method_85_code 162 = .ok (.aload_n 0, 1) := by decide +kernel
theorem d15_85_163 : decode prog_15_method_85_code 163 = .ok (.getfield 13, 3) := by decide +kernel
theorem d15_85_166 : decode prog_15_method_85_code 166 = .ok (.iload 5, 2) := by decide +kernel
theorem d15_85_168 : decode prog_15_method_85_code 168 = .ok (.baload, 1) := by decide +kernel
theorem d15_85_169 : decode prog_15_method_85_code 169 = .ok (.iconst 5, 1) := by decide +kernel
theorem d15_85_170 : decode prog_15_method_85_code 170 = .ok (.if_icmp .ne 8, 3) := by decide +kernel
theorem d15_85_178 : decode prog_15_method_85_code 178 = .ok (.bipush 125, 2) := by decide +kernel
theorem d15_85_173 : decode prog_15_method_85_code 173 = .ok (.bipush 93, 2) := by decide +kernel
theorem d15_85_175 : decode prog_15_method_85_code 175 = .ok (.goto 5, 3) := by decide +kernel
theorem d15_85_180 : decode prog_15_method_85_code 180 = .ok (.invokevirtual 401, 3) := by decide +kernel
theorem d15_85_183 : decode prog_15_method_85_code 183 = .ok (.iinc 5 (-1), 3) := by decide +kernel
theorem d15_85_186 : decode prog_15_method_85_code 186 = .ok (.goto (-58), 3) := by decide +kernel
theorem d15_85_27 : decode prog_15_method_85_code 27 = .ok (.iload 5, 2) := by decide +kernel
theorem d15_85_29 : decode prog_15_method_85_code 29 = .ok (.iload_n 3, 1) := by decide +kernel
theorem d15_85_30 : decode prog_15_method_85_code 30 = .ok (.if_icmp .ge 32, 3) := by decide +kernel
theorem d15_85_33 : decode prog_15_method_85_code 33 = .ok (.iload 5, 2) := by decide +kernel
theorem d15_85_35 : decode prog_15_method_85_code 35 = .ok (.aload_n 0, 1) := by decide +kernel
theorem d15_85_36 : decode prog_15_method_85_code 36 = .ok (.getfield 17, 3) := by decide +kernel
theorem d15_85_39 : decode prog_15_method_85_code 39 = .ok (.iload 5, 2) := by decide +kernel
theorem d15_85_41 : decode prog_15_method_85_code 41 = .ok (.baload, 1) := by decide +kernel
theorem d15_85_42 : decode prog_15_method_85_code 42 = .ok (.iadd, 1) := by decide +kernel
theorem d15_85_43 : decode prog_15_method_85_code 43 = .ok (.iload_n 3, 1) := by decide +kernel
theorem d15_85_44 : decode prog_15_method_85_code 44 = .ok (.if_icmp .le 8, 3) := by decide +kernel
theorem d15_85_52 : decode prog_15_method_85_code 52 = .ok (.iload 4, 2) := by decide +kernel
theorem d15_85_47 : decode prog_15_method_85_code 47 = .ok (.iload 5, 2) := by decide +kernel
theorem d15_85_49 : decode prog_15_method_85_code 49 = .ok (.goto 5, 3) := by decide +kernel
theorem d15_85_54 : decode prog_15_method_85_code 54 = .ok (.istore 4, 2) := by decide +kernel
theorem d15_85_56 : decode prog_15_method_85_code 56 = .ok (.iinc 5 1, 3) := by decide +kernel
theorem d15_85_59 : decode prog_15_method_85_code 59 = .ok (.goto (-32), 3) := by decide +kernel
def y15_85 : MethodName := { cls := "PagedValuesModel", name := "emitValue", desc := "(I)V" }
theorem k1601 : (Jvm.Cond.code ({ cls := "PagedValuesModel", name := "emitValue", desc := "(I)V" } : Jvm.MethodName) prog_15_method_85_code (6 : Nat) (Option.none : Option Jvm.ClassFile.FieldType)) ∈ TB := tk_7 161 rfl rfl
theorem k1598 : (Jvm.Cond.methodLink "PagedValuesModel" (417 : Nat) ({ cls := "PagedValuesModel", name := "emitValue", desc := "(I)V" } : Jvm.MethodName)) ∈ TB := tk_7 158 rfl rfl
theorem k1600 : (Jvm.Cond.instanceMethod ({ cls := "PagedValuesModel", name := "emitValue", desc := "(I)V" } : Jvm.MethodName)) ∈ TB := tk_7 160 rfl rfl
theorem ks98 : Cond.selects y15_85.cls y15_85 y15_85 ∈ TB := List.mem_filter.mpr ⟨List.mem_append_left _ (List.mem_of_getElem? (i := 98) (by decide +kernel)), rfl⟩
theorem d15_86_24 : decode prog_15_method_86_code 24 = .ok (.invokevirtual 417, 3) := by decide +kernel
theorem d15_86_27 : decode prog_15_method_86_code 27 = .ok (.aload_n 0, 1) := by decide +kernel
theorem d15_86_28 : decode prog_15_method_86_code 28 = .ok (.getfield 398, 3) := by decide +kernel
theorem d15_86_31 : decode prog_15_method_86_code 31 = .ok (.ireturn, 1) := by decide +kernel
theorem d15_86_14 : decode prog_15_method_86_code 14 = .ok (.iconst (-1), 1) := by decide +kernel
theorem d15_86_15 : decode prog_15_method_86_code 15 = .ok (.ireturn, 1) := by decide +kernel
def y15_86 : MethodName := { cls := "PagedValuesModel", name := "show", desc := "(I)I" }
def m_emit (a0 : Int32) (st : MS) : Option (MS) := (some ((a0.toUInt32 % 65536).toInt32)).bind fun y1 => (ix 1200 (st.1 11)).bind fun k2z => (some (vp_nar .char y1)).bind fun y3 => (some ((st.1 11) + 1)).bind fun y4 => some (upd st.1 11 y4, st.2.1, va_up st.2.2.1 11 (upd (st.2.2.1 11) k2z y3), st.2.2.2)
set_option maxHeartbeats 4000000 in
set_option maxRecDepth 100000 in
theorem cm_emit (l : Launch) (G : Gk) (Zd : Nat → Nat) (q : Nat → Nat) (a0 : Int32) (st : MS) (st0 : MS) (hm : m_emit a0 st = some st0) (sz : Nat) : Met l y15_80 (Cond.code y15_80 prog_15_method_80_code 2 none :: TB) (rmD 0 0 0) (va_Pc [.ref (q 0), .int a0] (pcW G Zd (wMs q G.2 st) sz)) (qV G (fun (_ : Unit) => True) (fun _ => (wMs q G.2 st0)) (va_A (wMs q G.2 st) sz)) 0 0 (va_A (wMs q G.2 st) sz) := by
  refine go (y := y15_80) (cc := prog_15_method_80_code) (maxL := 2) (ret := none) (av := [.ref (q 0), .int a0]) (Qc := qV G (fun (_ : Unit) => True) (fun _ => (wMs q G.2 st0))) "PagedValuesModel" rfl (by decide) (Nat.le_of_ble_eq_true rfl) ?_
  intro p e s m below meth c ls A hx hb hr hlk hml hown hts hin hl hP hD hK hS hA hZ
  have hl : lv_has ls 2 [(0, .ref (q 0)), (1, .int a0)] := hl
  have h := hm
  clear hm
  refine lv_aload_n hx hb d15_80_0 rfl (lv_at hl 0 rfl) ?_
  refine va_get (D := G.1) (ci := 13) (v := .ref (q 18)) (C := r_13) (T := f_13) (N := 42) (ref := "PagedValuesModel") hx hb hts (fun w h => List.mem_cons_of_mem _ (ly_13 w h)) hown hK hP 0 rfl rfl 31 (by decide) (hts _ (List.mem_cons_of_mem _ k1182)) (fun _ h9 => h9) rfl d15_80_1 ?_
  refine lv_aload_n hx hb d15_80_4 rfl (lv_at hl 0 rfl) ?_
  refine va_get (D := G.1) (ci := 13) (v := .int (st.1 11)) (C := r_13) (T := f_13) (N := 42) (ref := "PagedValuesModel") hx hb hts (fun w h => List.mem_cons_of_mem _ (ly_13 w h)) hown hK hP 0 rfl rfl 30 (by decide) (hts _ (List.mem_cons_of_mem _ k1181)) (fun _ h9 => h9) rfl d15_80_5 ?_
  refine lv_iload_n hx hb d15_80_8 rfl (lv_at hl 1 rfl) ?_
  refine lv_i2c hx hb d15_80_9 rfl ?_
  obtain ⟨y1, hr, h⟩ := ob h
  refine lv_topi (fun y9 ey => ?_)
  have e9 := ey.trans (Option.some.inj hr)
  clear ey
  subst y9
  clear hr
  obtain ⟨k2z, hr, h⟩ := ob h
  obtain ⟨hi, hk⟩ := ix_some hr
  clear hr
  refine va_cast (D := G.1) hx hb hK hP hD hS 18 0 rfl rfl (i := st.1 11) (x := y1) hi d15_80_10 (fun H locs hP hD hS => ?_)
  rw [hk] at hP hD
  clear hk hi
  obtain ⟨y3, hr, h⟩ := ob h
  rw [Option.some.inj hr] at hP hD
  clear hr
  have hP : va_P G.1 vwCl (wMs q G.2 (st.1, st.2.1, va_up st.2.2.1 11 (upd (st.2.2.1 11) k2z y3), st.2.2.2)) H := hP
  have hD : va_D A (wMs q G.2 (st.1, st.2.1, va_up st.2.2.1 11 (upd (st.2.2.1 11) k2z y3), st.2.2.2)) := hD
  refine lv_aload_n hx hb d15_80_11 rfl (lv_at hl 0 rfl) ?_
  refine lv_dup hx hb d15_80_12 rfl ?_
  refine va_get (D := G.1) (ci := 13) (v := .int (st.1 11)) (C := r_13) (T := f_13) (N := 42) (ref := "PagedValuesModel") hx hb hts (fun w h => List.mem_cons_of_mem _ (ly_13 w h)) hown hK hP 0 rfl rfl 30 (by decide) (hts _ (List.mem_cons_of_mem _ k1181)) (fun _ h9 => h9) rfl d15_80_13 ?_
  refine lv_iconst (v := 1) hx hb d15_80_16 (by decide) ?_
  refine lv_iadd hx hb d15_80_17 ?_
  obtain ⟨y4, hr, h⟩ := ob h
  refine lv_topi (fun y9 ey => ?_)
  have e9 := ey.trans (Option.some.inj hr)
  clear ey
  subst y9
  clear hr
  refine va_put (D := G.1) (ci := 13) (v := .int y4) (ty := .int) (C := r_13) (T := f_13) (N := 42) (ref := "PagedValuesModel") hx hb hts (fun w h => List.mem_cons_of_mem _ (ly_13 w h)) ft_13 ft_13_ok nm_13 hown hK hP hD hS 0 rfl rfl 30 (by decide) (hts _ (List.mem_cons_of_mem _ k1181)) (fun _ h9 => h9) rfl (by decide +kernel) rfl rfl (Nat.le_of_ble_eq_true rfl) d15_80_18 (fun H locs hP hD hS => ?_)
  have hP : va_P G.1 vwCl (wMs q G.2 (upd st.1 11 y4, st.2.1, va_up st.2.2.1 11 (upd (st.2.2.1 11) k2z y3), st.2.2.2)) H := hP
  have hD : va_D A (wMs q G.2 (upd st.1 11 y4, st.2.1, va_up st.2.2.1 11 (upd (st.2.2.1 11) k2z y3), st.2.2.2)) := hD
  cases h
  exact fin_v hx hb hr hlk hS () trivial hP hD (Nat.le_of_ble_eq_true rfl) (Nat.le_of_ble_eq_true rfl) d15_80_21
def m_emitString_l1 (a0 : Int64) (a1 : Int64) : Nat → (Int32 × MS) → Option (Int32 × MS)
  | 0, _ => none
  | n9 + 1, e9 => (m_lengthOf a0).bind fun x13 => if x13 ≤ e9.1 then (some (e9.1, e9.2)) else ((m_charOf a0 a1 e9.1).bind fun x17 => (if x17 = (34 : Int32) then ((m_emit (92 : Int32) e9.2).bind fun st27 => some st27) else (if x17 = (92 : Int32) then ((m_emit (92 : Int32) e9.2).bind fun st31 => some st31) else (some e9.2))).bind fun e21 => (m_emit x17 e21).bind fun st24 => m_emitString_l1 a0 a1 n9 (e9.1 + 1, st24))
theorem m_emitString_l1_s (a0 : Int64) (a1 : Int64) (n9 : Nat) (e9 : Int32 × MS) : m_emitString_l1 a0 a1 (n9 + 1) e9 = ((m_lengthOf a0).bind fun x13 => if x13 ≤ e9.1 then (some (e9.1, e9.2)) else ((m_charOf a0 a1 e9.1).bind fun x17 => (if x17 = (34 : Int32) then ((m_emit (92 : Int32) e9.2).bind fun st27 => some st27) else (if x17 = (92 : Int32) then ((m_emit (92 : Int32) e9.2).bind fun st31 => some st31) else (some e9.2))).bind fun e21 => (m_emit x17 e21).bind fun st24 => m_emitString_l1 a0 a1 n9 (e9.1 + 1, st24))) := rfl
def m_emitString (a0 : Int64) (a1 : Int64) (st : MS) : Option (MS) := (m_emit (34 : Int32) st).bind fun st2 => (m_emitString_l1 a0 a1 4096 ((0 : Int32), st2)).bind fun e4 => (m_emit (34 : Int32) e4.2).bind fun st11 => some st11
set_option maxHeartbeats 4000000 in
set_option maxRecDepth 100000 in
theorem cm_emitString (l : Launch) (G : Gk) (Zd : Nat → Nat) (q : Nat → Nat) (a0 : Int64) (a1 : Int64) (st : MS) (st0 : MS) (hm : m_emitString a0 a1 st = some st0) (sz : Nat) : Met l y15_81 (Cond.code y15_81 prog_15_method_81_code 7 none :: TB) (rmD 1 0 0) (va_Pc [.ref (q 0), .long a0, .long a1] (pcW G Zd (wMs q G.2 st) sz)) (qV G (fun (_ : Unit) => True) (fun _ => (wMs q G.2 st0)) (va_A (wMs q G.2 st) sz)) 0 0 (va_A (wMs q G.2 st) sz) := by
  refine go (y := y15_81) (cc := prog_15_method_81_code) (maxL := 7) (ret := none) (av := [.ref (q 0), .long a0, .long a1]) (Qc := qV G (fun (_ : Unit) => True) (fun _ => (wMs q G.2 st0))) "PagedValuesModel" rfl (by decide) (Nat.le_of_ble_eq_true rfl) ?_
  intro p e s m below meth c ls A hx hb hr hlk hml hown hts hin hl hP hD hK hS hA hZ
  have hl : lv_has ls 7 [(0, .ref (q 0)), (1, .long a0), (3, .long a1)] := hl
  have h := hm
  clear hm
  refine lv_aload_n hx hb d15_81_0 rfl (lv_at hl 0 rfl) ?_
  refine lv_bipush (v := 34) hx hb d15_81_1 (by decide) ?_
  obtain ⟨st2, hc, h⟩ := ob h
  refine sV_v (As := [.int 34]) (rest := []) ⟨hx, hb, hml, hown, hts⟩ (cm_emit l G Zd q (34 : Int32) st st2 hc _) (kw_V (n := 1) hts k1605 k1602 k15 k1604 ks99 (by decide +kernel) ⟨Nat.le_of_ble_eq_true rfl, Nat.le_of_ble_eq_true rfl⟩) hP hD hK hS hA hZ (va_recv (ci := 13) (q0 := 0) hK hP rfl rfl) rfl hl.1 rfl (Nat.le_of_ble_eq_true rfl) d15_81_3 ⟨Nat.le_of_ble_eq_true rfl, Nat.le_of_ble_eq_true rfl⟩ (fun u9 H locs hp hP hD hS => ?_)
  clear u9
  clear hp
  clear hc
  refine W.eq (g2 := F0 m 6 ls []) rfl ?_
  have hP : va_P G.1 vwCl (wMs q G.2 st2) H := hP
  have hD : va_D A (wMs q G.2 st2) := hD
  refine lv_iconst (v := 0) hx hb d15_81_6 (by decide) ?_
  refine lv_istore (lv' := [(5, .int 0), (0, .ref (q 0)), (1, .long a0), (3, .long a1)]) hx hb d15_81_7 hl (by decide) rfl (fun ls hl => ?_)
  obtain ⟨e4, hX, hrest⟩ := ob h
  clear h
  have hj : ∀ (v8 : Int32) (v9 : MS), e4 = (v8, v9) → ∀ (H : Heap) (locs : List Loc) (ls : Array Slot), lv_has ls 7 [(0, .ref (q 0)), (1, .long a0), (3, .long a1), (5, .int v8)] → va_P G.1 vwCl (wMs q G.2 v9) H → va_D A (wMs q G.2 v9) → va_S A s.heap H locs → W p l e (rmD 1 0 0) s m ([.ref (q 0), .long a0, .long a1] : List Value).toArray below meth c H locs 0 0 (MQ below (qV G (fun (_ : Unit) => True) (fun _ => (wMs q G.2 st0)) A) ([.ref (q 0), .long a0, .long a1] : List Value).toArray s 0 0 A) (F0 m 59 ls []) := by
    intro v8 v9 he H locs ls hl hP hD hS
    subst e4
    have h := hrest
    refine lv_aload_n hx hb d15_81_59 rfl (lv_at hl 0 rfl) ?_
    refine lv_bipush (v := 34) hx hb d15_81_60 (by decide) ?_
    obtain ⟨st11, hc, h⟩ := ob h
    refine sV_v (As := [.int 34]) (rest := []) ⟨hx, hb, hml, hown, hts⟩ (cm_emit l G Zd q (34 : Int32) v9 st11 hc _) (kw_V (n := 1) hts k1605 k1602 k15 k1604 ks99 (by decide +kernel) ⟨Nat.le_of_ble_eq_true rfl, Nat.le_of_ble_eq_true rfl⟩) hP hD hK hS hA hZ (va_recv (ci := 13) (q0 := 0) hK hP rfl rfl) rfl hl.1 rfl (Nat.le_of_ble_eq_true rfl) d15_81_62 ⟨Nat.le_of_ble_eq_true rfl, Nat.le_of_ble_eq_true rfl⟩ (fun u9 H locs hp hP hD hS => ?_)
    clear u9
    clear hp
    clear hc
    refine W.eq (g2 := F0 m 65 ls []) rfl ?_
    have hP : va_P G.1 vwCl (wMs q G.2 st11) H := hP
    have hD : va_D A (wMs q G.2 st11) := hD
    cases h
    exact fin_v hx hb hr hlk hS () trivial hP hD (Nat.le_of_ble_eq_true rfl) (Nat.le_of_ble_eq_true rfl) d15_81_65
  have hloop : ∀ (n9 : Nat) (v5 : Int32) (v6 : MS), m_emitString_l1 a0 a1 n9 (v5, v6) = some e4 → ∀ (H : Heap) (locs : List Loc) (ls : Array Slot), lv_has ls 7 [(0, .ref (q 0)), (1, .long a0), (3, .long a1), (5, .int v5)] → va_P G.1 vwCl (wMs q G.2 v6) H → va_D A (wMs q G.2 v6) → va_S A s.heap H locs → W p l e (rmD 1 0 0) s m ([.ref (q 0), .long a0, .long a1] : List Value).toArray below meth c H locs 0 0 (MQ below (qV G (fun (_ : Unit) => True) (fun _ => (wMs q G.2 st0)) A) ([.ref (q 0), .long a0, .long a1] : List Value).toArray s 0 0 A) (F0 m 9 ls []) := by
    intro n9
    induction n9 with
    | zero =>
      intro v5 v6 h
      cases h
    | succ n9 ih =>
      intro v5 v6 h H locs ls hl hP hD hS
      replace h := (m_emitString_l1_s a0 a1 n9 (v5, v6)).symm.trans h
      refine lv_iload hx hb d15_81_9 (lv_at hl 3 rfl) ?_
      refine lv_lload_n hx hb d15_81_11 rfl (lv_at hl 1 rfl) ?_
      obtain ⟨x13, hc, h⟩ := ob h
      refine sS_i (As := [.long a0]) (rest := [.int v5]) ⟨hx, hb, hml, hown, hts⟩ (cm_lengthOf l G Zd _ a0 x13 hc _) (kw_S (n := 1) hts k1343 k1341 k15 k1342 (by decide +kernel) ⟨Nat.le_of_ble_eq_true rfl, Nat.le_of_ble_eq_true rfl⟩) hP hD hK hS hA hZ rfl hl.1 rfl (Nat.le_of_ble_eq_true rfl) d15_81_12 ⟨Nat.le_of_ble_eq_true rfl, Nat.le_of_ble_eq_true rfl⟩ (fun rr u9 H locs hp hP hD hS => ?_)
      clear u9
      subst rr
      clear hc
      refine W.eq (g2 := F0 m 15 ls [.int x13, .int v5]) rfl ?_
      have hP : va_P G.1 vwCl (wMs q G.2 v6) H := hP
      have hD : va_D A (wMs q G.2 v6) := hD
      refine lv_icmp_ge (tgt := 59) hx hb d15_81_15 rfl (fun c16 => ?_) (fun c16 => ?_)
      ·
        replace h := (if_pos c16).symm.trans h
        have e9 := Option.some.inj h
        subst e4
        have hl := lv_sub hl (l' := [(0, .ref (q 0)), (1, .long a0), (3, .long a1), (5, .int v5)]) [0, 1, 2, 3] rfl
        exact hj _ _ rfl _ _ _ hl hP hD hS
      ·
        replace h := (if_neg c16).symm.trans h
        refine lv_lload_n hx hb d15_81_18 rfl (lv_at hl 1 rfl) ?_
        refine lv_lload_n hx hb d15_81_19 rfl (lv_at hl 2 rfl) ?_
        refine lv_iload hx hb d15_81_20 (lv_at hl 3 rfl) ?_
        obtain ⟨x17, hc, h⟩ := ob h
        refine sS_i (As := [.long a0, .long a1, .int v5]) (rest := []) ⟨hx, hb, hml, hown, hts⟩ (cm_charOf l G Zd _ a0 a1 v5 x17 hc _) (kw_S (n := 3) hts k1466 k1464 k15 k1465 (by decide +kernel) ⟨Nat.le_of_ble_eq_true rfl, Nat.le_of_ble_eq_true rfl⟩) hP hD hK hS hA hZ rfl hl.1 rfl (Nat.le_of_ble_eq_true rfl) d15_81_22 ⟨Nat.le_of_ble_eq_true rfl, Nat.le_of_ble_eq_true rfl⟩ (fun rr u9 H locs hp hP hD hS => ?_)
        clear u9
        subst rr
        clear hc
        refine W.eq (g2 := F0 m 25 ls [.int x17]) rfl ?_
        have hP : va_P G.1 vwCl (wMs q G.2 v6) H := hP
        have hD : va_D A (wMs q G.2 v6) := hD
        refine lv_istore (lv' := [(6, .int x17), (0, .ref (q 0)), (1, .long a0), (3, .long a1), (5, .int v5)]) hx hb d15_81_25 hl (by decide) rfl (fun ls hl => ?_)
        refine lv_iload hx hb d15_81_27 (lv_at hl 0 rfl) ?_
        refine lv_bipush (v := 34) hx hb d15_81_29 (by decide) ?_
        obtain ⟨e21, hX, h⟩ := ob h
        have hj : ∀ (H : Heap) (locs : List Loc) (ls : Array Slot), lv_has ls 7 [(0, .ref (q 0)), (1, .long a0), (3, .long a1), (5, .int v5), (6, .int x17)] → va_P G.1 vwCl (wMs q G.2 e21) H → va_D A (wMs q G.2 e21) → va_S A s.heap H locs → W p l e (rmD 1 0 0) s m ([.ref (q 0), .long a0, .long a1] : List Value).toArray below meth c H locs 0 0 (MQ below (qV G (fun (_ : Unit) => True) (fun _ => (wMs q G.2 st0)) A) ([.ref (q 0), .long a0, .long a1] : List Value).toArray s 0 0 A) (F0 m 47 ls []) := by
          intro H locs ls hl hP hD hS
          refine lv_aload_n hx hb d15_81_47 rfl (lv_at hl 0 rfl) ?_
          refine lv_iload hx hb d15_81_48 (lv_at hl 4 rfl) ?_
          obtain ⟨st24, hc, h⟩ := ob h
          refine sV_v (As := [.int x17]) (rest := []) ⟨hx, hb, hml, hown, hts⟩ (cm_emit l G Zd q x17 e21 st24 hc _) (kw_V (n := 1) hts k1605 k1602 k15 k1604 ks99 (by decide +kernel) ⟨Nat.le_of_ble_eq_true rfl, Nat.le_of_ble_eq_true rfl⟩) hP hD hK hS hA hZ (va_recv (ci := 13) (q0 := 0) hK hP rfl rfl) rfl hl.1 rfl (Nat.le_of_ble_eq_true rfl) d15_81_50 ⟨Nat.le_of_ble_eq_true rfl, Nat.le_of_ble_eq_true rfl⟩ (fun u9 H locs hp hP hD hS => ?_)
          clear u9
          clear hp
          clear hc
          refine W.eq (g2 := F0 m 53 ls []) rfl ?_
          have hP : va_P G.1 vwCl (wMs q G.2 st24) H := hP
          have hD : va_D A (wMs q G.2 st24) := hD
          refine lv_iinc (k := 3) (v := v5 + 1) (lv' := [(5, .int (v5 + 1)), (0, .ref (q 0)), (1, .long a0), (3, .long a1), (6, .int x17)]) hx hb d15_81_53 hl rfl (by first | decide | rfl) (by decide) rfl (fun ls hl => ?_)
          refine lv_goto (tgt := 9) hx hb d15_81_56 rfl ?_
          have hl := lv_sub hl (l' := [(0, .ref (q 0)), (1, .long a0), (3, .long a1), (5, .int (v5 + 1))]) [1, 2, 3, 0] rfl
          exact ih _ _ h _ _ _ hl hP hD hS
        clear h
        refine lv_icmp_eq (tgt := 41) hx hb d15_81_31 rfl (fun c20 => ?_) (fun c20 => ?_)
        ·
          replace h := (if_pos c20).symm.trans hX
          refine lv_aload_n hx hb d15_81_41 rfl (lv_at hl 1 rfl) ?_
          refine lv_bipush (v := 92) hx hb d15_81_42 (by decide) ?_
          obtain ⟨st27, hc, h⟩ := ob h
          refine sV_v (As := [.int 92]) (rest := []) ⟨hx, hb, hml, hown, hts⟩ (cm_emit l G Zd q (92 : Int32) v6 st27 hc _) (kw_V (n := 1) hts k1605 k1602 k15 k1604 ks99 (by decide +kernel) ⟨Nat.le_of_ble_eq_true rfl, Nat.le_of_ble_eq_true rfl⟩) hP hD hK hS hA hZ (va_recv (ci := 13) (q0 := 0) hK hP rfl rfl) rfl hl.1 rfl (Nat.le_of_ble_eq_true rfl) d15_81_44 ⟨Nat.le_of_ble_eq_true rfl, Nat.le_of_ble_eq_true rfl⟩ (fun u9 H locs hp hP hD hS => ?_)
          clear u9
          clear hp
          clear hc
          refine W.eq (g2 := F0 m 47 ls []) rfl ?_
          have hP : va_P G.1 vwCl (wMs q G.2 st27) H := hP
          have hD : va_D A (wMs q G.2 st27) := hD
          have e9 := Option.some.inj h
          subst e21
          have hl := lv_sub hl (l' := [(0, .ref (q 0)), (1, .long a0), (3, .long a1), (5, .int v5), (6, .int x17)]) [1, 2, 3, 4, 0] rfl
          exact hj _ _ _ hl hP hD hS
        ·
          replace h := (if_neg c20).symm.trans hX
          refine lv_iload hx hb d15_81_34 (lv_at hl 0 rfl) ?_
          refine lv_bipush (v := 92) hx hb d15_81_36 (by decide) ?_
          refine lv_icmp_ne (tgt := 47) hx hb d15_81_38 rfl (fun c29 => ?_) (fun c29 => ?_)
          ·
            replace h := (if_neg c29).symm.trans h
            have e9 := Option.some.inj h
            subst e21
            have hl := lv_sub hl (l' := [(0, .ref (q 0)), (1, .long a0), (3, .long a1), (5, .int v5), (6, .int x17)]) [1, 2, 3, 4, 0] rfl
            exact hj _ _ _ hl hP hD hS
          ·
            replace h := (if_pos c29).symm.trans h
            refine lv_aload_n hx hb d15_81_41 rfl (lv_at hl 1 rfl) ?_
            refine lv_bipush (v := 92) hx hb d15_81_42 (by decide) ?_
            obtain ⟨st31, hc, h⟩ := ob h
            refine sV_v (As := [.int 92]) (rest := []) ⟨hx, hb, hml, hown, hts⟩ (cm_emit l G Zd q (92 : Int32) v6 st31 hc _) (kw_V (n := 1) hts k1605 k1602 k15 k1604 ks99 (by decide +kernel) ⟨Nat.le_of_ble_eq_true rfl, Nat.le_of_ble_eq_true rfl⟩) hP hD hK hS hA hZ (va_recv (ci := 13) (q0 := 0) hK hP rfl rfl) rfl hl.1 rfl (Nat.le_of_ble_eq_true rfl) d15_81_44 ⟨Nat.le_of_ble_eq_true rfl, Nat.le_of_ble_eq_true rfl⟩ (fun u9 H locs hp hP hD hS => ?_)
            clear u9
            clear hp
            clear hc
            refine W.eq (g2 := F0 m 47 ls []) rfl ?_
            have hP : va_P G.1 vwCl (wMs q G.2 st31) H := hP
            have hD : va_D A (wMs q G.2 st31) := hD
            have e9 := Option.some.inj h
            subst e21
            have hl := lv_sub hl (l' := [(0, .ref (q 0)), (1, .long a0), (3, .long a1), (5, .int v5), (6, .int x17)]) [1, 2, 3, 4, 0] rfl
            exact hj _ _ _ hl hP hD hS
  have hl := lv_sub hl (l' := [(0, .ref (q 0)), (1, .long a0), (3, .long a1), (5, .int 0)]) [1, 2, 3, 0] rfl
  exact hloop _ _ _ hX _ _ _ hl hP hD hS
def m_emitFour (a0 : Int32) (a1 : Int32) (a2 : Int32) (a3 : Int32) (st : MS) : Option (MS) := (m_emit a0 st).bind fun st2 => (m_emit a1 st2).bind fun st5 => (m_emit a2 st5).bind fun st8 => (m_emit a3 st8).bind fun st11 => some st11
set_option maxHeartbeats 4000000 in
set_option maxRecDepth 100000 in
theorem cm_emitFour (l : Launch) (G : Gk) (Zd : Nat → Nat) (q : Nat → Nat) (a0 : Int32) (a1 : Int32) (a2 : Int32) (a3 : Int32) (st : MS) (st0 : MS) (hm : m_emitFour a0 a1 a2 a3 st = some st0) (sz : Nat) : Met l y15_83 (Cond.code y15_83 prog_15_method_83_code 5 none :: TB) (rmD 1 0 0) (va_Pc [.ref (q 0), .int a0, .int a1, .int a2, .int a3] (pcW G Zd (wMs q G.2 st) sz)) (qV G (fun (_ : Unit) => True) (fun _ => (wMs q G.2 st0)) (va_A (wMs q G.2 st) sz)) 0 0 (va_A (wMs q G.2 st) sz) := by
  refine go (y := y15_83) (cc := prog_15_method_83_code) (maxL := 5) (ret := none) (av := [.ref (q 0), .int a0, .int a1, .int a2, .int a3]) (Qc := qV G (fun (_ : Unit) => True) (fun _ => (wMs q G.2 st0))) "PagedValuesModel" rfl (by decide) (Nat.le_of_ble_eq_true rfl) ?_
  intro p e s m below meth c ls A hx hb hr hlk hml hown hts hin hl hP hD hK hS hA hZ
  have hl : lv_has ls 5 [(0, .ref (q 0)), (1, .int a0), (2, .int a1), (3, .int a2), (4, .int a3)] := hl
  have h := hm
  clear hm
  refine lv_aload_n hx hb d15_83_0 rfl (lv_at hl 0 rfl) ?_
  refine lv_iload_n hx hb d15_83_1 rfl (lv_at hl 1 rfl) ?_
  obtain ⟨st2, hc, h⟩ := ob h
  refine sV_v (As := [.int a0]) (rest := []) ⟨hx, hb, hml, hown, hts⟩ (cm_emit l G Zd q a0 st st2 hc _) (kw_V (n := 1) hts k1605 k1602 k15 k1604 ks99 (by decide +kernel) ⟨Nat.le_of_ble_eq_true rfl, Nat.le_of_ble_eq_true rfl⟩) hP hD hK hS hA hZ (va_recv (ci := 13) (q0 := 0) hK hP rfl rfl) rfl hl.1 rfl (Nat.le_of_ble_eq_true rfl) d15_83_2 ⟨Nat.le_of_ble_eq_true rfl, Nat.le_of_ble_eq_true rfl⟩ (fun u9 H locs hp hP hD hS => ?_)
  clear u9
  clear hp
  clear hc
  refine W.eq (g2 := F0 m 5 ls []) rfl ?_
  have hP : va_P G.1 vwCl (wMs q G.2 st2) H := hP
  have hD : va_D A (wMs q G.2 st2) := hD
  refine lv_aload_n hx hb d15_83_5 rfl (lv_at hl 0 rfl) ?_
  refine lv_iload_n hx hb d15_83_6 rfl (lv_at hl 2 rfl) ?_
  obtain ⟨st5, hc, h⟩ := ob h
  refine sV_v (As := [.int a1]) (rest := []) ⟨hx, hb, hml, hown, hts⟩ (cm_emit l G Zd q a1 st2 st5 hc _) (kw_V (n := 1) hts k1605 k1602 k15 k1604 ks99 (by decide +kernel) ⟨Nat.le_of_ble_eq_true rfl, Nat.le_of_ble_eq_true rfl⟩) hP hD hK hS hA hZ (va_recv (ci := 13) (q0 := 0) hK hP rfl rfl) rfl hl.1 rfl (Nat.le_of_ble_eq_true rfl) d15_83_7 ⟨Nat.le_of_ble_eq_true rfl, Nat.le_of_ble_eq_true rfl⟩ (fun u9 H locs hp hP hD hS => ?_)
  clear u9
  clear hp
  clear hc
  refine W.eq (g2 := F0 m 10 ls []) rfl ?_
  have hP : va_P G.1 vwCl (wMs q G.2 st5) H := hP
  have hD : va_D A (wMs q G.2 st5) := hD
  refine lv_aload_n hx hb d15_83_10 rfl (lv_at hl 0 rfl) ?_
  refine lv_iload_n hx hb d15_83_11 rfl (lv_at hl 3 rfl) ?_
  obtain ⟨st8, hc, h⟩ := ob h
  refine sV_v (As := [.int a2]) (rest := []) ⟨hx, hb, hml, hown, hts⟩ (cm_emit l G Zd q a2 st5 st8 hc _) (kw_V (n := 1) hts k1605 k1602 k15 k1604 ks99 (by decide +kernel) ⟨Nat.le_of_ble_eq_true rfl, Nat.le_of_ble_eq_true rfl⟩) hP hD hK hS hA hZ (va_recv (ci := 13) (q0 := 0) hK hP rfl rfl) rfl hl.1 rfl (Nat.le_of_ble_eq_true rfl) d15_83_12 ⟨Nat.le_of_ble_eq_true rfl, Nat.le_of_ble_eq_true rfl⟩ (fun u9 H locs hp hP hD hS => ?_)
  clear u9
  clear hp
  clear hc
  refine W.eq (g2 := F0 m 15 ls []) rfl ?_
  have hP : va_P G.1 vwCl (wMs q G.2 st8) H := hP
  have hD : va_D A (wMs q G.2 st8) := hD
  refine lv_aload_n hx hb d15_83_15 rfl (lv_at hl 0 rfl) ?_
  refine lv_iload hx hb d15_83_16 (lv_at hl 4 rfl) ?_
  obtain ⟨st11, hc, h⟩ := ob h
  refine sV_v (As := [.int a3]) (rest := []) ⟨hx, hb, hml, hown, hts⟩ (cm_emit l G Zd q a3 st8 st11 hc _) (kw_V (n := 1) hts k1605 k1602 k15 k1604 ks99 (by decide +kernel) ⟨Nat.le_of_ble_eq_true rfl, Nat.le_of_ble_eq_true rfl⟩) hP hD hK hS hA hZ (va_recv (ci := 13) (q0 := 0) hK hP rfl rfl) rfl hl.1 rfl (Nat.le_of_ble_eq_true rfl) d15_83_18 ⟨Nat.le_of_ble_eq_true rfl, Nat.le_of_ble_eq_true rfl⟩ (fun u9 H locs hp hP hD hS => ?_)
  clear u9
  clear hp
  clear hc
  refine W.eq (g2 := F0 m 21 ls []) rfl ?_
  have hP : va_P G.1 vwCl (wMs q G.2 st11) H := hP
  have hD : va_D A (wMs q G.2 st11) := hD
  cases h
  exact fin_v hx hb hr hlk hS () trivial hP hD (Nat.le_of_ble_eq_true rfl) (Nat.le_of_ble_eq_true rfl) d15_83_21
def m_emitNumber_l2 (y5 : Int32) : Nat → (Int32 × MS) → Option (Int32 × MS)
  | 0, _ => none
  | n9 + 1, e9 => if e9.1 ≤ (0 : Int32) then (some (e9.1, e9.2)) else ((nz e9.1).bind fun _ => (some ((y5 / e9.1) - (y5 / e9.1) / 10 * 10)).bind fun y21 => (some (48 + y21)).bind fun y22 => (m_emit y22 e9.2).bind fun st24 => (some (e9.1 / 10)).bind fun y26 => m_emitNumber_l2 y5 n9 (y26, st24))
theorem m_emitNumber_l2_s (y5 : Int32) (n9 : Nat) (e9 : Int32 × MS) : m_emitNumber_l2 y5 (n9 + 1) e9 = (if e9.1 ≤ (0 : Int32) then (some (e9.1, e9.2)) else ((nz e9.1).bind fun _ => (some ((y5 / e9.1) - (y5 / e9.1) / 10 * 10)).bind fun y21 => (some (48 + y21)).bind fun y22 => (m_emit y22 e9.2).bind fun st24 => (some (e9.1 / 10)).bind fun y26 => m_emitNumber_l2 y5 n9 (y26, st24))) := rfl
def m_emitNumber_l1 (y5 : Int32) : Nat → (Int32) → Option (Int32)
  | 0, _ => none
  | n9 + 1, e9 => (nz e9).bind fun _ => if (y5 / e9) ≤ (9 : Int32) then (some e9) else ((some (e9 * 10)).bind fun y28 => m_emitNumber_l1 y5 n9 y28)
theorem m_emitNumber_l1_s (y5 : Int32) (n9 : Nat) (e9 : Int32) : m_emitNumber_l1 y5 (n9 + 1) e9 = ((nz e9).bind fun _ => if (y5 / e9) ≤ (9 : Int32) then (some e9) else ((some (e9 * 10)).bind fun y28 => m_emitNumber_l1 y5 n9 y28)) := rfl
def m_emitNumber (a0 : Int64) (st : MS) : Option (MS) := (some (lg_cmp a0 (0 : Int64))).bind fun y1 => (if (0 : Int32) ≤ y1 then (some a0) else ((some (-a0)).bind fun y32 => some y32)).bind fun e3 => (some e3.toInt32).bind fun y5 => (some (lg_cmp a0 (0 : Int64))).bind fun y6 => (if (0 : Int32) ≤ y6 then (some st) else ((m_emit (45 : Int32) st).bind fun st30 => some st30)).bind fun e8 => (m_emitNumber_l1 y5 4096 (1 : Int32)).bind fun e10 => (m_emitNumber_l2 y5 4096 (e10, e8)).bind fun e14 => some e14.2
set_option maxHeartbeats 4000000 in
set_option maxRecDepth 100000 in
theorem cm_emitNumber (l : Launch) (G : Gk) (Zd : Nat → Nat) (q : Nat → Nat) (a0 : Int64) (st : MS) (st0 : MS) (hm : m_emitNumber a0 st = some st0) (sz : Nat) : Met l y15_82 (Cond.code y15_82 prog_15_method_82_code 5 none :: TB) (rmD 1 0 0) (va_Pc [.ref (q 0), .long a0] (pcW G Zd (wMs q G.2 st) sz)) (qV G (fun (_ : Unit) => True) (fun _ => (wMs q G.2 st0)) (va_A (wMs q G.2 st) sz)) 0 0 (va_A (wMs q G.2 st) sz) := by
  refine go (y := y15_82) (cc := prog_15_method_82_code) (maxL := 5) (ret := none) (av := [.ref (q 0), .long a0]) (Qc := qV G (fun (_ : Unit) => True) (fun _ => (wMs q G.2 st0))) "PagedValuesModel" rfl (by decide) (Nat.le_of_ble_eq_true rfl) ?_
  intro p e s m below meth c ls A hx hb hr hlk hml hown hts hin hl hP hD hK hS hA hZ
  have hl : lv_has ls 5 [(0, .ref (q 0)), (1, .long a0)] := hl
  have h := hm
  clear hm
  refine lv_lload_n hx hb d15_82_0 rfl (lv_at hl 1 rfl) ?_
  refine lv_lconst (v := 0) hx hb d15_82_1 (by decide) ?_
  refine W.lcmp hx hb d15_82_2 ?_
  obtain ⟨y1, hr, h⟩ := ob h
  refine lv_topi (fun y9 ey => ?_)
  have e9 := ey.trans (Option.some.inj hr)
  clear ey
  subst y9
  clear hr
  obtain ⟨e3, hX, h⟩ := ob h
  have hj : ∀ (H : Heap) (locs : List Loc) (ls : Array Slot), lv_has ls 5 [(0, .ref (q 0)), (1, .long a0)] → va_P G.1 vwCl (wMs q G.2 st) H → va_D A (wMs q G.2 st) → va_S A s.heap H locs → W p l e (rmD 1 0 0) s m ([.ref (q 0), .long a0] : List Value).toArray below meth c H locs 0 0 (MQ below (qV G (fun (_ : Unit) => True) (fun _ => (wMs q G.2 st0)) A) ([.ref (q 0), .long a0] : List Value).toArray s 0 0 A) (F0 m 12 ls [.long e3]) := by
    intro H locs ls hl hP hD hS
    refine lv_l2i hx hb d15_82_12 rfl ?_
    obtain ⟨y5, hr, h⟩ := ob h
    refine lv_topi (fun y9 ey => ?_)
    have e9 := ey.trans (Option.some.inj hr)
    clear ey
    subst y9
    clear hr
    refine lv_istore_n (lv' := [(3, .int y5), (0, .ref (q 0)), (1, .long a0)]) hx hb d15_82_13 rfl hl (by decide) rfl (fun ls hl => ?_)
    refine lv_lload_n hx hb d15_82_14 rfl (lv_at hl 2 rfl) ?_
    refine lv_lconst (v := 0) hx hb d15_82_15 (by decide) ?_
    refine W.lcmp hx hb d15_82_16 ?_
    obtain ⟨y6, hr, h⟩ := ob h
    refine lv_topi (fun y9 ey => ?_)
    have e9 := ey.trans (Option.some.inj hr)
    clear ey
    subst y9
    clear hr
    obtain ⟨e8, hX, h⟩ := ob h
    have hj : ∀ (H : Heap) (locs : List Loc) (ls : Array Slot), lv_has ls 5 [(0, .ref (q 0)), (1, .long a0), (3, .int y5)] → va_P G.1 vwCl (wMs q G.2 e8) H → va_D A (wMs q G.2 e8) → va_S A s.heap H locs → W p l e (rmD 1 0 0) s m ([.ref (q 0), .long a0] : List Value).toArray below meth c H locs 0 0 (MQ below (qV G (fun (_ : Unit) => True) (fun _ => (wMs q G.2 st0)) A) ([.ref (q 0), .long a0] : List Value).toArray s 0 0 A) (F0 m 26 ls []) := by
      intro H locs ls hl hP hD hS
      refine lv_iconst (v := 1) hx hb d15_82_26 (by decide) ?_
      refine lv_istore (lv' := [(4, .int 1), (0, .ref (q 0)), (1, .long a0), (3, .int y5)]) hx hb d15_82_27 hl (by decide) rfl (fun ls hl => ?_)
      obtain ⟨e10, hX, hrest⟩ := ob h
      clear h
      have hj : ∀ (v13 : Int32), e10 = (v13) → ∀ (H : Heap) (locs : List Loc) (ls : Array Slot), lv_has ls 5 [(0, .ref (q 0)), (1, .long a0), (3, .int y5), (4, .int v13)] → va_P G.1 vwCl (wMs q G.2 e8) H → va_D A (wMs q G.2 e8) → va_S A s.heap H locs → W p l e (rmD 1 0 0) s m ([.ref (q 0), .long a0] : List Value).toArray below meth c H locs 0 0 (MQ below (qV G (fun (_ : Unit) => True) (fun _ => (wMs q G.2 st0)) A) ([.ref (q 0), .long a0] : List Value).toArray s 0 0 A) (F0 m 48 ls []) := by
        intro v13 he H locs ls hl hP hD hS
        subst e10
        have h := hrest
        obtain ⟨e14, hX, hrest⟩ := ob h
        clear h
        have hj : ∀ (v18 : Int32) (v19 : MS), e14 = (v18, v19) → ∀ (H : Heap) (locs : List Loc) (ls : Array Slot), lv_has ls 5 [(0, .ref (q 0)), (1, .long a0), (3, .int y5), (4, .int v18)] → va_P G.1 vwCl (wMs q G.2 v19) H → va_D A (wMs q G.2 v19) → va_S A s.heap H locs → W p l e (rmD 1 0 0) s m ([.ref (q 0), .long a0] : List Value).toArray below meth c H locs 0 0 (MQ below (qV G (fun (_ : Unit) => True) (fun _ => (wMs q G.2 st0)) A) ([.ref (q 0), .long a0] : List Value).toArray s 0 0 A) (F0 m 77 ls []) := by
          intro v18 v19 he H locs ls hl hP hD hS
          subst e14
          have h := hrest
          cases h
          exact fin_v hx hb hr hlk hS () trivial hP hD (Nat.le_of_ble_eq_true rfl) (Nat.le_of_ble_eq_true rfl) d15_82_77
        have hloop : ∀ (n9 : Nat) (v15 : Int32) (v16 : MS), m_emitNumber_l2 y5 n9 (v15, v16) = some e14 → ∀ (H : Heap) (locs : List Loc) (ls : Array Slot), lv_has ls 5 [(0, .ref (q 0)), (1, .long a0), (3, .int y5), (4, .int v15)] → va_P G.1 vwCl (wMs q G.2 v16) H → va_D A (wMs q G.2 v16) → va_S A s.heap H locs → W p l e (rmD 1 0 0) s m ([.ref (q 0), .long a0] : List Value).toArray below meth c H locs 0 0 (MQ below (qV G (fun (_ : Unit) => True) (fun _ => (wMs q G.2 st0)) A) ([.ref (q 0), .long a0] : List Value).toArray s 0 0 A) (F0 m 48 ls []) := by
          intro n9
          induction n9 with
          | zero =>
            intro v15 v16 h
            cases h
          | succ n9 ih =>
            intro v15 v16 h H locs ls hl hP hD hS
            replace h := (m_emitNumber_l2_s y5 n9 (v15, v16)).symm.trans h
            refine lv_iload hx hb d15_82_48 (lv_at hl 3 rfl) ?_
            refine lv_if_le (tgt := 77) hx hb d15_82_50 rfl (fun c20 => ?_) (fun c20 => ?_)
            ·
              replace h := (if_pos c20).symm.trans h
              have e9 := Option.some.inj h
              subst e14
              have hl := lv_sub hl (l' := [(0, .ref (q 0)), (1, .long a0), (3, .int y5), (4, .int v15)]) [0, 1, 2, 3] rfl
              exact hj _ _ rfl _ _ _ hl hP hD hS
            ·
              replace h := (if_neg c20).symm.trans h
              refine lv_aload_n hx hb d15_82_53 rfl (lv_at hl 0 rfl) ?_
              refine lv_bipush (v := 48) hx hb d15_82_54 (by decide) ?_
              refine lv_iload_n hx hb d15_82_56 rfl (lv_at hl 2 rfl) ?_
              refine lv_iload hx hb d15_82_57 (lv_at hl 3 rfl) ?_
              obtain ⟨u9, hr, h⟩ := ob h
              have hi := nz_some hr
              clear hr u9
              refine lv_idiv hx hb d15_82_59 hi ?_
              refine lv_bipush (v := 10) hx hb d15_82_60 (by decide) ?_
              refine lv_irem hx hb d15_82_62 (by decide) ?_
              obtain ⟨y21, hr, h⟩ := ob h
              refine lv_topi (fun y9 ey => ?_)
              have e9 := ey.trans (Option.some.inj hr)
              clear ey
              subst y9
              clear hr
              refine lv_iadd hx hb d15_82_63 ?_
              obtain ⟨y22, hr, h⟩ := ob h
              refine lv_topi (fun y9 ey => ?_)
              have e9 := ey.trans (Option.some.inj hr)
              clear ey
              subst y9
              clear hr
              obtain ⟨st24, hc, h⟩ := ob h
              refine sV_v (As := [.int y22]) (rest := []) ⟨hx, hb, hml, hown, hts⟩ (cm_emit l G Zd q y22 v16 st24 hc _) (kw_V (n := 1) hts k1605 k1602 k15 k1604 ks99 (by decide +kernel) ⟨Nat.le_of_ble_eq_true rfl, Nat.le_of_ble_eq_true rfl⟩) hP hD hK hS hA hZ (va_recv (ci := 13) (q0 := 0) hK hP rfl rfl) rfl hl.1 rfl (Nat.le_of_ble_eq_true rfl) d15_82_64 ⟨Nat.le_of_ble_eq_true rfl, Nat.le_of_ble_eq_true rfl⟩ (fun u9 H locs hp hP hD hS => ?_)
              clear u9
              clear hp
              clear hc
              refine W.eq (g2 := F0 m 67 ls []) rfl ?_
              have hP : va_P G.1 vwCl (wMs q G.2 st24) H := hP
              have hD : va_D A (wMs q G.2 st24) := hD
              refine lv_iload hx hb d15_82_67 (lv_at hl 3 rfl) ?_
              refine lv_bipush (v := 10) hx hb d15_82_69 (by decide) ?_
              refine lv_idiv hx hb d15_82_71 (by decide) ?_
              obtain ⟨y26, hr, h⟩ := ob h
              refine lv_topi (fun y9 ey => ?_)
              have e9 := ey.trans (Option.some.inj hr)
              clear ey
              subst y9
              clear hr
              refine lv_istore (lv' := [(4, .int y26), (0, .ref (q 0)), (1, .long a0), (3, .int y5)]) hx hb d15_82_72 hl (by decide) rfl (fun ls hl => ?_)
              refine lv_goto (tgt := 48) hx hb d15_82_74 rfl ?_
              have hl := lv_sub hl (l' := [(0, .ref (q 0)), (1, .long a0), (3, .int y5), (4, .int y26)]) [1, 2, 3, 0] rfl
              exact ih _ _ h _ _ _ hl hP hD hS
        exact hloop _ _ _ hX _ _ _ hl hP hD hS
      have hloop : ∀ (n9 : Nat) (v11 : Int32), m_emitNumber_l1 y5 n9 (v11) = some e10 → ∀ (H : Heap) (locs : List Loc) (ls : Array Slot), lv_has ls 5 [(0, .ref (q 0)), (1, .long a0), (3, .int y5), (4, .int v11)] → va_P G.1 vwCl (wMs q G.2 e8) H → va_D A (wMs q G.2 e8) → va_S A s.heap H locs → W p l e (rmD 1 0 0) s m ([.ref (q 0), .long a0] : List Value).toArray below meth c H locs 0 0 (MQ below (qV G (fun (_ : Unit) => True) (fun _ => (wMs q G.2 st0)) A) ([.ref (q 0), .long a0] : List Value).toArray s 0 0 A) (F0 m 29 ls []) := by
        intro n9
        induction n9 with
        | zero =>
          intro v11 h
          cases h
        | succ n9 ih =>
          intro v11 h H locs ls hl hP hD hS
          replace h := (m_emitNumber_l1_s y5 n9 (v11)).symm.trans h
          refine lv_iload_n hx hb d15_82_29 rfl (lv_at hl 2 rfl) ?_
          refine lv_iload hx hb d15_82_30 (lv_at hl 3 rfl) ?_
          obtain ⟨u9, hr, h⟩ := ob h
          have hi := nz_some hr
          clear hr u9
          refine lv_idiv hx hb d15_82_32 hi ?_
          refine lv_bipush (v := 9) hx hb d15_82_33 (by decide) ?_
          refine lv_icmp_le (tgt := 48) hx hb d15_82_35 rfl (fun c27 => ?_) (fun c27 => ?_)
          ·
            replace h := (if_pos c27).symm.trans h
            have e9 := Option.some.inj h
            subst e10
            have hl := lv_sub hl (l' := [(0, .ref (q 0)), (1, .long a0), (3, .int y5), (4, .int v11)]) [0, 1, 2, 3] rfl
            exact hj _ rfl _ _ _ hl hP hD hS
          ·
            replace h := (if_neg c27).symm.trans h
            refine lv_iload hx hb d15_82_38 (lv_at hl 3 rfl) ?_
            refine lv_bipush (v := 10) hx hb d15_82_40 (by decide) ?_
            refine lv_imul hx hb d15_82_42 ?_
            obtain ⟨y28, hr, h⟩ := ob h
            refine lv_topi (fun y9 ey => ?_)
            have e9 := ey.trans (Option.some.inj hr)
            clear ey
            subst y9
            clear hr
            refine lv_istore (lv' := [(4, .int y28), (0, .ref (q 0)), (1, .long a0), (3, .int y5)]) hx hb d15_82_43 hl (by decide) rfl (fun ls hl => ?_)
            refine lv_goto (tgt := 29) hx hb d15_82_45 rfl ?_
            have hl := lv_sub hl (l' := [(0, .ref (q 0)), (1, .long a0), (3, .int y5), (4, .int y28)]) [1, 2, 3, 0] rfl
            exact ih _ h _ _ _ hl hP hD hS
      have hl := lv_sub hl (l' := [(0, .ref (q 0)), (1, .long a0), (3, .int y5), (4, .int 1)]) [1, 2, 3, 0] rfl
      exact hloop _ _ hX _ _ _ hl hP hD hS
    clear h
    refine lv_if_ge (tgt := 26) hx hb d15_82_17 rfl (fun c7 => ?_) (fun c7 => ?_)
    ·
      replace h := (if_pos c7).symm.trans hX
      have e9 := Option.some.inj h
      subst e8
      have hl := lv_sub hl (l' := [(0, .ref (q 0)), (1, .long a0), (3, .int y5)]) [1, 2, 0] rfl
      exact hj _ _ _ hl hP hD hS
    ·
      replace h := (if_neg c7).symm.trans hX
      refine lv_aload_n hx hb d15_82_20 rfl (lv_at hl 1 rfl) ?_
      refine lv_bipush (v := 45) hx hb d15_82_21 (by decide) ?_
      obtain ⟨st30, hc, h⟩ := ob h
      refine sV_v (As := [.int 45]) (rest := []) ⟨hx, hb, hml, hown, hts⟩ (cm_emit l G Zd q (45 : Int32) st st30 hc _) (kw_V (n := 1) hts k1605 k1602 k15 k1604 ks99 (by decide +kernel) ⟨Nat.le_of_ble_eq_true rfl, Nat.le_of_ble_eq_true rfl⟩) hP hD hK hS hA hZ (va_recv (ci := 13) (q0 := 0) hK hP rfl rfl) rfl hl.1 rfl (Nat.le_of_ble_eq_true rfl) d15_82_23 ⟨Nat.le_of_ble_eq_true rfl, Nat.le_of_ble_eq_true rfl⟩ (fun u9 H locs hp hP hD hS => ?_)
      clear u9
      clear hp
      clear hc
      refine W.eq (g2 := F0 m 26 ls []) rfl ?_
      have hP : va_P G.1 vwCl (wMs q G.2 st30) H := hP
      have hD : va_D A (wMs q G.2 st30) := hD
      have e9 := Option.some.inj h
      subst e8
      have hl := lv_sub hl (l' := [(0, .ref (q 0)), (1, .long a0), (3, .int y5)]) [1, 2, 0] rfl
      exact hj _ _ _ hl hP hD hS
  clear h
  refine lv_if_ge (tgt := 11) hx hb d15_82_3 rfl (fun c2 => ?_) (fun c2 => ?_)
  ·
    replace h := (if_pos c2).symm.trans hX
    refine lv_lload_n hx hb d15_82_11 rfl (lv_at hl 1 rfl) ?_
    have e9 := Option.some.inj h
    subst e3
    have hl := lv_sub hl (l' := [(0, .ref (q 0)), (1, .long a0)]) [0, 1] rfl
    exact hj _ _ _ hl hP hD hS
  ·
    replace h := (if_neg c2).symm.trans hX
    refine lv_lload_n hx hb d15_82_6 rfl (lv_at hl 1 rfl) ?_
    refine lv_lneg hx hb d15_82_7 ?_
    obtain ⟨y32, hr, h⟩ := ob h
    refine lv_topl (fun y9 ey => ?_)
    have e9 := ey.trans (Option.some.inj hr)
    clear ey
    subst y9
    clear hr
    refine lv_goto (tgt := 12) hx hb d15_82_8 rfl ?_
    have e9 := Option.some.inj h
    subst e3
    have hl := lv_sub hl (l' := [(0, .ref (q 0)), (1, .long a0)]) [0, 1] rfl
    exact hj _ _ _ hl hP hD hS
def m_emitNode (a0 : Int32) (st : MS) : Option (MS) := (rd (st.2.2.1 1) 2100 a0).bind fun x1 => (if x1 = (0 : Int32) then ((m_emitFour (110 : Int32) (117 : Int32) (108 : Int32) (108 : Int32) st).bind fun st6 => some st6) else (if x1 = (1 : Int32) then ((m_emitFour (116 : Int32) (114 : Int32) (117 : Int32) (101 : Int32) st).bind fun st10 => some st10) else (if x1 = (2 : Int32) then ((m_emit (102 : Int32) st).bind fun st14 => (m_emitFour (97 : Int32) (108 : Int32) (115 : Int32) (101 : Int32) st14).bind fun st17 => some st17) else (if x1 = (3 : Int32) then ((rd (st.2.2.2 0) 2100 a0).bind fun x20 => (m_emitNumber x20 st).bind fun st22 => some st22) else (if x1 = (4 : Int32) then ((rd (st.2.2.2 0) 2100 a0).bind fun x25 => (rd (st.2.2.2 1) 2100 a0).bind fun x26 => (m_emitString x25 x26 st).bind fun st28 => some st28) else ((rd (st.2.2.1 1) 2100 a0).bind fun x30 => (if x30 = (5 : Int32) then (some (91 : Int32)) else (some (123 : Int32))).bind fun e32 => (m_emit e32 st).bind fun st35 => some st35)))))).bind fun e2 => some e2
set_option maxHeartbeats 4000000 in
set_option maxRecDepth 100000 in
theorem cm_emitNode (l : Launch) (G : Gk) (Zd : Nat → Nat) (q : Nat → Nat) (a0 : Int32) (st : MS) (st0 : MS) (hm : m_emitNode a0 st = some st0) (sz : Nat) : Met l y15_84 (Cond.code y15_84 prog_15_method_84_code 2 none :: TB) (rmD 2 0 0) (va_Pc [.ref (q 0), .int a0] (pcW G Zd (wMs q G.2 st) sz)) (qV G (fun (_ : Unit) => True) (fun _ => (wMs q G.2 st0)) (va_A (wMs q G.2 st) sz)) 0 0 (va_A (wMs q G.2 st) sz) := by
  refine go (y := y15_84) (cc := prog_15_method_84_code) (maxL := 2) (ret := none) (av := [.ref (q 0), .int a0]) (Qc := qV G (fun (_ : Unit) => True) (fun _ => (wMs q G.2 st0))) "PagedValuesModel" rfl (by decide) (Nat.le_of_ble_eq_true rfl) ?_
  intro p e s m below meth c ls A hx hb hr hlk hml hown hts hin hl hP hD hK hS hA hZ
  have hl : lv_has ls 2 [(0, .ref (q 0)), (1, .int a0)] := hl
  have h := hm
  clear hm
  refine lv_aload_n hx hb d15_84_0 rfl (lv_at hl 0 rfl) ?_
  refine va_get (D := G.1) (ci := 13) (v := .ref (q 2)) (C := r_13) (T := f_13) (N := 42) (ref := "PagedValuesModel") hx hb hts (fun w h => List.mem_cons_of_mem _ (ly_13 w h)) hown hK hP 0 rfl rfl 4 (by decide) (hts _ (List.mem_cons_of_mem _ k1155)) (fun _ h9 => h9) rfl d15_84_1 ?_
  refine lv_iload_n hx hb d15_84_4 rfl (lv_at hl 1 rfl) ?_
  obtain ⟨x1, hr, h⟩ := ob h
  obtain ⟨hi, hv⟩ := rd_some hr
  refine va_bald (D := G.1) hx hb hK hP 2 2 rfl rfl (i := a0) hi d15_84_5 ?_
  refine lv_topi (fun y9 ey => ?_)
  have e9 := ey.trans hv
  clear ey
  subst y9
  clear hv hi hr
  obtain ⟨e2, hX, h⟩ := ob h
  have hj : ∀ (H : Heap) (locs : List Loc) (ls : Array Slot), lv_has ls 2 [(0, .ref (q 0)), (1, .int a0)] → va_P G.1 vwCl (wMs q G.2 e2) H → va_D A (wMs q G.2 e2) → va_S A s.heap H locs → W p l e (rmD 2 0 0) s m ([.ref (q 0), .int a0] : List Value).toArray below meth c H locs 0 0 (MQ below (qV G (fun (_ : Unit) => True) (fun _ => (wMs q G.2 st0)) A) ([.ref (q 0), .int a0] : List Value).toArray s 0 0 A) (F0 m 144 ls []) := by
    intro H locs ls hl hP hD hS
    cases h
    exact fin_v hx hb hr hlk hS () trivial hP hD (Nat.le_of_ble_eq_true rfl) (Nat.le_of_ble_eq_true rfl) d15_84_144
  clear h
  by_cases n4 : x1 = (0 : Int32)
  ·
    replace h := (if_pos n4).symm.trans hX
    refine W.eq (g2 := F0 m 6 ls [.int 0]) (by rw [n4]) ?_
    refine lv_tableIn (tgt := 40) (off := 34) hx hb d15_84_6 (by decide) (by decide) rfl rfl ?_
    refine lv_aload_n hx hb d15_84_40 rfl (lv_at hl 0 rfl) ?_
    refine lv_bipush (v := 110) hx hb d15_84_41 (by decide) ?_
    refine lv_bipush (v := 117) hx hb d15_84_43 (by decide) ?_
    refine lv_bipush (v := 108) hx hb d15_84_45 (by decide) ?_
    refine lv_bipush (v := 108) hx hb d15_84_47 (by decide) ?_
    obtain ⟨st6, hc, h⟩ := ob h
    refine sV_v (As := [.int 110, .int 117, .int 108, .int 108]) (rest := []) ⟨hx, hb, hml, hown, hts⟩ (cm_emitFour l G Zd q (110 : Int32) (117 : Int32) (108 : Int32) (108 : Int32) st st6 hc _) (kw_V (n := 4) hts k1617 k1614 k15 k1616 ks102 (by decide +kernel) ⟨Nat.le_of_ble_eq_true rfl, Nat.le_of_ble_eq_true rfl⟩) hP hD hK hS hA hZ (va_recv (ci := 13) (q0 := 0) hK hP rfl rfl) rfl hl.1 rfl (Nat.le_of_ble_eq_true rfl) d15_84_49 ⟨Nat.le_of_ble_eq_true rfl, Nat.le_of_ble_eq_true rfl⟩ (fun u9 H locs hp hP hD hS => ?_)
    clear u9
    clear hp
    clear hc
    refine W.eq (g2 := F0 m 52 ls []) rfl ?_
    have hP : va_P G.1 vwCl (wMs q G.2 st6) H := hP
    have hD : va_D A (wMs q G.2 st6) := hD
    refine lv_goto (tgt := 144) hx hb d15_84_52 rfl ?_
    have e9 := Option.some.inj h
    subst e2
    have hl := lv_sub hl (l' := [(0, .ref (q 0)), (1, .int a0)]) [0, 1] rfl
    exact hj _ _ _ hl hP hD hS
  replace hX := (if_neg n4).symm.trans hX
  by_cases n8 : x1 = (1 : Int32)
  ·
    replace h := (if_pos n8).symm.trans hX
    refine W.eq (g2 := F0 m 6 ls [.int 1]) (by rw [n8]) ?_
    refine lv_tableIn (tgt := 55) (off := 49) hx hb d15_84_6 (by decide) (by decide) rfl rfl ?_
    refine lv_aload_n hx hb d15_84_55 rfl (lv_at hl 0 rfl) ?_
    refine lv_bipush (v := 116) hx hb d15_84_56 (by decide) ?_
    refine lv_bipush (v := 114) hx hb d15_84_58 (by decide) ?_
    refine lv_bipush (v := 117) hx hb d15_84_60 (by decide) ?_
    refine lv_bipush (v := 101) hx hb d15_84_62 (by decide) ?_
    obtain ⟨st10, hc, h⟩ := ob h
    refine sV_v (As := [.int 116, .int 114, .int 117, .int 101]) (rest := []) ⟨hx, hb, hml, hown, hts⟩ (cm_emitFour l G Zd q (116 : Int32) (114 : Int32) (117 : Int32) (101 : Int32) st st10 hc _) (kw_V (n := 4) hts k1617 k1614 k15 k1616 ks102 (by decide +kernel) ⟨Nat.le_of_ble_eq_true rfl, Nat.le_of_ble_eq_true rfl⟩) hP hD hK hS hA hZ (va_recv (ci := 13) (q0 := 0) hK hP rfl rfl) rfl hl.1 rfl (Nat.le_of_ble_eq_true rfl) d15_84_64 ⟨Nat.le_of_ble_eq_true rfl, Nat.le_of_ble_eq_true rfl⟩ (fun u9 H locs hp hP hD hS => ?_)
    clear u9
    clear hp
    clear hc
    refine W.eq (g2 := F0 m 67 ls []) rfl ?_
    have hP : va_P G.1 vwCl (wMs q G.2 st10) H := hP
    have hD : va_D A (wMs q G.2 st10) := hD
    refine lv_goto (tgt := 144) hx hb d15_84_67 rfl ?_
    have e9 := Option.some.inj h
    subst e2
    have hl := lv_sub hl (l' := [(0, .ref (q 0)), (1, .int a0)]) [0, 1] rfl
    exact hj _ _ _ hl hP hD hS
  replace hX := (if_neg n8).symm.trans hX
  by_cases n12 : x1 = (2 : Int32)
  ·
    replace h := (if_pos n12).symm.trans hX
    refine W.eq (g2 := F0 m 6 ls [.int 2]) (by rw [n12]) ?_
    refine lv_tableIn (tgt := 70) (off := 64) hx hb d15_84_6 (by decide) (by decide) rfl rfl ?_
    refine lv_aload_n hx hb d15_84_70 rfl (lv_at hl 0 rfl) ?_
    refine lv_bipush (v := 102) hx hb d15_84_71 (by decide) ?_
    obtain ⟨st14, hc, h⟩ := ob h
    refine sV_v (As := [.int 102]) (rest := []) ⟨hx, hb, hml, hown, hts⟩ (cm_emit l G Zd q (102 : Int32) st st14 hc _) (kw_V (n := 1) hts k1605 k1602 k15 k1604 ks99 (by decide +kernel) ⟨Nat.le_of_ble_eq_true rfl, Nat.le_of_ble_eq_true rfl⟩) hP hD hK hS hA hZ (va_recv (ci := 13) (q0 := 0) hK hP rfl rfl) rfl hl.1 rfl (Nat.le_of_ble_eq_true rfl) d15_84_73 ⟨Nat.le_of_ble_eq_true rfl, Nat.le_of_ble_eq_true rfl⟩ (fun u9 H locs hp hP hD hS => ?_)
    clear u9
    clear hp
    clear hc
    refine W.eq (g2 := F0 m 76 ls []) rfl ?_
    have hP : va_P G.1 vwCl (wMs q G.2 st14) H := hP
    have hD : va_D A (wMs q G.2 st14) := hD
    refine lv_aload_n hx hb d15_84_76 rfl (lv_at hl 0 rfl) ?_
    refine lv_bipush (v := 97) hx hb d15_84_77 (by decide) ?_
    refine lv_bipush (v := 108) hx hb d15_84_79 (by decide) ?_
    refine lv_bipush (v := 115) hx hb d15_84_81 (by decide) ?_
    refine lv_bipush (v := 101) hx hb d15_84_83 (by decide) ?_
    obtain ⟨st17, hc, h⟩ := ob h
    refine sV_v (As := [.int 97, .int 108, .int 115, .int 101]) (rest := []) ⟨hx, hb, hml, hown, hts⟩ (cm_emitFour l G Zd q (97 : Int32) (108 : Int32) (115 : Int32) (101 : Int32) st14 st17 hc _) (kw_V (n := 4) hts k1617 k1614 k15 k1616 ks102 (by decide +kernel) ⟨Nat.le_of_ble_eq_true rfl, Nat.le_of_ble_eq_true rfl⟩) hP hD hK hS hA hZ (va_recv (ci := 13) (q0 := 0) hK hP rfl rfl) rfl hl.1 rfl (Nat.le_of_ble_eq_true rfl) d15_84_85 ⟨Nat.le_of_ble_eq_true rfl, Nat.le_of_ble_eq_true rfl⟩ (fun u9 H locs hp hP hD hS => ?_)
    clear u9
    clear hp
    clear hc
    refine W.eq (g2 := F0 m 88 ls []) rfl ?_
    have hP : va_P G.1 vwCl (wMs q G.2 st17) H := hP
    have hD : va_D A (wMs q G.2 st17) := hD
    refine lv_goto (tgt := 144) hx hb d15_84_88 rfl ?_
    have e9 := Option.some.inj h
    subst e2
    have hl := lv_sub hl (l' := [(0, .ref (q 0)), (1, .int a0)]) [0, 1] rfl
    exact hj _ _ _ hl hP hD hS
  replace hX := (if_neg n12).symm.trans hX
  by_cases n19 : x1 = (3 : Int32)
  ·
    replace h := (if_pos n19).symm.trans hX
    refine W.eq (g2 := F0 m 6 ls [.int 3]) (by rw [n19]) ?_
    refine lv_tableIn (tgt := 91) (off := 85) hx hb d15_84_6 (by decide) (by decide) rfl rfl ?_
    refine lv_aload_n hx hb d15_84_91 rfl (lv_at hl 0 rfl) ?_
    refine lv_aload_n hx hb d15_84_92 rfl (lv_at hl 0 rfl) ?_
    refine va_get (D := G.1) (ci := 13) (v := .ref (q 4)) (C := r_13) (T := f_13) (N := 42) (ref := "PagedValuesModel") hx hb hts (fun w h => List.mem_cons_of_mem _ (ly_13 w h)) hown hK hP 0 rfl rfl 6 (by decide) (hts _ (List.mem_cons_of_mem _ k1157)) (fun _ h9 => h9) rfl d15_84_93 ?_
    refine lv_iload_n hx hb d15_84_96 rfl (lv_at hl 1 rfl) ?_
    obtain ⟨x20, hr, h⟩ := ob h
    obtain ⟨hi, hv⟩ := rd_some hr
    refine va_lald (D := G.1) hx hb hK hP 4 4 rfl rfl (i := a0) hi d15_84_97 ?_
    refine lv_topl (fun y9 ey => ?_)
    have e9 := ey.trans hv
    clear ey
    subst y9
    clear hv hi hr
    obtain ⟨st22, hc, h⟩ := ob h
    refine sV_v (As := [.long x20]) (rest := []) ⟨hx, hb, hml, hown, hts⟩ (cm_emitNumber l G Zd q x20 st st22 hc _) (kw_V (n := 1) hts k1621 k1618 k15 k1620 ks103 (by decide +kernel) ⟨Nat.le_of_ble_eq_true rfl, Nat.le_of_ble_eq_true rfl⟩) hP hD hK hS hA hZ (va_recv (ci := 13) (q0 := 0) hK hP rfl rfl) rfl hl.1 rfl (Nat.le_of_ble_eq_true rfl) d15_84_98 ⟨Nat.le_of_ble_eq_true rfl, Nat.le_of_ble_eq_true rfl⟩ (fun u9 H locs hp hP hD hS => ?_)
    clear u9
    clear hp
    clear hc
    refine W.eq (g2 := F0 m 101 ls []) rfl ?_
    have hP : va_P G.1 vwCl (wMs q G.2 st22) H := hP
    have hD : va_D A (wMs q G.2 st22) := hD
    refine lv_goto (tgt := 144) hx hb d15_84_101 rfl ?_
    have e9 := Option.some.inj h
    subst e2
    have hl := lv_sub hl (l' := [(0, .ref (q 0)), (1, .int a0)]) [0, 1] rfl
    exact hj _ _ _ hl hP hD hS
  replace hX := (if_neg n19).symm.trans hX
  by_cases n24 : x1 = (4 : Int32)
  ·
    replace h := (if_pos n24).symm.trans hX
    refine W.eq (g2 := F0 m 6 ls [.int 4]) (by rw [n24]) ?_
    refine lv_tableIn (tgt := 104) (off := 98) hx hb d15_84_6 (by decide) (by decide) rfl rfl ?_
    refine lv_aload_n hx hb d15_84_104 rfl (lv_at hl 0 rfl) ?_
    refine lv_aload_n hx hb d15_84_105 rfl (lv_at hl 0 rfl) ?_
    refine va_get (D := G.1) (ci := 13) (v := .ref (q 4)) (C := r_13) (T := f_13) (N := 42) (ref := "PagedValuesModel") hx hb hts (fun w h => List.mem_cons_of_mem _ (ly_13 w h)) hown hK hP 0 rfl rfl 6 (by decide) (hts _ (List.mem_cons_of_mem _ k1157)) (fun _ h9 => h9) rfl d15_84_106 ?_
    refine lv_iload_n hx hb d15_84_109 rfl (lv_at hl 1 rfl) ?_
    obtain ⟨x25, hr, h⟩ := ob h
    obtain ⟨hi, hv⟩ := rd_some hr
    refine va_lald (D := G.1) hx hb hK hP 4 4 rfl rfl (i := a0) hi d15_84_110 ?_
    refine lv_topl (fun y9 ey => ?_)
    have e9 := ey.trans hv
    clear ey
    subst y9
    clear hv hi hr
    refine lv_aload_n hx hb d15_84_111 rfl (lv_at hl 0 rfl) ?_
    refine va_get (D := G.1) (ci := 13) (v := .ref (q 5)) (C := r_13) (T := f_13) (N := 42) (ref := "PagedValuesModel") hx hb hts (fun w h => List.mem_cons_of_mem _ (ly_13 w h)) hown hK hP 0 rfl rfl 7 (by decide) (hts _ (List.mem_cons_of_mem _ k1158)) (fun _ h9 => h9) rfl d15_84_112 ?_
    refine lv_iload_n hx hb d15_84_115 rfl (lv_at hl 1 rfl) ?_
    obtain ⟨x26, hr, h⟩ := ob h
    obtain ⟨hi, hv⟩ := rd_some hr
    refine va_lald (D := G.1) hx hb hK hP 5 4 rfl rfl (i := a0) hi d15_84_116 ?_
    refine lv_topl (fun y9 ey => ?_)
    have e9 := ey.trans hv
    clear ey
    subst y9
    clear hv hi hr
    obtain ⟨st28, hc, h⟩ := ob h
    refine sV_v (As := [.long x25, .long x26]) (rest := []) ⟨hx, hb, hml, hown, hts⟩ (cm_emitString l G Zd q x25 x26 st st28 hc _) (kw_V (n := 2) hts k1609 k1606 k15 k1608 ks100 (by decide +kernel) ⟨Nat.le_of_ble_eq_true rfl, Nat.le_of_ble_eq_true rfl⟩) hP hD hK hS hA hZ (va_recv (ci := 13) (q0 := 0) hK hP rfl rfl) rfl hl.1 rfl (Nat.le_of_ble_eq_true rfl) d15_84_117 ⟨Nat.le_of_ble_eq_true rfl, Nat.le_of_ble_eq_true rfl⟩ (fun u9 H locs hp hP hD hS => ?_)
    clear u9
    clear hp
    clear hc
    refine W.eq (g2 := F0 m 120 ls []) rfl ?_
    have hP : va_P G.1 vwCl (wMs q G.2 st28) H := hP
    have hD : va_D A (wMs q G.2 st28) := hD
    refine lv_goto (tgt := 144) hx hb d15_84_120 rfl ?_
    have e9 := Option.some.inj h
    subst e2
    have hl := lv_sub hl (l' := [(0, .ref (q 0)), (1, .int a0)]) [0, 1] rfl
    exact hj _ _ _ hl hP hD hS
  replace hX := (if_neg n24).symm.trans hX
  refine lv_tableOut (tgt := 123) hx hb d15_84_6 (by have L9 := lits; have fn4 := n4; simp only [Int32.lt_iff_toInt_lt, Int32.le_iff_toInt_le, ← Int32.toInt_inj, ne_eq, Decidable.not_not] at fn4; have fn8 := n8; simp only [Int32.lt_iff_toInt_lt, Int32.le_iff_toInt_le, ← Int32.toInt_inj, ne_eq, Decidable.not_not] at fn8; have fn12 := n12; simp only [Int32.lt_iff_toInt_lt, Int32.le_iff_toInt_le, ← Int32.toInt_inj, ne_eq, Decidable.not_not] at fn12; have fn19 := n19; simp only [Int32.lt_iff_toInt_lt, Int32.le_iff_toInt_le, ← Int32.toInt_inj, ne_eq, Decidable.not_not] at fn19; have fn24 := n24; simp only [Int32.lt_iff_toInt_lt, Int32.le_iff_toInt_le, ← Int32.toInt_inj, ne_eq, Decidable.not_not] at fn24; omega) rfl ?_
  have h := hX
  refine lv_aload_n hx hb d15_84_123 rfl (lv_at hl 0 rfl) ?_
  refine lv_aload_n hx hb d15_84_124 rfl (lv_at hl 0 rfl) ?_
  refine va_get (D := G.1) (ci := 13) (v := .ref (q 2)) (C := r_13) (T := f_13) (N := 42) (ref := "PagedValuesModel") hx hb hts (fun w h => List.mem_cons_of_mem _ (ly_13 w h)) hown hK hP 0 rfl rfl 4 (by decide) (hts _ (List.mem_cons_of_mem _ k1155)) (fun _ h9 => h9) rfl d15_84_125 ?_
  refine lv_iload_n hx hb d15_84_128 rfl (lv_at hl 1 rfl) ?_
  obtain ⟨x30, hr, h⟩ := ob h
  obtain ⟨hi, hv⟩ := rd_some hr
  refine va_bald (D := G.1) hx hb hK hP 2 2 rfl rfl (i := a0) hi d15_84_129 ?_
  refine lv_topi (fun y9 ey => ?_)
  have e9 := ey.trans hv
  clear ey
  subst y9
  clear hv hi hr
  refine lv_iconst (v := 5) hx hb d15_84_130 (by decide) ?_
  obtain ⟨e32, hX, h⟩ := ob h
  have hj : ∀ (H : Heap) (locs : List Loc) (ls : Array Slot), lv_has ls 2 [(0, .ref (q 0)), (1, .int a0)] → va_P G.1 vwCl (wMs q G.2 st) H → va_D A (wMs q G.2 st) → va_S A s.heap H locs → W p l e (rmD 2 0 0) s m ([.ref (q 0), .int a0] : List Value).toArray below meth c H locs 0 0 (MQ below (qV G (fun (_ : Unit) => True) (fun _ => (wMs q G.2 st0)) A) ([.ref (q 0), .int a0] : List Value).toArray s 0 0 A) (F0 m 141 ls [.int e32, .ref (q 0)]) := by
    intro H locs ls hl hP hD hS
    obtain ⟨st35, hc, h⟩ := ob h
    refine sV_v (As := [.int e32]) (rest := []) ⟨hx, hb, hml, hown, hts⟩ (cm_emit l G Zd q e32 st st35 hc _) (kw_V (n := 1) hts k1605 k1602 k15 k1604 ks99 (by decide +kernel) ⟨Nat.le_of_ble_eq_true rfl, Nat.le_of_ble_eq_true rfl⟩) hP hD hK hS hA hZ (va_recv (ci := 13) (q0 := 0) hK hP rfl rfl) rfl hl.1 rfl (Nat.le_of_ble_eq_true rfl) d15_84_141 ⟨Nat.le_of_ble_eq_true rfl, Nat.le_of_ble_eq_true rfl⟩ (fun u9 H locs hp hP hD hS => ?_)
    clear u9
    clear hp
    clear hc
    refine W.eq (g2 := F0 m 144 ls []) rfl ?_
    have hP : va_P G.1 vwCl (wMs q G.2 st35) H := hP
    have hD : va_D A (wMs q G.2 st35) := hD
    have e9 := Option.some.inj h
    subst e2
    have hl := lv_sub hl (l' := [(0, .ref (q 0)), (1, .int a0)]) [0, 1] rfl
    exact hj _ _ _ hl hP hD hS
  clear h
  refine lv_icmp_ne (tgt := 139) hx hb d15_84_131 rfl (fun c31 => ?_) (fun c31 => ?_)
  ·
    replace h := (if_neg c31).symm.trans hX
    refine lv_bipush (v := 123) hx hb d15_84_139 (by decide) ?_
    have e9 := Option.some.inj h
    subst e32
    have hl := lv_sub hl (l' := [(0, .ref (q 0)), (1, .int a0)]) [0, 1] rfl
    exact hj _ _ _ hl hP hD hS
  ·
    replace h := (if_pos c31).symm.trans hX
    refine lv_bipush (v := 91) hx hb d15_84_134 (by decide) ?_
    refine lv_goto (tgt := 141) hx hb d15_84_136 rfl ?_
    have e9 := Option.some.inj h
    subst e32
    have hl := lv_sub hl (l' := [(0, .ref (q 0)), (1, .int a0)]) [0, 1] rfl
    exact hj _ _ _ hl hP hD hS
def m_emitValue_l3 (a0 : Int32) (v4 : Int32) : Nat → (Int32 × MS) → Option (Int32 × MS)
  | 0, _ => none
  | n9 + 1, e9 => if e9.1 < a0 then (some (e9.1, e9.2)) else ((rd (e9.2.2.2.1 1) 2100 e9.1).bind fun x32 => (if x32 < (5 : Int32) then (some e9.2) else ((rd (e9.2.2.2.1 2) 2100 e9.1).bind fun x36 => (some (e9.1 + x36)).bind fun y37 => (some (v4 + 1)).bind fun y38 => if y37 = y38 then ((rd (e9.2.2.2.1 1) 2100 e9.1).bind fun x40 => (if x40 = (5 : Int32) then (some (93 : Int32)) else (some (125 : Int32))).bind fun e42 => (m_emit e42 e9.2).bind fun st45 => some st45) else (some e9.2))).bind fun e34 => m_emitValue_l3 a0 v4 n9 (e9.1 + (-1), e34))
theorem m_emitValue_l3_s (a0 : Int32) (v4 : Int32) (n9 : Nat) (e9 : Int32 × MS) : m_emitValue_l3 a0 v4 (n9 + 1) e9 = (if e9.1 < a0 then (some (e9.1, e9.2)) else ((rd (e9.2.2.2.1 1) 2100 e9.1).bind fun x32 => (if x32 < (5 : Int32) then (some e9.2) else ((rd (e9.2.2.2.1 2) 2100 e9.1).bind fun x36 => (some (e9.1 + x36)).bind fun y37 => (some (v4 + 1)).bind fun y38 => if y37 = y38 then ((rd (e9.2.2.2.1 1) 2100 e9.1).bind fun x40 => (if x40 = (5 : Int32) then (some (93 : Int32)) else (some (125 : Int32))).bind fun e42 => (m_emit e42 e9.2).bind fun st45 => some st45) else (some e9.2))).bind fun e34 => m_emitValue_l3 a0 v4 n9 (e9.1 + (-1), e34))) := rfl
def m_emitValue_l2 (v4 : Int32) (v5 : MS) : Nat → (Int32 × Int32) → Option (Int32 × Int32)
  | 0, _ => none
  | n9 + 1, e9 => if v4 ≤ e9.2 then (some (e9.1, e9.2)) else ((rd (v5.2.2.1 2) 2100 e9.2).bind fun x63 => (some (e9.2 + x63)).bind fun y64 => (if y64 ≤ v4 then (some e9.1) else (some e9.2)).bind fun e66 => m_emitValue_l2 v4 v5 n9 (e66, e9.2 + 1))
theorem m_emitValue_l2_s (v4 : Int32) (v5 : MS) (n9 : Nat) (e9 : Int32 × Int32) : m_emitValue_l2 v4 v5 (n9 + 1) e9 = (if v4 ≤ e9.2 then (some (e9.1, e9.2)) else ((rd (v5.2.2.1 2) 2100 e9.2).bind fun x63 => (some (e9.2 + x63)).bind fun y64 => (if y64 ≤ v4 then (some e9.1) else (some e9.2)).bind fun e66 => m_emitValue_l2 v4 v5 n9 (e66, e9.2 + 1))) := rfl
def m_emitValue_l1 (a0 : Int32) (y2 : Int32) : Nat → (Int32 × MS) → Option (Int32 × MS)
  | 0, _ => none
  | n9 + 1, e9 => if y2 ≤ e9.1 then (some (e9.1, e9.2)) else ((m_emitValue_l2 e9.1 e9.2 4096 (((-1) : Int32), a0)).bind fun e10 => (if e10.1 < (0 : Int32) then (some e9.2) else ((some (e10.1 + 1)).bind fun y57 => if e9.1 ≤ y57 then (some e9.2) else ((m_emit (44 : Int32) e9.2).bind fun st60 => some st60))).bind fun e17 => (if e10.1 < (0 : Int32) then (some e17) else ((rd (e17.2.2.1 1) 2100 e10.1).bind fun x47 => if x47 = (6 : Int32) then ((rd (e17.2.2.2 2) 2100 e9.1).bind fun x49 => (rd (e17.2.2.2 3) 2100 e9.1).bind fun x50 => (m_emitString x49 x50 e17).bind fun st52 => (m_emit (58 : Int32) st52).bind fun st55 => some st55) else (some e17))).bind fun e20 => (m_emitNode e9.1 e20).bind fun st23 => (m_emitValue_l3 a0 e9.1 4096 (e9.1, st23)).bind fun e25 => m_emitValue_l1 a0 y2 n9 (e9.1 + 1, e25.2))
theorem m_emitValue_l1_s (a0 : Int32) (y2 : Int32) (n9 : Nat) (e9 : Int32 × MS) : m_emitValue_l1 a0 y2 (n9 + 1) e9 = (if y2 ≤ e9.1 then (some (e9.1, e9.2)) else ((m_emitValue_l2 e9.1 e9.2 4096 (((-1) : Int32), a0)).bind fun e10 => (if e10.1 < (0 : Int32) then (some e9.2) else ((some (e10.1 + 1)).bind fun y57 => if e9.1 ≤ y57 then (some e9.2) else ((m_emit (44 : Int32) e9.2).bind fun st60 => some st60))).bind fun e17 => (if e10.1 < (0 : Int32) then (some e17) else ((rd (e17.2.2.1 1) 2100 e10.1).bind fun x47 => if x47 = (6 : Int32) then ((rd (e17.2.2.2 2) 2100 e9.1).bind fun x49 => (rd (e17.2.2.2 3) 2100 e9.1).bind fun x50 => (m_emitString x49 x50 e17).bind fun st52 => (m_emit (58 : Int32) st52).bind fun st55 => some st55) else (some e17))).bind fun e20 => (m_emitNode e9.1 e20).bind fun st23 => (m_emitValue_l3 a0 e9.1 4096 (e9.1, st23)).bind fun e25 => m_emitValue_l1 a0 y2 n9 (e9.1 + 1, e25.2))) := rfl
def m_emitValue (a0 : Int32) (st : MS) : Option (MS) := (rd (st.2.2.1 2) 2100 a0).bind fun x1 => (some (a0 + x1)).bind fun y2 => (m_emitValue_l1 a0 y2 4096 (a0, (upd st.1 11 0, st.2.1, st.2.2.1, st.2.2.2))).bind fun e3 => some e3.2
set_option maxHeartbeats 4000000 in
set_option maxRecDepth 100000 in
theorem cm_emitValue (l : Launch) (G : Gk) (Zd : Nat → Nat) (q : Nat → Nat) (a0 : Int32) (st : MS) (st0 : MS) (hm : m_emitValue a0 st = some st0) (sz : Nat) : Met l y15_85 (Cond.code y15_85 prog_15_method_85_code 6 none :: TB) (rmD 3 0 0) (va_Pc [.ref (q 0), .int a0] (pcW G Zd (wMs q G.2 st) sz)) (qV G (fun (_ : Unit) => True) (fun _ => (wMs q G.2 st0)) (va_A (wMs q G.2 st) sz)) 0 0 (va_A (wMs q G.2 st) sz) := by
  refine go (y := y15_85) (cc := prog_15_method_85_code) (maxL := 6) (ret := none) (av := [.ref (q 0), .int a0]) (Qc := qV G (fun (_ : Unit) => True) (fun _ => (wMs q G.2 st0))) "PagedValuesModel" rfl (by decide) (Nat.le_of_ble_eq_true rfl) ?_
  intro p e s m below meth c ls A hx hb hr hlk hml hown hts hin hl hP hD hK hS hA hZ
  have hl : lv_has ls 6 [(0, .ref (q 0)), (1, .int a0)] := hl
  have h := hm
  clear hm
  refine lv_aload_n hx hb d15_85_0 rfl (lv_at hl 0 rfl) ?_
  refine lv_iconst (v := 0) hx hb d15_85_1 (by decide) ?_
  refine va_put (D := G.1) (ci := 13) (v := .int 0) (ty := .int) (C := r_13) (T := f_13) (N := 42) (ref := "PagedValuesModel") hx hb hts (fun w h => List.mem_cons_of_mem _ (ly_13 w h)) ft_13 ft_13_ok nm_13 hown hK hP hD hS 0 rfl rfl 30 (by decide) (hts _ (List.mem_cons_of_mem _ k1181)) (fun _ h9 => h9) rfl (by decide +kernel) rfl rfl (Nat.le_of_ble_eq_true rfl) d15_85_2 (fun H locs hP hD hS => ?_)
  have hP : va_P G.1 vwCl (wMs q G.2 (upd st.1 11 0, st.2.1, st.2.2.1, st.2.2.2)) H := hP
  have hD : va_D A (wMs q G.2 (upd st.1 11 0, st.2.1, st.2.2.1, st.2.2.2)) := hD
  refine lv_iload_n hx hb d15_85_5 rfl (lv_at hl 1 rfl) ?_
  refine lv_aload_n hx hb d15_85_6 rfl (lv_at hl 0 rfl) ?_
  refine va_get (D := G.1) (ci := 13) (v := .ref (q 3)) (C := r_13) (T := f_13) (N := 42) (ref := "PagedValuesModel") hx hb hts (fun w h => List.mem_cons_of_mem _ (ly_13 w h)) hown hK hP 0 rfl rfl 5 (by decide) (hts _ (List.mem_cons_of_mem _ k1156)) (fun _ h9 => h9) rfl d15_85_7 ?_
  refine lv_iload_n hx hb d15_85_10 rfl (lv_at hl 1 rfl) ?_
  obtain ⟨x1, hr, h⟩ := ob h
  obtain ⟨hi, hv⟩ := rd_some hr
  refine va_bald (D := G.1) hx hb hK hP 3 2 rfl rfl (i := a0) hi d15_85_11 ?_
  refine lv_topi (fun y9 ey => ?_)
  have e9 := ey.trans hv
  clear ey
  subst y9
  clear hv hi hr
  refine lv_iadd hx hb d15_85_12 ?_
  obtain ⟨y2, hr, h⟩ := ob h
  refine lv_topi (fun y9 ey => ?_)
  have e9 := ey.trans (Option.some.inj hr)
  clear ey
  subst y9
  clear hr
  refine lv_istore_n (lv' := [(2, .int y2), (0, .ref (q 0)), (1, .int a0)]) hx hb d15_85_13 rfl hl (by decide) rfl (fun ls hl => ?_)
  refine lv_iload_n hx hb d15_85_14 rfl (lv_at hl 2 rfl) ?_
  refine lv_istore_n (lv' := [(3, .int a0), (2, .int y2), (0, .ref (q 0)), (1, .int a0)]) hx hb d15_85_15 rfl hl (by decide) rfl (fun ls hl => ?_)
  obtain ⟨e3, hX, hrest⟩ := ob h
  clear h
  have hj : ∀ (v7 : Int32) (v8 : MS), e3 = (v7, v8) → ∀ (H : Heap) (locs : List Loc) (ls : Array Slot), lv_has ls 6 [(0, .ref (q 0)), (1, .int a0), (2, .int y2), (3, .int v7)] → va_P G.1 vwCl (wMs q G.2 v8) H → va_D A (wMs q G.2 v8) → va_S A s.heap H locs → W p l e (rmD 3 0 0) s m ([.ref (q 0), .int a0] : List Value).toArray below meth c H locs 0 0 (MQ below (qV G (fun (_ : Unit) => True) (fun _ => (wMs q G.2 st0)) A) ([.ref (q 0), .int a0] : List Value).toArray s 0 0 A) (F0 m 195 ls []) := by
    intro v7 v8 he H locs ls hl hP hD hS
    subst e3
    have h := hrest
    cases h
    exact fin_v hx hb hr hlk hS () trivial hP hD (Nat.le_of_ble_eq_true rfl) (Nat.le_of_ble_eq_true rfl) d15_85_195
  have hloop : ∀ (n9 : Nat) (v4 : Int32) (v5 : MS), m_emitValue_l1 a0 y2 n9 (v4, v5) = some e3 → ∀ (H : Heap) (locs : List Loc) (ls : Array Slot), lv_has ls 6 [(0, .ref (q 0)), (1, .int a0), (2, .int y2), (3, .int v4)] → va_P G.1 vwCl (wMs q G.2 v5) H → va_D A (wMs q G.2 v5) → va_S A s.heap H locs → W p l e (rmD 3 0 0) s m ([.ref (q 0), .int a0] : List Value).toArray below meth c H locs 0 0 (MQ below (qV G (fun (_ : Unit) => True) (fun _ => (wMs q G.2 st0)) A) ([.ref (q 0), .int a0] : List Value).toArray s 0 0 A) (F0 m 16 ls []) := by
    intro n9
    induction n9 with
    | zero =>
      intro v4 v5 h
      cases h
    | succ n9 ih =>
      intro v4 v5 h H locs ls hl hP hD hS
      replace h := (m_emitValue_l1_s a0 y2 n9 (v4, v5)).symm.trans h
      refine lv_iload_n hx hb d15_85_16 rfl (lv_at hl 3 rfl) ?_
      refine lv_iload_n hx hb d15_85_17 rfl (lv_at hl 2 rfl) ?_
      refine lv_icmp_ge (tgt := 195) hx hb d15_85_18 rfl (fun c9 => ?_) (fun c9 => ?_)
      ·
        replace h := (if_pos c9).symm.trans h
        have e9 := Option.some.inj h
        subst e3
        have hl := lv_sub hl (l' := [(0, .ref (q 0)), (1, .int a0), (2, .int y2), (3, .int v4)]) [0, 1, 2, 3] rfl
        exact hj _ _ rfl _ _ _ hl hP hD hS
      ·
        replace h := (if_neg c9).symm.trans h
        refine lv_iconst (v := (-1)) hx hb d15_85_21 (by decide) ?_
        refine lv_istore (lv' := [(4, .int (-1)), (0, .ref (q 0)), (1, .int a0), (2, .int y2), (3, .int v4)]) hx hb d15_85_22 hl (by decide) rfl (fun ls hl => ?_)
        refine lv_iload_n hx hb d15_85_24 rfl (lv_at hl 2 rfl) ?_
        refine lv_istore (lv' := [(5, .int a0), (4, .int (-1)), (0, .ref (q 0)), (1, .int a0), (2, .int y2), (3, .int v4)]) hx hb d15_85_25 hl (by decide) rfl (fun ls hl => ?_)
        obtain ⟨e10, hX, hrest⟩ := ob h
        clear h
        have hj : ∀ (v14 : Int32) (v15 : Int32), e10 = (v14, v15) → ∀ (H : Heap) (locs : List Loc) (ls : Array Slot), lv_has ls 6 [(0, .ref (q 0)), (1, .int a0), (2, .int y2), (3, .int v4), (4, .int v14), (5, .int v15)] → va_P G.1 vwCl (wMs q G.2 v5) H → va_D A (wMs q G.2 v5) → va_S A s.heap H locs → W p l e (rmD 3 0 0) s m ([.ref (q 0), .int a0] : List Value).toArray below meth c H locs 0 0 (MQ below (qV G (fun (_ : Unit) => True) (fun _ => (wMs q G.2 st0)) A) ([.ref (q 0), .int a0] : List Value).toArray s 0 0 A) (F0 m 62 ls []) := by
          intro v14 v15 he H locs ls hl hP hD hS
          subst e10
          have h := hrest
          refine lv_iload hx hb d15_85_62 (lv_at hl 4 rfl) ?_
          obtain ⟨e17, hX, h⟩ := ob h
          have hj : ∀ (H : Heap) (locs : List Loc) (ls : Array Slot), lv_has ls 6 [(0, .ref (q 0)), (1, .int a0), (2, .int y2), (3, .int v4), (4, .int v14), (5, .int v15)] → va_P G.1 vwCl (wMs q G.2 e17) H → va_D A (wMs q G.2 e17) → va_S A s.heap H locs → W p l e (rmD 3 0 0) s m ([.ref (q 0), .int a0] : List Value).toArray below meth c H locs 0 0 (MQ below (qV G (fun (_ : Unit) => True) (fun _ => (wMs q G.2 st0)) A) ([.ref (q 0), .int a0] : List Value).toArray s 0 0 A) (F0 m 81 ls []) := by
            intro H locs ls hl hP hD hS
            refine lv_iload hx hb d15_85_81 (lv_at hl 4 rfl) ?_
            obtain ⟨e20, hX, h⟩ := ob h
            have hj : ∀ (H : Heap) (locs : List Loc) (ls : Array Slot), lv_has ls 6 [(0, .ref (q 0)), (1, .int a0), (2, .int y2), (3, .int v4), (4, .int v14), (5, .int v15)] → va_P G.1 vwCl (wMs q G.2 e20) H → va_D A (wMs q G.2 e20) → va_S A s.heap H locs → W p l e (rmD 3 0 0) s m ([.ref (q 0), .int a0] : List Value).toArray below meth c H locs 0 0 (MQ below (qV G (fun (_ : Unit) => True) (fun _ => (wMs q G.2 st0)) A) ([.ref (q 0), .int a0] : List Value).toArray s 0 0 A) (F0 m 120 ls []) := by
              intro H locs ls hl hP hD hS
              refine lv_aload_n hx hb d15_85_120 rfl (lv_at hl 0 rfl) ?_
              refine lv_iload_n hx hb d15_85_121 rfl (lv_at hl 3 rfl) ?_
              obtain ⟨st23, hc, h⟩ := ob h
              refine sV_v (As := [.int v4]) (rest := []) ⟨hx, hb, hml, hown, hts⟩ (cm_emitNode l G Zd q v4 e20 st23 hc _) (kw_V (n := 1) hts k1613 k1610 k15 k1612 ks101 (by decide +kernel) ⟨Nat.le_of_ble_eq_true rfl, Nat.le_of_ble_eq_true rfl⟩) hP hD hK hS hA hZ (va_recv (ci := 13) (q0 := 0) hK hP rfl rfl) rfl hl.1 rfl (Nat.le_of_ble_eq_true rfl) d15_85_122 ⟨Nat.le_of_ble_eq_true rfl, Nat.le_of_ble_eq_true rfl⟩ (fun u9 H locs hp hP hD hS => ?_)
              clear u9
              clear hp
              clear hc
              refine W.eq (g2 := F0 m 125 ls []) rfl ?_
              have hP : va_P G.1 vwCl (wMs q G.2 st23) H := hP
              have hD : va_D A (wMs q G.2 st23) := hD
              refine lv_iload_n hx hb d15_85_125 rfl (lv_at hl 3 rfl) ?_
              refine lv_istore (lv' := [(5, .int v4), (0, .ref (q 0)), (1, .int a0), (2, .int y2), (3, .int v4), (4, .int v14)]) hx hb d15_85_126 hl (by decide) rfl (fun ls hl => ?_)
              obtain ⟨e25, hX, hrest⟩ := ob h
              clear h
              have hj : ∀ (v29 : Int32) (v30 : MS), e25 = (v29, v30) → ∀ (H : Heap) (locs : List Loc) (ls : Array Slot), lv_has ls 6 [(0, .ref (q 0)), (1, .int a0), (2, .int y2), (3, .int v4), (4, .int v14), (5, .int v29)] → va_P G.1 vwCl (wMs q G.2 v30) H → va_D A (wMs q G.2 v30) → va_S A s.heap H locs → W p l e (rmD 3 0 0) s m ([.ref (q 0), .int a0] : List Value).toArray below meth c H locs 0 0 (MQ below (qV G (fun (_ : Unit) => True) (fun _ => (wMs q G.2 st0)) A) ([.ref (q 0), .int a0] : List Value).toArray s 0 0 A) (F0 m 189 ls []) := by
                intro v29 v30 he H locs ls hl hP hD hS
                subst e25
                have h := hrest
                refine lv_iinc (k := 3) (v := v4 + 1) (lv' := [(3, .int (v4 + 1)), (0, .ref (q 0)), (1, .int a0), (2, .int y2), (4, .int v14), (5, .int v29)]) hx hb d15_85_189 hl rfl (by first | decide | rfl) (by decide) rfl (fun ls hl => ?_)
                refine lv_goto (tgt := 16) hx hb d15_85_192 rfl ?_
                have hl := lv_sub hl (l' := [(0, .ref (q 0)), (1, .int a0), (2, .int y2), (3, .int (v4 + 1))]) [1, 2, 3, 0] rfl
                exact ih _ _ h _ _ _ hl hP hD hS
              have hloop : ∀ (n9 : Nat) (v26 : Int32) (v27 : MS), m_emitValue_l3 a0 v4 n9 (v26, v27) = some e25 → ∀ (H : Heap) (locs : List Loc) (ls : Array Slot), lv_has ls 6 [(0, .ref (q 0)), (1, .int a0), (2, .int y2), (3, .int v4), (4, .int v14), (5, .int v26)] → va_P G.1 vwCl (wMs q G.2 v27) H → va_D A (wMs q G.2 v27) → va_S A s.heap H locs → W p l e (rmD 3 0 0) s m ([.ref (q 0), .int a0] : List Value).toArray below meth c H locs 0 0 (MQ below (qV G (fun (_ : Unit) => True) (fun _ => (wMs q G.2 st0)) A) ([.ref (q 0), .int a0] : List Value).toArray s 0 0 A) (F0 m 128 ls []) := by
                intro n9
                induction n9 with
                | zero =>
                  intro v26 v27 h
                  cases h
                | succ n9 ih =>
                  intro v26 v27 h H locs ls hl hP hD hS
                  replace h := (m_emitValue_l3_s a0 v4 n9 (v26, v27)).symm.trans h
                  refine lv_iload hx hb d15_85_128 (lv_at hl 5 rfl) ?_
                  refine lv_iload_n hx hb d15_85_130 rfl (lv_at hl 1 rfl) ?_
                  refine lv_icmp_lt (tgt := 189) hx hb d15_85_131 rfl (fun c31 => ?_) (fun c31 => ?_)
                  ·
                    replace h := (if_pos c31).symm.trans h
                    have e9 := Option.some.inj h
                    subst e25
                    have hl := lv_sub hl (l' := [(0, .ref (q 0)), (1, .int a0), (2, .int y2), (3, .int v4), (4, .int v14), (5, .int v26)]) [0, 1, 2, 3, 4, 5] rfl
                    exact hj _ _ rfl _ _ _ hl hP hD hS
                  ·
                    replace h := (if_neg c31).symm.trans h
                    refine lv_aload_n hx hb d15_85_134 rfl (lv_at hl 0 rfl) ?_
                    refine va_get (D := G.1) (ci := 13) (v := .ref (q 2)) (C := r_13) (T := f_13) (N := 42) (ref := "PagedValuesModel") hx hb hts (fun w h => List.mem_cons_of_mem _ (ly_13 w h)) hown hK hP 0 rfl rfl 4 (by decide) (hts _ (List.mem_cons_of_mem _ k1155)) (fun _ h9 => h9) rfl d15_85_135 ?_
                    refine lv_iload hx hb d15_85_138 (lv_at hl 5 rfl) ?_
                    obtain ⟨x32, hr, h⟩ := ob h
                    obtain ⟨hi, hv⟩ := rd_some hr
                    refine va_bald (D := G.1) hx hb hK hP 2 2 rfl rfl (i := v26) hi d15_85_140 ?_
                    refine lv_topi (fun y9 ey => ?_)
                    have e9 := ey.trans hv
                    clear ey
                    subst y9
                    clear hv hi hr
                    refine lv_iconst (v := 5) hx hb d15_85_141 (by decide) ?_
                    obtain ⟨e34, hX, h⟩ := ob h
                    have hj : ∀ (H : Heap) (locs : List Loc) (ls : Array Slot), lv_has ls 6 [(0, .ref (q 0)), (1, .int a0), (2, .int y2), (3, .int v4), (4, .int v14), (5, .int v26)] → va_P G.1 vwCl (wMs q G.2 e34) H → va_D A (wMs q G.2 e34) → va_S A s.heap H locs → W p l e (rmD 3 0 0) s m ([.ref (q 0), .int a0] : List Value).toArray below meth c H locs 0 0 (MQ below (qV G (fun (_ : Unit) => True) (fun _ => (wMs q G.2 st0)) A) ([.ref (q 0), .int a0] : List Value).toArray s 0 0 A) (F0 m 183 ls []) := by
                      intro H locs ls hl hP hD hS
                      refine lv_iinc (k := 5) (v := v26 + (-1)) (lv' := [(5, .int (v26 + (-1))), (0, .ref (q 0)), (1, .int a0), (2, .int y2), (3, .int v4), (4, .int v14)]) hx hb d15_85_183 hl rfl (by first | decide | rfl) (by decide) rfl (fun ls hl => ?_)
                      refine lv_goto (tgt := 128) hx hb d15_85_186 rfl ?_
                      have hl := lv_sub hl (l' := [(0, .ref (q 0)), (1, .int a0), (2, .int y2), (3, .int v4), (4, .int v14), (5, .int (v26 + (-1)))]) [1, 2, 3, 4, 5, 0] rfl
                      exact ih _ _ h _ _ _ hl hP hD hS
                    clear h
                    refine lv_icmp_lt (tgt := 183) hx hb d15_85_142 rfl (fun c33 => ?_) (fun c33 => ?_)
                    ·
                      replace h := (if_pos c33).symm.trans hX
                      have e9 := Option.some.inj h
                      subst e34
                      have hl := lv_sub hl (l' := [(0, .ref (q 0)), (1, .int a0), (2, .int y2), (3, .int v4), (4, .int v14), (5, .int v26)]) [0, 1, 2, 3, 4, 5] rfl
                      exact hj _ _ _ hl hP hD hS
                    ·
                      replace h := (if_neg c33).symm.trans hX
                      refine lv_iload hx hb d15_85_145 (lv_at hl 5 rfl) ?_
                      refine lv_aload_n hx hb d15_85_147 rfl (lv_at hl 0 rfl) ?_
                      refine va_get (D := G.1) (ci := 13) (v := .ref (q 3)) (C := r_13) (T := f_13) (N := 42) (ref := "PagedValuesModel") hx hb hts (fun w h => List.mem_cons_of_mem _ (ly_13 w h)) hown hK hP 0 rfl rfl 5 (by decide) (hts _ (List.mem_cons_of_mem _ k1156)) (fun _ h9 => h9) rfl d15_85_148 ?_
                      refine lv_iload hx hb d15_85_151 (lv_at hl 5 rfl) ?_
                      obtain ⟨x36, hr, h⟩ := ob h
                      obtain ⟨hi, hv⟩ := rd_some hr
                      refine va_bald (D := G.1) hx hb hK hP 3 2 rfl rfl (i := v26) hi d15_85_153 ?_
                      refine lv_topi (fun y9 ey => ?_)
                      have e9 := ey.trans hv
                      clear ey
                      subst y9
                      clear hv hi hr
                      refine lv_iadd hx hb d15_85_154 ?_
                      obtain ⟨y37, hr, h⟩ := ob h
                      refine lv_topi (fun y9 ey => ?_)
                      have e9 := ey.trans (Option.some.inj hr)
                      clear ey
                      subst y9
                      clear hr
                      refine lv_iload_n hx hb d15_85_155 rfl (lv_at hl 3 rfl) ?_
                      refine lv_iconst (v := 1) hx hb d15_85_156 (by decide) ?_
                      refine lv_iadd hx hb d15_85_157 ?_
                      obtain ⟨y38, hr, h⟩ := ob h
                      refine lv_topi (fun y9 ey => ?_)
                      have e9 := ey.trans (Option.some.inj hr)
                      clear ey
                      subst y9
                      clear hr
                      refine lv_icmp_ne (tgt := 183) hx hb d15_85_158 rfl (fun c39 => ?_) (fun c39 => ?_)
                      ·
                        replace h := (if_neg c39).symm.trans h
                        have e9 := Option.some.inj h
                        subst e34
                        have hl := lv_sub hl (l' := [(0, .ref (q 0)), (1, .int a0), (2, .int y2), (3, .int v4), (4, .int v14), (5, .int v26)]) [0, 1, 2, 3, 4, 5] rfl
                        exact hj _ _ _ hl hP hD hS
                      ·
                        replace h := (if_pos c39).symm.trans h
                        refine lv_aload_n hx hb d15_85_161 rfl (lv_at hl 0 rfl) ?_
                        refine lv_aload_n hx hb d15_85_162 rfl (lv_at hl 0 rfl) ?_
                        refine va_get (D := G.1) (ci := 13) (v := .ref (q 2)) (C := r_13) (T := f_13) (N := 42) (ref := "PagedValuesModel") hx hb hts (fun w h => List.mem_cons_of_mem _ (ly_13 w h)) hown hK hP 0 rfl rfl 4 (by decide) (hts _ (List.mem_cons_of_mem _ k1155)) (fun _ h9 => h9) rfl d15_85_163 ?_
                        refine lv_iload hx hb d15_85_166 (lv_at hl 5 rfl) ?_
                        obtain ⟨x40, hr, h⟩ := ob h
                        obtain ⟨hi, hv⟩ := rd_some hr
                        refine va_bald (D := G.1) hx hb hK hP 2 2 rfl rfl (i := v26) hi d15_85_168 ?_
                        refine lv_topi (fun y9 ey => ?_)
                        have e9 := ey.trans hv
                        clear ey
                        subst y9
                        clear hv hi hr
                        refine lv_iconst (v := 5) hx hb d15_85_169 (by decide) ?_
                        obtain ⟨e42, hX, h⟩ := ob h
                        have hj : ∀ (H : Heap) (locs : List Loc) (ls : Array Slot), lv_has ls 6 [(0, .ref (q 0)), (1, .int a0), (2, .int y2), (3, .int v4), (4, .int v14), (5, .int v26)] → va_P G.1 vwCl (wMs q G.2 v27) H → va_D A (wMs q G.2 v27) → va_S A s.heap H locs → W p l e (rmD 3 0 0) s m ([.ref (q 0), .int a0] : List Value).toArray below meth c H locs 0 0 (MQ below (qV G (fun (_ : Unit) => True) (fun _ => (wMs q G.2 st0)) A) ([.ref (q 0), .int a0] : List Value).toArray s 0 0 A) (F0 m 180 ls [.int e42, .ref (q 0)]) := by
                          intro H locs ls hl hP hD hS
                          obtain ⟨st45, hc, h⟩ := ob h
                          refine sV_v (As := [.int e42]) (rest := []) ⟨hx, hb, hml, hown, hts⟩ (cm_emit l G Zd q e42 v27 st45 hc _) (kw_V (n := 1) hts k1605 k1602 k15 k1604 ks99 (by decide +kernel) ⟨Nat.le_of_ble_eq_true rfl, Nat.le_of_ble_eq_true rfl⟩) hP hD hK hS hA hZ (va_recv (ci := 13) (q0 := 0) hK hP rfl rfl) rfl hl.1 rfl (Nat.le_of_ble_eq_true rfl) d15_85_180 ⟨Nat.le_of_ble_eq_true rfl, Nat.le_of_ble_eq_true rfl⟩ (fun u9 H locs hp hP hD hS => ?_)
                          clear u9
                          clear hp
                          clear hc
                          refine W.eq (g2 := F0 m 183 ls []) rfl ?_
                          have hP : va_P G.1 vwCl (wMs q G.2 st45) H := hP
                          have hD : va_D A (wMs q G.2 st45) := hD
                          have e9 := Option.some.inj h
                          subst e34
                          have hl := lv_sub hl (l' := [(0, .ref (q 0)), (1, .int a0), (2, .int y2), (3, .int v4), (4, .int v14), (5, .int v26)]) [0, 1, 2, 3, 4, 5] rfl
                          exact hj _ _ _ hl hP hD hS
                        clear h
                        refine lv_icmp_ne (tgt := 178) hx hb d15_85_170 rfl (fun c41 => ?_) (fun c41 => ?_)
                        ·
                          replace h := (if_neg c41).symm.trans hX
                          refine lv_bipush (v := 125) hx hb d15_85_178 (by decide) ?_
                          have e9 := Option.some.inj h
                          subst e42
                          have hl := lv_sub hl (l' := [(0, .ref (q 0)), (1, .int a0), (2, .int y2), (3, .int v4), (4, .int v14), (5, .int v26)]) [0, 1, 2, 3, 4, 5] rfl
                          exact hj _ _ _ hl hP hD hS
                        ·
                          replace h := (if_pos c41).symm.trans hX
                          refine lv_bipush (v := 93) hx hb d15_85_173 (by decide) ?_
                          refine lv_goto (tgt := 180) hx hb d15_85_175 rfl ?_
                          have e9 := Option.some.inj h
                          subst e42
                          have hl := lv_sub hl (l' := [(0, .ref (q 0)), (1, .int a0), (2, .int y2), (3, .int v4), (4, .int v14), (5, .int v26)]) [0, 1, 2, 3, 4, 5] rfl
                          exact hj _ _ _ hl hP hD hS
              have hl := lv_sub hl (l' := [(0, .ref (q 0)), (1, .int a0), (2, .int y2), (3, .int v4), (4, .int v14), (5, .int v4)]) [1, 2, 3, 4, 5, 0] rfl
              exact hloop _ _ _ hX _ _ _ hl hP hD hS
            clear h
            refine lv_if_lt (tgt := 120) hx hb d15_85_83 rfl (fun c19 => ?_) (fun c19 => ?_)
            ·
              replace h := (if_pos c19).symm.trans hX
              have e9 := Option.some.inj h
              subst e20
              have hl := lv_sub hl (l' := [(0, .ref (q 0)), (1, .int a0), (2, .int y2), (3, .int v4), (4, .int v14), (5, .int v15)]) [0, 1, 2, 3, 4, 5] rfl
              exact hj _ _ _ hl hP hD hS
            ·
              replace h := (if_neg c19).symm.trans hX
              refine lv_aload_n hx hb d15_85_86 rfl (lv_at hl 0 rfl) ?_
              refine va_get (D := G.1) (ci := 13) (v := .ref (q 2)) (C := r_13) (T := f_13) (N := 42) (ref := "PagedValuesModel") hx hb hts (fun w h => List.mem_cons_of_mem _ (ly_13 w h)) hown hK hP 0 rfl rfl 4 (by decide) (hts _ (List.mem_cons_of_mem _ k1155)) (fun _ h9 => h9) rfl d15_85_87 ?_
              refine lv_iload hx hb d15_85_90 (lv_at hl 4 rfl) ?_
              obtain ⟨x47, hr, h⟩ := ob h
              obtain ⟨hi, hv⟩ := rd_some hr
              refine va_bald (D := G.1) hx hb hK hP 2 2 rfl rfl (i := v14) hi d15_85_92 ?_
              refine lv_topi (fun y9 ey => ?_)
              have e9 := ey.trans hv
              clear ey
              subst y9
              clear hv hi hr
              refine lv_bipush (v := 6) hx hb d15_85_93 (by decide) ?_
              refine lv_icmp_ne (tgt := 120) hx hb d15_85_95 rfl (fun c48 => ?_) (fun c48 => ?_)
              ·
                replace h := (if_neg c48).symm.trans h
                have e9 := Option.some.inj h
                subst e20
                have hl := lv_sub hl (l' := [(0, .ref (q 0)), (1, .int a0), (2, .int y2), (3, .int v4), (4, .int v14), (5, .int v15)]) [0, 1, 2, 3, 4, 5] rfl
                exact hj _ _ _ hl hP hD hS
              ·
                replace h := (if_pos c48).symm.trans h
                refine lv_aload_n hx hb d15_85_98 rfl (lv_at hl 0 rfl) ?_
                refine lv_aload_n hx hb d15_85_99 rfl (lv_at hl 0 rfl) ?_
                refine va_get (D := G.1) (ci := 13) (v := .ref (q 6)) (C := r_13) (T := f_13) (N := 42) (ref := "PagedValuesModel") hx hb hts (fun w h => List.mem_cons_of_mem _ (ly_13 w h)) hown hK hP 0 rfl rfl 8 (by decide) (hts _ (List.mem_cons_of_mem _ k1159)) (fun _ h9 => h9) rfl d15_85_100 ?_
                refine lv_iload_n hx hb d15_85_103 rfl (lv_at hl 3 rfl) ?_
                obtain ⟨x49, hr, h⟩ := ob h
                obtain ⟨hi, hv⟩ := rd_some hr
                refine va_lald (D := G.1) hx hb hK hP 6 4 rfl rfl (i := v4) hi d15_85_104 ?_
                refine lv_topl (fun y9 ey => ?_)
                have e9 := ey.trans hv
                clear ey
                subst y9
                clear hv hi hr
                refine lv_aload_n hx hb d15_85_105 rfl (lv_at hl 0 rfl) ?_
                refine va_get (D := G.1) (ci := 13) (v := .ref (q 7)) (C := r_13) (T := f_13) (N := 42) (ref := "PagedValuesModel") hx hb hts (fun w h => List.mem_cons_of_mem _ (ly_13 w h)) hown hK hP 0 rfl rfl 9 (by decide) (hts _ (List.mem_cons_of_mem _ k1160)) (fun _ h9 => h9) rfl d15_85_106 ?_
                refine lv_iload_n hx hb d15_85_109 rfl (lv_at hl 3 rfl) ?_
                obtain ⟨x50, hr, h⟩ := ob h
                obtain ⟨hi, hv⟩ := rd_some hr
                refine va_lald (D := G.1) hx hb hK hP 7 4 rfl rfl (i := v4) hi d15_85_110 ?_
                refine lv_topl (fun y9 ey => ?_)
                have e9 := ey.trans hv
                clear ey
                subst y9
                clear hv hi hr
                obtain ⟨st52, hc, h⟩ := ob h
                refine sV_v (As := [.long x49, .long x50]) (rest := []) ⟨hx, hb, hml, hown, hts⟩ (cm_emitString l G Zd q x49 x50 e17 st52 hc _) (kw_V (n := 2) hts k1609 k1606 k15 k1608 ks100 (by decide +kernel) ⟨Nat.le_of_ble_eq_true rfl, Nat.le_of_ble_eq_true rfl⟩) hP hD hK hS hA hZ (va_recv (ci := 13) (q0 := 0) hK hP rfl rfl) rfl hl.1 rfl (Nat.le_of_ble_eq_true rfl) d15_85_111 ⟨Nat.le_of_ble_eq_true rfl, Nat.le_of_ble_eq_true rfl⟩ (fun u9 H locs hp hP hD hS => ?_)
                clear u9
                clear hp
                clear hc
                refine W.eq (g2 := F0 m 114 ls []) rfl ?_
                have hP : va_P G.1 vwCl (wMs q G.2 st52) H := hP
                have hD : va_D A (wMs q G.2 st52) := hD
                refine lv_aload_n hx hb d15_85_114 rfl (lv_at hl 0 rfl) ?_
                refine lv_bipush (v := 58) hx hb d15_85_115 (by decide) ?_
                obtain ⟨st55, hc, h⟩ := ob h
                refine sV_v (As := [.int 58]) (rest := []) ⟨hx, hb, hml, hown, hts⟩ (cm_emit l G Zd q (58 : Int32) st52 st55 hc _) (kw_V (n := 1) hts k1605 k1602 k15 k1604 ks99 (by decide +kernel) ⟨Nat.le_of_ble_eq_true rfl, Nat.le_of_ble_eq_true rfl⟩) hP hD hK hS hA hZ (va_recv (ci := 13) (q0 := 0) hK hP rfl rfl) rfl hl.1 rfl (Nat.le_of_ble_eq_true rfl) d15_85_117 ⟨Nat.le_of_ble_eq_true rfl, Nat.le_of_ble_eq_true rfl⟩ (fun u9 H locs hp hP hD hS => ?_)
                clear u9
                clear hp
                clear hc
                refine W.eq (g2 := F0 m 120 ls []) rfl ?_
                have hP : va_P G.1 vwCl (wMs q G.2 st55) H := hP
                have hD : va_D A (wMs q G.2 st55) := hD
                have e9 := Option.some.inj h
                subst e20
                have hl := lv_sub hl (l' := [(0, .ref (q 0)), (1, .int a0), (2, .int y2), (3, .int v4), (4, .int v14), (5, .int v15)]) [0, 1, 2, 3, 4, 5] rfl
                exact hj _ _ _ hl hP hD hS
          clear h
          refine lv_if_lt (tgt := 81) hx hb d15_85_64 rfl (fun c16 => ?_) (fun c16 => ?_)
          ·
            replace h := (if_pos c16).symm.trans hX
            have e9 := Option.some.inj h
            subst e17
            have hl := lv_sub hl (l' := [(0, .ref (q 0)), (1, .int a0), (2, .int y2), (3, .int v4), (4, .int v14), (5, .int v15)]) [0, 1, 2, 3, 4, 5] rfl
            exact hj _ _ _ hl hP hD hS
          ·
            replace h := (if_neg c16).symm.trans hX
            refine lv_iload_n hx hb d15_85_67 rfl (lv_at hl 3 rfl) ?_
            refine lv_iload hx hb d15_85_68 (lv_at hl 4 rfl) ?_
            refine lv_iconst (v := 1) hx hb d15_85_70 (by decide) ?_
            refine lv_iadd hx hb d15_85_71 ?_
            obtain ⟨y57, hr, h⟩ := ob h
            refine lv_topi (fun y9 ey => ?_)
            have e9 := ey.trans (Option.some.inj hr)
            clear ey
            subst y9
            clear hr
            refine lv_icmp_le (tgt := 81) hx hb d15_85_72 rfl (fun c58 => ?_) (fun c58 => ?_)
            ·
              replace h := (if_pos c58).symm.trans h
              have e9 := Option.some.inj h
              subst e17
              have hl := lv_sub hl (l' := [(0, .ref (q 0)), (1, .int a0), (2, .int y2), (3, .int v4), (4, .int v14), (5, .int v15)]) [0, 1, 2, 3, 4, 5] rfl
              exact hj _ _ _ hl hP hD hS
            ·
              replace h := (if_neg c58).symm.trans h
              refine lv_aload_n hx hb d15_85_75 rfl (lv_at hl 0 rfl) ?_
              refine lv_bipush (v := 44) hx hb d15_85_76 (by decide) ?_
              obtain ⟨st60, hc, h⟩ := ob h
              refine sV_v (As := [.int 44]) (rest := []) ⟨hx, hb, hml, hown, hts⟩ (cm_emit l G Zd q (44 : Int32) v5 st60 hc _) (kw_V (n := 1) hts k1605 k1602 k15 k1604 ks99 (by decide +kernel) ⟨Nat.le_of_ble_eq_true rfl, Nat.le_of_ble_eq_true rfl⟩) hP hD hK hS hA hZ (va_recv (ci := 13) (q0 := 0) hK hP rfl rfl) rfl hl.1 rfl (Nat.le_of_ble_eq_true rfl) d15_85_78 ⟨Nat.le_of_ble_eq_true rfl, Nat.le_of_ble_eq_true rfl⟩ (fun u9 H locs hp hP hD hS => ?_)
              clear u9
              clear hp
              clear hc
              refine W.eq (g2 := F0 m 81 ls []) rfl ?_
              have hP : va_P G.1 vwCl (wMs q G.2 st60) H := hP
              have hD : va_D A (wMs q G.2 st60) := hD
              have e9 := Option.some.inj h
              subst e17
              have hl := lv_sub hl (l' := [(0, .ref (q 0)), (1, .int a0), (2, .int y2), (3, .int v4), (4, .int v14), (5, .int v15)]) [0, 1, 2, 3, 4, 5] rfl
              exact hj _ _ _ hl hP hD hS
        have hloop : ∀ (n9 : Nat) (v11 : Int32) (v12 : Int32), m_emitValue_l2 v4 v5 n9 (v11, v12) = some e10 → ∀ (H : Heap) (locs : List Loc) (ls : Array Slot), lv_has ls 6 [(0, .ref (q 0)), (1, .int a0), (2, .int y2), (3, .int v4), (4, .int v11), (5, .int v12)] → va_P G.1 vwCl (wMs q G.2 v5) H → va_D A (wMs q G.2 v5) → va_S A s.heap H locs → W p l e (rmD 3 0 0) s m ([.ref (q 0), .int a0] : List Value).toArray below meth c H locs 0 0 (MQ below (qV G (fun (_ : Unit) => True) (fun _ => (wMs q G.2 st0)) A) ([.ref (q 0), .int a0] : List Value).toArray s 0 0 A) (F0 m 27 ls []) := by
          intro n9
          induction n9 with
          | zero =>
            intro v11 v12 h
            cases h
          | succ n9 ih =>
            intro v11 v12 h H locs ls hl hP hD hS
            replace h := (m_emitValue_l2_s v4 v5 n9 (v11, v12)).symm.trans h
            refine lv_iload hx hb d15_85_27 (lv_at hl 5 rfl) ?_
            refine lv_iload_n hx hb d15_85_29 rfl (lv_at hl 3 rfl) ?_
            refine lv_icmp_ge (tgt := 62) hx hb d15_85_30 rfl (fun c62 => ?_) (fun c62 => ?_)
            ·
              replace h := (if_pos c62).symm.trans h
              have e9 := Option.some.inj h
              subst e10
              have hl := lv_sub hl (l' := [(0, .ref (q 0)), (1, .int a0), (2, .int y2), (3, .int v4), (4, .int v11), (5, .int v12)]) [0, 1, 2, 3, 4, 5] rfl
              exact hj _ _ rfl _ _ _ hl hP hD hS
            ·
              replace h := (if_neg c62).symm.trans h
              refine lv_iload hx hb d15_85_33 (lv_at hl 5 rfl) ?_
              refine lv_aload_n hx hb d15_85_35 rfl (lv_at hl 0 rfl) ?_
              refine va_get (D := G.1) (ci := 13) (v := .ref (q 3)) (C := r_13) (T := f_13) (N := 42) (ref := "PagedValuesModel") hx hb hts (fun w h => List.mem_cons_of_mem _ (ly_13 w h)) hown hK hP 0 rfl rfl 5 (by decide) (hts _ (List.mem_cons_of_mem _ k1156)) (fun _ h9 => h9) rfl d15_85_36 ?_
              refine lv_iload hx hb d15_85_39 (lv_at hl 5 rfl) ?_
              obtain ⟨x63, hr, h⟩ := ob h
              obtain ⟨hi, hv⟩ := rd_some hr
              refine va_bald (D := G.1) hx hb hK hP 3 2 rfl rfl (i := v12) hi d15_85_41 ?_
              refine lv_topi (fun y9 ey => ?_)
              have e9 := ey.trans hv
              clear ey
              subst y9
              clear hv hi hr
              refine lv_iadd hx hb d15_85_42 ?_
              obtain ⟨y64, hr, h⟩ := ob h
              refine lv_topi (fun y9 ey => ?_)
              have e9 := ey.trans (Option.some.inj hr)
              clear ey
              subst y9
              clear hr
              refine lv_iload_n hx hb d15_85_43 rfl (lv_at hl 3 rfl) ?_
              obtain ⟨e66, hX, h⟩ := ob h
              have hj : ∀ (H : Heap) (locs : List Loc) (ls : Array Slot), lv_has ls 6 [(0, .ref (q 0)), (1, .int a0), (2, .int y2), (3, .int v4), (4, .int v11), (5, .int v12)] → va_P G.1 vwCl (wMs q G.2 v5) H → va_D A (wMs q G.2 v5) → va_S A s.heap H locs → W p l e (rmD 3 0 0) s m ([.ref (q 0), .int a0] : List Value).toArray below meth c H locs 0 0 (MQ below (qV G (fun (_ : Unit) => True) (fun _ => (wMs q G.2 st0)) A) ([.ref (q 0), .int a0] : List Value).toArray s 0 0 A) (F0 m 54 ls [.int e66]) := by
                intro H locs ls hl hP hD hS
                refine lv_istore (lv' := [(4, .int e66), (0, .ref (q 0)), (1, .int a0), (2, .int y2), (3, .int v4), (5, .int v12)]) hx hb d15_85_54 hl (by decide) rfl (fun ls hl => ?_)
                refine lv_iinc (k := 5) (v := v12 + 1) (lv' := [(5, .int (v12 + 1)), (4, .int e66), (0, .ref (q 0)), (1, .int a0), (2, .int y2), (3, .int v4)]) hx hb d15_85_56 hl rfl (by first | decide | rfl) (by decide) rfl (fun ls hl => ?_)
                refine lv_goto (tgt := 27) hx hb d15_85_59 rfl ?_
                have hl := lv_sub hl (l' := [(0, .ref (q 0)), (1, .int a0), (2, .int y2), (3, .int v4), (4, .int e66), (5, .int (v12 + 1))]) [2, 3, 4, 5, 1, 0] rfl
                exact ih _ _ h _ _ _ hl hP hD hS
              clear h
              refine lv_icmp_le (tgt := 52) hx hb d15_85_44 rfl (fun c65 => ?_) (fun c65 => ?_)
              ·
                replace h := (if_pos c65).symm.trans hX
                refine lv_iload hx hb d15_85_52 (lv_at hl 4 rfl) ?_
                have e9 := Option.some.inj h
                subst e66
                have hl := lv_sub hl (l' := [(0, .ref (q 0)), (1, .int a0), (2, .int y2), (3, .int v4), (4, .int v11), (5, .int v12)]) [0, 1, 2, 3, 4, 5] rfl
                exact hj _ _ _ hl hP hD hS
              ·
                replace h := (if_neg c65).symm.trans hX
                refine lv_iload hx hb d15_85_47 (lv_at hl 5 rfl) ?_
                refine lv_goto (tgt := 54) hx hb d15_85_49 rfl ?_
                have e9 := Option.some.inj h
                subst e66
                have hl := lv_sub hl (l' := [(0, .ref (q 0)), (1, .int a0), (2, .int y2), (3, .int v4), (4, .int v11), (5, .int v12)]) [0, 1, 2, 3, 4, 5] rfl
                exact hj _ _ _ hl hP hD hS
        have hl := lv_sub hl (l' := [(0, .ref (q 0)), (1, .int a0), (2, .int y2), (3, .int v4), (4, .int (-1)), (5, .int a0)]) [2, 3, 4, 5, 1, 0] rfl
        exact hloop _ _ _ hX _ _ _ hl hP hD hS
  have hl := lv_sub hl (l' := [(0, .ref (q 0)), (1, .int a0), (2, .int y2), (3, .int a0)]) [2, 3, 1, 0] rfl
  exact hloop _ _ _ hX _ _ _ hl hP hD hS
def m_show (a0 : Int32) (st : MS) : Option (Int32 × MS) := (some ((st.1 10) - 1)).bind fun y1 => (m_within a0 (0 : Int32) y1).bind fun x2 => if x2 = (0 : Int32) then (some (((-1) : Int32), st)) else ((some (48 + a0)).bind fun y6 => (m_at y6).bind fun x7 => (m_emitValue x7 st).bind fun st11 => some (st11.1 11, st11))
set_option maxHeartbeats 4000000 in
set_option maxRecDepth 100000 in
theorem cm_show (l : Launch) (G : Gk) (Zd : Nat → Nat) (q : Nat → Nat) (a0 : Int32) (st : MS) (r0 : Int32) (st0 : MS) (hm : m_show a0 st = some (r0, st0)) (sz : Nat) : Met l y15_86 (Cond.code y15_86 prog_15_method_86_code 2 (some .int) :: TB) (rmD 4 0 0) (va_Pc [.ref (q 0), .int a0] (pcW G Zd (wMs q G.2 st) sz)) (qI G (fun rr (_ : Unit) => rr = r0) (fun _ => (wMs q G.2 st0)) (va_A (wMs q G.2 st) sz)) 0 0 (va_A (wMs q G.2 st) sz) := by
  refine go (y := y15_86) (cc := prog_15_method_86_code) (maxL := 2) (ret := (some .int)) (av := [.ref (q 0), .int a0]) (Qc := qI G (fun rr (_ : Unit) => rr = r0) (fun _ => (wMs q G.2 st0))) "PagedValuesModel" rfl (by decide) (Nat.le_of_ble_eq_true rfl) ?_
  intro p e s m below meth c ls A hx hb hr hlk hml hown hts hin hl hP hD hK hS hA hZ
  have hl : lv_has ls 2 [(0, .ref (q 0)), (1, .int a0)] := hl
  have h := hm
  clear hm
  refine lv_iload_n hx hb d15_86_0 rfl (lv_at hl 1 rfl) ?_
  refine lv_iconst (v := 0) hx hb d15_86_1 (by decide) ?_
  refine lv_aload_n hx hb d15_86_2 rfl (lv_at hl 0 rfl) ?_
  refine va_get (D := G.1) (ci := 13) (v := .int (st.1 10)) (C := r_13) (T := f_13) (N := 42) (ref := "PagedValuesModel") hx hb hts (fun w h => List.mem_cons_of_mem _ (ly_13 w h)) hown hK hP 0 rfl rfl 28 (by decide) (hts _ (List.mem_cons_of_mem _ k1179)) (fun _ h9 => h9) rfl d15_86_3 ?_
  refine lv_iconst (v := 1) hx hb d15_86_6 (by decide) ?_
  refine lv_isub hx hb d15_86_7 ?_
  obtain ⟨y1, hr, h⟩ := ob h
  refine lv_topi (fun y9 ey => ?_)
  have e9 := ey.trans (Option.some.inj hr)
  clear ey
  subst y9
  clear hr
  obtain ⟨x2, hc, h⟩ := ob h
  refine sS_i (As := [.int a0, .int 0, .int y1]) (rest := []) ⟨hx, hb, hml, hown, hts⟩ (cm_within l G Zd _ a0 (0 : Int32) y1 x2 hc _) (kw_S (n := 3) hts k1289 k1287 k15 k1288 (by decide +kernel) ⟨Nat.le_of_ble_eq_true rfl, Nat.le_of_ble_eq_true rfl⟩) hP hD hK hS hA hZ rfl hl.1 rfl (Nat.le_of_ble_eq_true rfl) d15_86_8 ⟨Nat.le_of_ble_eq_true rfl, Nat.le_of_ble_eq_true rfl⟩ (fun rr u9 H locs hp hP hD hS => ?_)
  clear u9
  subst rr
  clear hc
  refine W.eq (g2 := F0 m 11 ls [.int x2]) rfl ?_
  have hP : va_P G.1 vwCl (wMs q G.2 st) H := hP
  have hD : va_D A (wMs q G.2 st) := hD
  refine lv_if_ne (tgt := 16) hx hb d15_86_11 rfl (fun c5 => ?_) (fun c5 => ?_)
  ·
    replace h := (if_neg c5).symm.trans h
    refine lv_aload_n hx hb d15_86_16 rfl (lv_at hl 0 rfl) ?_
    refine lv_bipush (v := 48) hx hb d15_86_17 (by decide) ?_
    refine lv_iload_n hx hb d15_86_19 rfl (lv_at hl 1 rfl) ?_
    refine lv_iadd hx hb d15_86_20 ?_
    obtain ⟨y6, hr, h⟩ := ob h
    refine lv_topi (fun y9 ey => ?_)
    have e9 := ey.trans (Option.some.inj hr)
    clear ey
    subst y9
    clear hr
    obtain ⟨x7, hc, h⟩ := ob h
    refine sS_i (As := [.int y6]) (rest := [.ref (q 0)]) ⟨hx, hb, hml, hown, hts⟩ (cm_at l G Zd _ y6 x7 hc _) (kw_S (n := 1) hts k1312 k1310 k15 k1311 (by decide +kernel) ⟨Nat.le_of_ble_eq_true rfl, Nat.le_of_ble_eq_true rfl⟩) hP hD hK hS hA hZ rfl hl.1 rfl (Nat.le_of_ble_eq_true rfl) d15_86_21 ⟨Nat.le_of_ble_eq_true rfl, Nat.le_of_ble_eq_true rfl⟩ (fun rr u9 H locs hp hP hD hS => ?_)
    clear u9
    subst rr
    clear hc
    refine W.eq (g2 := F0 m 24 ls [.int x7, .ref (q 0)]) rfl ?_
    have hP : va_P G.1 vwCl (wMs q G.2 st) H := hP
    have hD : va_D A (wMs q G.2 st) := hD
    obtain ⟨st11, hc, h⟩ := ob h
    refine sV_v (As := [.int x7]) (rest := []) ⟨hx, hb, hml, hown, hts⟩ (cm_emitValue l G Zd q x7 st st11 hc _) (kw_V (n := 1) hts k1601 k1598 k15 k1600 ks98 (by decide +kernel) ⟨Nat.le_of_ble_eq_true rfl, Nat.le_of_ble_eq_true rfl⟩) hP hD hK hS hA hZ (va_recv (ci := 13) (q0 := 0) hK hP rfl rfl) rfl hl.1 rfl (Nat.le_of_ble_eq_true rfl) d15_86_24 ⟨Nat.le_of_ble_eq_true rfl, Nat.le_of_ble_eq_true rfl⟩ (fun u9 H locs hp hP hD hS => ?_)
    clear u9
    clear hp
    clear hc
    refine W.eq (g2 := F0 m 27 ls []) rfl ?_
    have hP : va_P G.1 vwCl (wMs q G.2 st11) H := hP
    have hD : va_D A (wMs q G.2 st11) := hD
    refine lv_aload_n hx hb d15_86_27 rfl (lv_at hl 0 rfl) ?_
    refine va_get (D := G.1) (ci := 13) (v := .int (st11.1 11)) (C := r_13) (T := f_13) (N := 42) (ref := "PagedValuesModel") hx hb hts (fun w h => List.mem_cons_of_mem _ (ly_13 w h)) hown hK hP 0 rfl rfl 30 (by decide) (hts _ (List.mem_cons_of_mem _ k1181)) (fun _ h9 => h9) rfl d15_86_28 ?_
    cases h
    exact fin_i hx hb hr hlk hS () rfl hP hD (Nat.le_of_ble_eq_true rfl) (Nat.le_of_ble_eq_true rfl) d15_86_31
  ·
    replace h := (if_pos c5).symm.trans h
    refine lv_iconst (v := (-1)) hx hb d15_86_14 (by decide) ?_
    cases h
    exact fin_i hx hb hr hlk hS () rfl hP hD (Nat.le_of_ble_eq_true rfl) (Nat.le_of_ble_eq_true rfl) d15_86_15
theorem d15_87_0 : decode prog_15_method_87_code 0 = .ok (.aload_n 0, 1) := by decide +kernel
theorem d15_87_1 : decode prog_15_method_87_code 1 = .ok (.getfield 308, 3) := by decide +kernel
theorem d15_87_4 : decode prog_15_method_87_code 4 = .ok (.ifCond .eq 6, 3) := by decide +kernel
theorem d15_87_10 : decode prog_15_method_87_code 10 = .ok (.aload_n 0, 1) := by decide +kernel
theorem d15_87_11 : decode prog_15_method_87_code 11 = .ok (.iload_n 1, 1) := by decide +kernel
theorem d15_87_12 : decode prog_15_method_87_code 12 = .ok (.invokevirtual 386, 3) := by decide +kernel
theorem d15_87_15 : decode prog_15_method_87_code 15 = .ok (.ifCond .eq 16, 3) := by decide +kernel
theorem d15_87_31 : decode prog_15_method_87_code 31 = .ok (.iconst (-1), 1) := by decide +kernel
theorem d15_87_18 : decode prog_15_method_87_code 18 = .ok (.aload_n 0, 1) := by decide +kernel
theorem d15_87_19 : decode prog_15_method_87_code 19 = .ok (.aload_n 0, 1) := by decide +kernel
theorem d15_87_20 : decode prog_15_method_87_code 20 = .ok (.iload_n 1, 1) := by decide +kernel
theorem d15_87_21 : decode prog_15_method_87_code 21 = .ok (.invokevirtual 389, 3) := by decide +kernel
theorem d15_87_24 : decode prog_15_method_87_code 24 = .ok (.iload_n 2, 1) := by decide +kernel
theorem d15_87_25 : decode prog_15_method_87_code 25 = .ok (.invokevirtual 299, 3) := by decide +kernel
theorem d15_87_28 : decode prog_15_method_87_code 28 = .ok (.goto 4, 3) := by decide +kernel
theorem d15_87_32 : decode prog_15_method_87_code 32 = .ok (.istore_n 3, 1) := by decide +kernel
theorem d15_87_33 : decode prog_15_method_87_code 33 = .ok (.iload_n 3, 1) := by decide +kernel
theorem d15_87_34 : decode prog_15_method_87_code 34 = .ok (.ifCond .ge 5, 3) := by decide +kernel
theorem d15_87_39 : decode prog_15_method_87_code 39 = .ok (.aload_n 0, 1) := by decide +kernel
theorem d15_87_40 : decode prog_15_method_87_code 40 = .ok (.iload_n 3, 1) := by decide +kernel
theorem d15_87_41 : decode prog_15_method_87_code 41 = .ok (.invokestatic 159, 3) := by decide +kernel
theorem d15_87_44 : decode prog_15_method_87_code 44 = .ok (.invokevirtual 417, 3) := by decide +kernel
theorem d15_87_47 : decode prog_15_method_87_code 47 = .ok (.aload_n 0, 1) := by decide +kernel
theorem d15_87_48 : decode prog_15_method_87_code 48 = .ok (.getfield 398, 3) := by decide +kernel
theorem d15_87_51 : decode prog_15_method_87_code 51 = .ok (.ireturn, 1) := by decide +kernel
theorem d15_87_37 : decode prog_15_method_87_code 37 = .ok (.iconst (-1), 1) := by decide +kernel
theorem d15_87_38 : decode prog_15_method_87_code 38 = .ok (.ireturn, 1) := by decide +kernel
theorem d15_87_7 : decode prog_15_method_87_code 7 = .ok (.bipush (-9), 2) := by decide +kernel
theorem d15_87_9 : decode prog_15_method_87_code 9 = .ok (.ireturn, 1) := by decide +kernel
def y15_87 : MethodName := { cls := "PagedValuesModel", name := "print", desc := "(II)I" }
def m_print (a0 : Int32) (a1 : Int32) (st : MS) : Option (Int32 × MS) := if (st.1 13) = (0 : Int32) then ((m_isReader a0 st).bind fun x2 => (if x2 = (0 : Int32) then (some ((-1) : Int32)) else ((m_rootOf a0 st).bind fun x15 => (m_rowOf x15 a1 st).bind fun x18 => some x18)).bind fun e6 => if (0 : Int32) ≤ e6 then ((m_at e6).bind fun x9 => (m_emitValue x9 st).bind fun st13 => some (st13.1 11, st13)) else (some (((-1) : Int32), st))) else (some (((-9) : Int32), st))
set_option maxHeartbeats 4000000 in
set_option maxRecDepth 100000 in
theorem cm_print (l : Launch) (G : Gk) (Zd : Nat → Nat) (q : Nat → Nat) (a0 : Int32) (a1 : Int32) (st : MS) (r0 : Int32) (st0 : MS) (hm : m_print a0 a1 st = some (r0, st0)) (sz : Nat) : Met l y15_87 (Cond.code y15_87 prog_15_method_87_code 4 (some .int) :: TB) (rmD 4 0 0) (va_Pc [.ref (q 0), .int a0, .int a1] (pcW G Zd (wMs q G.2 st) sz)) (qI G (fun rr (_ : Unit) => rr = r0) (fun _ => (wMs q G.2 st0)) (va_A (wMs q G.2 st) sz)) 0 0 (va_A (wMs q G.2 st) sz) := by
  refine go (y := y15_87) (cc := prog_15_method_87_code) (maxL := 4) (ret := (some .int)) (av := [.ref (q 0), .int a0, .int a1]) (Qc := qI G (fun rr (_ : Unit) => rr = r0) (fun _ => (wMs q G.2 st0))) "PagedValuesModel" rfl (by decide) (Nat.le_of_ble_eq_true rfl) ?_
  intro p e s m below meth c ls A hx hb hr hlk hml hown hts hin hl hP hD hK hS hA hZ
  have hl : lv_has ls 4 [(0, .ref (q 0)), (1, .int a0), (2, .int a1)] := hl
  have h := hm
  clear hm
  refine lv_aload_n hx hb d15_87_0 rfl (lv_at hl 0 rfl) ?_
  refine va_get (D := G.1) (ci := 13) (v := .int (st.1 13)) (C := r_13) (T := f_13) (N := 42) (ref := "PagedValuesModel") hx hb hts (fun w h => List.mem_cons_of_mem _ (ly_13 w h)) hown hK hP 0 rfl rfl 40 (by decide) (hts _ (List.mem_cons_of_mem _ k1191)) (fun _ h9 => h9) rfl d15_87_1 ?_
  refine lv_if_eq (tgt := 10) hx hb d15_87_4 rfl (fun c1 => ?_) (fun c1 => ?_)
  ·
    replace h := (if_pos c1).symm.trans h
    refine lv_aload_n hx hb d15_87_10 rfl (lv_at hl 0 rfl) ?_
    refine lv_iload_n hx hb d15_87_11 rfl (lv_at hl 1 rfl) ?_
    obtain ⟨x2, hc, h⟩ := ob h
    refine sV_i (As := [.int a0]) (rest := []) ⟨hx, hb, hml, hown, hts⟩ (cm_isReader l G Zd q a0 st x2 hc _) (kw_V (n := 1) hts k1542 k1539 k15 k1541 ks86 (by decide +kernel) ⟨Nat.le_of_ble_eq_true rfl, Nat.le_of_ble_eq_true rfl⟩) hP hD hK hS hA hZ (va_recv (ci := 13) (q0 := 0) hK hP rfl rfl) rfl hl.1 rfl (Nat.le_of_ble_eq_true rfl) d15_87_12 ⟨Nat.le_of_ble_eq_true rfl, Nat.le_of_ble_eq_true rfl⟩ (fun rr u9 H locs hp hP hD hS => ?_)
    clear u9
    subst rr
    clear hc
    refine W.eq (g2 := F0 m 15 ls [.int x2]) rfl ?_
    have hP : va_P G.1 vwCl (wMs q G.2 st) H := hP
    have hD : va_D A (wMs q G.2 st) := hD
    obtain ⟨e6, hX, h⟩ := ob h
    have hj : ∀ (H : Heap) (locs : List Loc) (ls : Array Slot), lv_has ls 4 [(0, .ref (q 0)), (1, .int a0), (2, .int a1)] → va_P G.1 vwCl (wMs q G.2 st) H → va_D A (wMs q G.2 st) → va_S A s.heap H locs → W p l e (rmD 4 0 0) s m ([.ref (q 0), .int a0, .int a1] : List Value).toArray below meth c H locs 0 0 (MQ below (qI G (fun rr (_ : Unit) => rr = r0) (fun _ => (wMs q G.2 st0)) A) ([.ref (q 0), .int a0, .int a1] : List Value).toArray s 0 0 A) (F0 m 32 ls [.int e6]) := by
      intro H locs ls hl hP hD hS
      refine lv_istore_n (lv' := [(3, .int e6), (0, .ref (q 0)), (1, .int a0), (2, .int a1)]) hx hb d15_87_32 rfl hl (by decide) rfl (fun ls hl => ?_)
      refine lv_iload_n hx hb d15_87_33 rfl (lv_at hl 0 rfl) ?_
      refine lv_if_ge (tgt := 39) hx hb d15_87_34 rfl (fun c8 => ?_) (fun c8 => ?_)
      ·
        replace h := (if_pos c8).symm.trans h
        refine lv_aload_n hx hb d15_87_39 rfl (lv_at hl 1 rfl) ?_
        refine lv_iload_n hx hb d15_87_40 rfl (lv_at hl 0 rfl) ?_
        obtain ⟨x9, hc, h⟩ := ob h
        refine sS_i (As := [.int e6]) (rest := [.ref (q 0)]) ⟨hx, hb, hml, hown, hts⟩ (cm_at l G Zd _ e6 x9 hc _) (kw_S (n := 1) hts k1312 k1310 k15 k1311 (by decide +kernel) ⟨Nat.le_of_ble_eq_true rfl, Nat.le_of_ble_eq_true rfl⟩) hP hD hK hS hA hZ rfl hl.1 rfl (Nat.le_of_ble_eq_true rfl) d15_87_41 ⟨Nat.le_of_ble_eq_true rfl, Nat.le_of_ble_eq_true rfl⟩ (fun rr u9 H locs hp hP hD hS => ?_)
        clear u9
        subst rr
        clear hc
        refine W.eq (g2 := F0 m 44 ls [.int x9, .ref (q 0)]) rfl ?_
        have hP : va_P G.1 vwCl (wMs q G.2 st) H := hP
        have hD : va_D A (wMs q G.2 st) := hD
        obtain ⟨st13, hc, h⟩ := ob h
        refine sV_v (As := [.int x9]) (rest := []) ⟨hx, hb, hml, hown, hts⟩ (cm_emitValue l G Zd q x9 st st13 hc _) (kw_V (n := 1) hts k1601 k1598 k15 k1600 ks98 (by decide +kernel) ⟨Nat.le_of_ble_eq_true rfl, Nat.le_of_ble_eq_true rfl⟩) hP hD hK hS hA hZ (va_recv (ci := 13) (q0 := 0) hK hP rfl rfl) rfl hl.1 rfl (Nat.le_of_ble_eq_true rfl) d15_87_44 ⟨Nat.le_of_ble_eq_true rfl, Nat.le_of_ble_eq_true rfl⟩ (fun u9 H locs hp hP hD hS => ?_)
        clear u9
        clear hp
        clear hc
        refine W.eq (g2 := F0 m 47 ls []) rfl ?_
        have hP : va_P G.1 vwCl (wMs q G.2 st13) H := hP
        have hD : va_D A (wMs q G.2 st13) := hD
        refine lv_aload_n hx hb d15_87_47 rfl (lv_at hl 1 rfl) ?_
        refine va_get (D := G.1) (ci := 13) (v := .int (st13.1 11)) (C := r_13) (T := f_13) (N := 42) (ref := "PagedValuesModel") hx hb hts (fun w h => List.mem_cons_of_mem _ (ly_13 w h)) hown hK hP 0 rfl rfl 30 (by decide) (hts _ (List.mem_cons_of_mem _ k1181)) (fun _ h9 => h9) rfl d15_87_48 ?_
        cases h
        exact fin_i hx hb hr hlk hS () rfl hP hD (Nat.le_of_ble_eq_true rfl) (Nat.le_of_ble_eq_true rfl) d15_87_51
      ·
        replace h := (if_neg c8).symm.trans h
        refine lv_iconst (v := (-1)) hx hb d15_87_37 (by decide) ?_
        cases h
        exact fin_i hx hb hr hlk hS () rfl hP hD (Nat.le_of_ble_eq_true rfl) (Nat.le_of_ble_eq_true rfl) d15_87_38
    clear h
    refine lv_if_eq (tgt := 31) hx hb d15_87_15 rfl (fun c5 => ?_) (fun c5 => ?_)
    ·
      replace h := (if_pos c5).symm.trans hX
      refine lv_iconst (v := (-1)) hx hb d15_87_31 (by decide) ?_
      have e9 := Option.some.inj h
      subst e6
      have hl := lv_sub hl (l' := [(0, .ref (q 0)), (1, .int a0), (2, .int a1)]) [0, 1, 2] rfl
      exact hj _ _ _ hl hP hD hS
    ·
      replace h := (if_neg c5).symm.trans hX
      refine lv_aload_n hx hb d15_87_18 rfl (lv_at hl 0 rfl) ?_
      refine lv_aload_n hx hb d15_87_19 rfl (lv_at hl 0 rfl) ?_
      refine lv_iload_n hx hb d15_87_20 rfl (lv_at hl 1 rfl) ?_
      obtain ⟨x15, hc, h⟩ := ob h
      refine sV_i (As := [.int a0]) (rest := [.ref (q 0)]) ⟨hx, hb, hml, hown, hts⟩ (cm_rootOf l G Zd q a0 st x15 hc _) (kw_V (n := 1) hts k1546 k1543 k15 k1545 ks87 (by decide +kernel) ⟨Nat.le_of_ble_eq_true rfl, Nat.le_of_ble_eq_true rfl⟩) hP hD hK hS hA hZ (va_recv (ci := 13) (q0 := 0) hK hP rfl rfl) rfl hl.1 rfl (Nat.le_of_ble_eq_true rfl) d15_87_21 ⟨Nat.le_of_ble_eq_true rfl, Nat.le_of_ble_eq_true rfl⟩ (fun rr u9 H locs hp hP hD hS => ?_)
      clear u9
      subst rr
      clear hc
      refine W.eq (g2 := F0 m 24 ls [.int x15, .ref (q 0)]) rfl ?_
      have hP : va_P G.1 vwCl (wMs q G.2 st) H := hP
      have hD : va_D A (wMs q G.2 st) := hD
      refine lv_iload_n hx hb d15_87_24 rfl (lv_at hl 2 rfl) ?_
      obtain ⟨x18, hc, h⟩ := ob h
      refine sV_i (As := [.int x15, .int a1]) (rest := []) ⟨hx, hb, hml, hown, hts⟩ (cm_rowOf l G Zd q x15 a1 st x18 hc _) (kw_V (n := 2) hts k1400 k1397 k15 k1399 ks58 (by decide +kernel) ⟨Nat.le_of_ble_eq_true rfl, Nat.le_of_ble_eq_true rfl⟩) hP hD hK hS hA hZ (va_recv (ci := 13) (q0 := 0) hK hP rfl rfl) rfl hl.1 rfl (Nat.le_of_ble_eq_true rfl) d15_87_25 ⟨Nat.le_of_ble_eq_true rfl, Nat.le_of_ble_eq_true rfl⟩ (fun rr u9 H locs hp hP hD hS => ?_)
      clear u9
      subst rr
      clear hc
      refine W.eq (g2 := F0 m 28 ls [.int x18]) rfl ?_
      have hP : va_P G.1 vwCl (wMs q G.2 st) H := hP
      have hD : va_D A (wMs q G.2 st) := hD
      refine lv_goto (tgt := 32) hx hb d15_87_28 rfl ?_
      have e9 := Option.some.inj h
      subst e6
      have hl := lv_sub hl (l' := [(0, .ref (q 0)), (1, .int a0), (2, .int a1)]) [0, 1, 2] rfl
      exact hj _ _ _ hl hP hD hS
  ·
    replace h := (if_neg c1).symm.trans h
    refine lv_bipush (v := (-9)) hx hb d15_87_7 (by decide) ?_
    cases h
    exact fin_i hx hb hr hlk hS () rfl hP hD (Nat.le_of_ble_eq_true rfl) (Nat.le_of_ble_eq_true rfl) d15_87_9
theorem d15_88_0 : decode prog_15_method_88_code 0 = .ok (.iload_n 1, 1) := by decide +kernel
theorem d15_88_1 : decode prog_15_method_88_code 1 = .ok (.iconst 0, 1) := by decide +kernel
theorem d15_88_2 : decode prog_15_method_88_code 2 = .ok (.aload_n 0, 1) := by decide +kernel
theorem d15_88_3 : decode prog_15_method_88_code 3 = .ok (.getfield 398, 3) := by decide +kernel
theorem d15_88_6 : decode prog_15_method_88_code 6 = .ok (.iconst 1, 1) := by decide +kernel
theorem d15_88_7 : decode prog_15_method_88_code 7 = .ok (.isub, 1) := by decide +kernel
theorem d15_88_8 : decode prog_15_method_88_code 8 = .ok (.invokestatic 260, 3) := by decide +kernel
theorem d15_88_11 : decode prog_15_method_88_code 11 = .ok (.ifCond .eq 12, 3) := by decide +kernel
theorem d15_88_23 : decode prog_15_method_88_code 23 = .ok (.iconst (-1), 1) := by decide +kernel
theorem d15_88_14 : decode prog_15_method_88_code 14 = .ok (.aload_n 0, 1) := by decide +kernel
theorem d15_88_15 : decode prog_15_method_88_code 15 = .ok (.getfield 65, 3) := by decide +kernel
theorem d15_88_18 : decode prog_15_method_88_code 18 = .ok (.iload_n 1, 1) := by decide +kernel
theorem d15_88_19 : decode prog_15_method_88_code 19 = .ok (.caload, 1) := by decide +kernel
theorem d15_88_20 : decode prog_15_method_88_code 20 = .ok (.goto 4, 3) := by decide +kernel
theorem d15_88_24 : decode prog_15_method_88_code 24 = .ok (.ireturn, 1) := by decide +kernel
def y15_88 : MethodName := { cls := "PagedValuesModel", name := "output", desc := "(I)I" }
def m_output (a0 : Int32) (st : MS) : Option (Int32) := (some ((st.1 11) - 1)).bind fun y1 => (m_within a0 (0 : Int32) y1).bind fun x2 => (if x2 = (0 : Int32) then (some ((-1) : Int32)) else ((rd (st.2.2.1 11) 1200 a0).bind fun x8 => some x8)).bind fun e6 => some e6
set_option maxHeartbeats 4000000 in
set_option maxRecDepth 100000 in
theorem cm_output (l : Launch) (G : Gk) (Zd : Nat → Nat) (q : Nat → Nat) (a0 : Int32) (st : MS) (r0 : Int32) (hm : m_output a0 st = some r0) (sz : Nat) : Met l y15_88 (Cond.code y15_88 prog_15_method_88_code 2 (some .int) :: TB) (rmD 1 0 0) (va_Pc [.ref (q 0), .int a0] (pcW G Zd (wMs q G.2 st) sz)) (qI G (fun rr (_ : Unit) => rr = r0) (fun _ => (wMs q G.2 st)) (va_A (wMs q G.2 st) sz)) 0 0 (va_A (wMs q G.2 st) sz) := by
  refine go (y := y15_88) (cc := prog_15_method_88_code) (maxL := 2) (ret := (some .int)) (av := [.ref (q 0), .int a0]) (Qc := qI G (fun rr (_ : Unit) => rr = r0) (fun _ => (wMs q G.2 st))) "PagedValuesModel" rfl (by decide) (Nat.le_of_ble_eq_true rfl) ?_
  intro p e s m below meth c ls A hx hb hr hlk hml hown hts hin hl hP hD hK hS hA hZ
  have hl : lv_has ls 2 [(0, .ref (q 0)), (1, .int a0)] := hl
  have h := hm
  clear hm
  refine lv_iload_n hx hb d15_88_0 rfl (lv_at hl 1 rfl) ?_
  refine lv_iconst (v := 0) hx hb d15_88_1 (by decide) ?_
  refine lv_aload_n hx hb d15_88_2 rfl (lv_at hl 0 rfl) ?_
  refine va_get (D := G.1) (ci := 13) (v := .int (st.1 11)) (C := r_13) (T := f_13) (N := 42) (ref := "PagedValuesModel") hx hb hts (fun w h => List.mem_cons_of_mem _ (ly_13 w h)) hown hK hP 0 rfl rfl 30 (by decide) (hts _ (List.mem_cons_of_mem _ k1181)) (fun _ h9 => h9) rfl d15_88_3 ?_
  refine lv_iconst (v := 1) hx hb d15_88_6 (by decide) ?_
  refine lv_isub hx hb d15_88_7 ?_
  obtain ⟨y1, hr, h⟩ := ob h
  refine lv_topi (fun y9 ey => ?_)
  have e9 := ey.trans (Option.some.inj hr)
  clear ey
  subst y9
  clear hr
  obtain ⟨x2, hc, h⟩ := ob h
  refine sS_i (As := [.int a0, .int 0, .int y1]) (rest := []) ⟨hx, hb, hml, hown, hts⟩ (cm_within l G Zd _ a0 (0 : Int32) y1 x2 hc _) (kw_S (n := 3) hts k1289 k1287 k15 k1288 (by decide +kernel) ⟨Nat.le_of_ble_eq_true rfl, Nat.le_of_ble_eq_true rfl⟩) hP hD hK hS hA hZ rfl hl.1 rfl (Nat.le_of_ble_eq_true rfl) d15_88_8 ⟨Nat.le_of_ble_eq_true rfl, Nat.le_of_ble_eq_true rfl⟩ (fun rr u9 H locs hp hP hD hS => ?_)
  clear u9
  subst rr
  clear hc
  refine W.eq (g2 := F0 m 11 ls [.int x2]) rfl ?_
  have hP : va_P G.1 vwCl (wMs q G.2 st) H := hP
  have hD : va_D A (wMs q G.2 st) := hD
  obtain ⟨e6, hX, h⟩ := ob h
  have hj : ∀ (H : Heap) (locs : List Loc) (ls : Array Slot), lv_has ls 2 [(0, .ref (q 0)), (1, .int a0)] → va_P G.1 vwCl (wMs q G.2 st) H → va_D A (wMs q G.2 st) → va_S A s.heap H locs → W p l e (rmD 1 0 0) s m ([.ref (q 0), .int a0] : List Value).toArray below meth c H locs 0 0 (MQ below (qI G (fun rr (_ : Unit) => rr = r0) (fun _ => (wMs q G.2 st)) A) ([.ref (q 0), .int a0] : List Value).toArray s 0 0 A) (F0 m 24 ls [.int e6]) := by
    intro H locs ls hl hP hD hS
    cases h
    exact fin_i hx hb hr hlk hS () rfl hP hD (Nat.le_of_ble_eq_true rfl) (Nat.le_of_ble_eq_true rfl) d15_88_24
  clear h
  refine lv_if_eq (tgt := 23) hx hb d15_88_11 rfl (fun c5 => ?_) (fun c5 => ?_)
  ·
    replace h := (if_pos c5).symm.trans hX
    refine lv_iconst (v := (-1)) hx hb d15_88_23 (by decide) ?_
    have e9 := Option.some.inj h
    subst e6
    have hl := lv_sub hl (l' := [(0, .ref (q 0)), (1, .int a0)]) [0, 1] rfl
    exact hj _ _ _ hl hP hD hS
  ·
    replace h := (if_neg c5).symm.trans hX
    refine lv_aload_n hx hb d15_88_14 rfl (lv_at hl 0 rfl) ?_
    refine va_get (D := G.1) (ci := 13) (v := .ref (q 18)) (C := r_13) (T := f_13) (N := 42) (ref := "PagedValuesModel") hx hb hts (fun w h => List.mem_cons_of_mem _ (ly_13 w h)) hown hK hP 0 rfl rfl 31 (by decide) (hts _ (List.mem_cons_of_mem _ k1182)) (fun _ h9 => h9) rfl d15_88_15 ?_
    refine lv_iload_n hx hb d15_88_18 rfl (lv_at hl 1 rfl) ?_
    obtain ⟨x8, hr, h⟩ := ob h
    obtain ⟨hi, hv⟩ := rd_some hr
    refine va_cald (D := G.1) hx hb hK hP 18 0 rfl rfl (i := a0) hi d15_88_19 ?_
    refine lv_topi (fun y9 ey => ?_)
    have e9 := ey.trans hv
    clear ey
    subst y9
    clear hv hi hr
    refine lv_goto (tgt := 24) hx hb d15_88_20 rfl ?_
    have e9 := Option.some.inj h
    subst e6
    have hl := lv_sub hl (l' := [(0, .ref (q 0)), (1, .int a0)]) [0, 1] rfl
    exact hj _ _ _ hl hP hD hS
theorem d15_89_0 : decode prog_15_method_89_code 0 = .ok (.aload_n 0, 1) := by decide +kernel
theorem d15_89_1 : decode prog_15_method_89_code 1 = .ok (.getfield 308, 3) := by decide +kernel
theorem d15_89_4 : decode prog_15_method_89_code 4 = .ok (.ifCond .eq 6, 3) := by decide +kernel
theorem d15_89_10 : decode prog_15_method_89_code 10 = .ok (.iconst 0, 1) := by decide +kernel
theorem d15_89_11 : decode prog_15_method_89_code 11 = .ok (.istore_n 1, 1) := by decide +kernel
theorem d15_89_56 : decode prog_15_method_89_code 56 = .ok (.iconst (-1), 1) := by decide +kernel
theorem d15_89_57 : decode prog_15_method_89_code 57 = .ok (.ireturn, 1) := by decide +kernel
theorem d15_89_12 : decode prog_15_method_89_code 12 = .ok (.iload_n 1, 1) := by decide +kernel
theorem d15_89_13 : decode prog_15_method_89_code 13 = .ok (.iconst 3, 1) := by decide +kernel
theorem d15_89_14 : decode prog_15_method_89_code 14 = .ok (.if_icmp .ge 42, 3) := by decide +kernel
theorem d15_89_17 : decode prog_15_method_89_code 17 = .ok (.aload_n 0, 1) := by decide +kernel
theorem d15_89_18 : decode prog_15_method_89_code 18 = .ok (.getfield 83, 3) := by decide +kernel
theorem d15_89_21 : decode prog_15_method_89_code 21 = .ok (.iload_n 1, 1) := by decide +kernel
theorem d15_89_22 : decode prog_15_method_89_code 22 = .ok (.baload, 1) := by decide +kernel
theorem d15_89_23 : decode prog_15_method_89_code 23 = .ok (.ifCond .ne 27, 3) := by decide +kernel
theorem d15_89_50 : decode prog_15_method_89_code 50 = .ok (.iinc 1 1, 3) := by decide +kernel
theorem d15_89_53 : decode prog_15_method_89_code 53 = .ok (.goto (-41), 3) := by decide +kernel
theorem d15_89_26 : decode prog_15_method_89_code 26 = .ok (.aload_n 0, 1) := by decide +kernel
theorem d15_89_27 : decode prog_15_method_89_code 27 = .ok (.getfield 83, 3) := by decide +kernel
theorem d15_89_30 : decode prog_15_method_89_code 30 = .ok (.iload_n 1, 1) := by decide +kernel
theorem d15_89_31 : decode prog_15_method_89_code 31 = .ok (.iconst 1, 1) := by decide +kernel
theorem d15_89_32 : decode prog_15_method_89_code 32 = .ok (.bastore, 1) := by decide +kernel
theorem d15_89_33 : decode prog_15_method_89_code 33 = .ok (.aload_n 0, 1) := by decide +kernel
theorem d15_89_34 : decode prog_15_method_89_code 34 = .ok (.getfield 86, 3) := by decide +kernel
theorem d15_89_37 : decode prog_15_method_89_code 37 = .ok (.iload_n 1, 1) := by decide +kernel
theorem d15_89_38 : decode prog_15_method_89_code 38 = .ok (.aload_n 0, 1) := by decide +kernel
theorem d15_89_39 : decode prog_15_method_89_code 39 = .ok (.getfield 77, 3) := by decide +kernel
theorem d15_89_42 : decode prog_15_method_89_code 42 = .ok (.aload_n 0, 1) := by decide +kernel
theorem d15_89_43 : decode prog_15_method_89_code 43 = .ok (.invokevirtual 312, 3) := by decide +kernel
theorem d15_89_46 : decode prog_15_method_89_code 46 = .ok (.iaload, 1) := by decide +kernel
theorem d15_89_47 : decode prog_15_method_89_code 47 = .ok (.iastore, 1) := by decide +kernel
theorem d15_89_48 : decode prog_15_method_89_code 48 = .ok (.iload_n 1, 1) := by decide +kernel
theorem d15_89_49 : decode prog_15_method_89_code 49 = .ok (.ireturn, 1) := by decide +kernel
theorem d15_89_7 : decode prog_15_method_89_code 7 = .ok (.bipush (-9), 2) := by decide +kernel
theorem d15_89_9 : decode prog_15_method_89_code 9 = .ok (.ireturn, 1) := by decide +kernel
def y15_89 : MethodName := { cls := "PagedValuesModel", name := "open", desc := "()I" }
def m_open_l1 (st : MS) : Nat → (Int32) → Option ((Int32 × MS) ⊕ (Int32))
  | 0, _ => none
  | n9 + 1, e9 => if (3 : Int32) ≤ e9 then (some (.inr e9)) else ((rd (st.2.2.1 17) 3 e9).bind fun x7 => if x7 = (0 : Int32) then ((ix 3 e9).bind fun k9z => (some (vp_nar .boolean (1 : Int32))).bind fun y10 => (m_current (st.1, st.2.1, va_up st.2.2.1 17 (upd (st.2.2.1 17) k9z y10), st.2.2.2)).bind fun x11 => (rd (st.2.2.1 15) 2 x11).bind fun x14 => (ix 3 e9).bind fun k15z => some (.inl (e9, (st.1, st.2.1, va_up (va_up st.2.2.1 17 (upd (st.2.2.1 17) k9z y10)) 18 (upd (st.2.2.1 18) k15z x14), st.2.2.2)))) else (m_open_l1 st n9 (e9 + 1)))
theorem m_open_l1_s (st : MS) (n9 : Nat) (e9 : Int32) : m_open_l1 st (n9 + 1) e9 = (if (3 : Int32) ≤ e9 then (some (.inr e9)) else ((rd (st.2.2.1 17) 3 e9).bind fun x7 => if x7 = (0 : Int32) then ((ix 3 e9).bind fun k9z => (some (vp_nar .boolean (1 : Int32))).bind fun y10 => (m_current (st.1, st.2.1, va_up st.2.2.1 17 (upd (st.2.2.1 17) k9z y10), st.2.2.2)).bind fun x11 => (rd (st.2.2.1 15) 2 x11).bind fun x14 => (ix 3 e9).bind fun k15z => some (.inl (e9, (st.1, st.2.1, va_up (va_up st.2.2.1 17 (upd (st.2.2.1 17) k9z y10)) 18 (upd (st.2.2.1 18) k15z x14), st.2.2.2)))) else (m_open_l1 st n9 (e9 + 1)))) := rfl
def m_open (st : MS) : Option (Int32 × MS) := if (st.1 13) = (0 : Int32) then ((m_open_l1 st 4096 (0 : Int32)).bind fun e2 => match e2 with | .inl o9 => some o9 | .inr e8 => some (((-1) : Int32), st)) else (some (((-9) : Int32), st))
set_option maxHeartbeats 4000000 in
set_option maxRecDepth 100000 in
theorem cm_open (l : Launch) (G : Gk) (Zd : Nat → Nat) (q : Nat → Nat) (st : MS) (r0 : Int32) (st0 : MS) (hm : m_open st = some (r0, st0)) (sz : Nat) : Met l y15_89 (Cond.code y15_89 prog_15_method_89_code 2 (some .int) :: TB) (rmD 1 0 0) (va_Pc [.ref (q 0)] (pcW G Zd (wMs q G.2 st) sz)) (qI G (fun rr (_ : Unit) => rr = r0) (fun _ => (wMs q G.2 st0)) (va_A (wMs q G.2 st) sz)) 0 0 (va_A (wMs q G.2 st) sz) := by
  refine go (y := y15_89) (cc := prog_15_method_89_code) (maxL := 2) (ret := (some .int)) (av := [.ref (q 0)]) (Qc := qI G (fun rr (_ : Unit) => rr = r0) (fun _ => (wMs q G.2 st0))) "PagedValuesModel" rfl (by decide) (Nat.le_of_ble_eq_true rfl) ?_
  intro p e s m below meth c ls A hx hb hr hlk hml hown hts hin hl hP hD hK hS hA hZ
  have hl : lv_has ls 2 [(0, .ref (q 0))] := hl
  have h := hm
  clear hm
  refine lv_aload_n hx hb d15_89_0 rfl (lv_at hl 0 rfl) ?_
  refine va_get (D := G.1) (ci := 13) (v := .int (st.1 13)) (C := r_13) (T := f_13) (N := 42) (ref := "PagedValuesModel") hx hb hts (fun w h => List.mem_cons_of_mem _ (ly_13 w h)) hown hK hP 0 rfl rfl 40 (by decide) (hts _ (List.mem_cons_of_mem _ k1191)) (fun _ h9 => h9) rfl d15_89_1 ?_
  refine lv_if_eq (tgt := 10) hx hb d15_89_4 rfl (fun c1 => ?_) (fun c1 => ?_)
  ·
    replace h := (if_pos c1).symm.trans h
    refine lv_iconst (v := 0) hx hb d15_89_10 (by decide) ?_
    refine lv_istore_n (lv' := [(1, .int 0), (0, .ref (q 0))]) hx hb d15_89_11 rfl hl (by decide) rfl (fun ls hl => ?_)
    obtain ⟨e2, hX, hrest⟩ := ob h
    clear h
    have hj : ∀ (v5 : Int32), e2 = .inr (v5) → ∀ (H : Heap) (locs : List Loc) (ls : Array Slot), lv_has ls 2 [(0, .ref (q 0)), (1, .int v5)] → va_P G.1 vwCl (wMs q G.2 st) H → va_D A (wMs q G.2 st) → va_S A s.heap H locs → W p l e (rmD 1 0 0) s m ([.ref (q 0)] : List Value).toArray below meth c H locs 0 0 (MQ below (qI G (fun rr (_ : Unit) => rr = r0) (fun _ => (wMs q G.2 st0)) A) ([.ref (q 0)] : List Value).toArray s 0 0 A) (F0 m 56 ls []) := by
      intro v5 he H locs ls hl hP hD hS
      subst e2
      have h := hrest
      refine lv_iconst (v := (-1)) hx hb d15_89_56 (by decide) ?_
      cases h
      exact fin_i hx hb hr hlk hS () rfl hP hD (Nat.le_of_ble_eq_true rfl) (Nat.le_of_ble_eq_true rfl) d15_89_57
    have hloop : ∀ (n9 : Nat) (v3 : Int32), m_open_l1 st n9 (v3) = some e2 → ∀ (H : Heap) (locs : List Loc) (ls : Array Slot), lv_has ls 2 [(0, .ref (q 0)), (1, .int v3)] → va_P G.1 vwCl (wMs q G.2 st) H → va_D A (wMs q G.2 st) → va_S A s.heap H locs → W p l e (rmD 1 0 0) s m ([.ref (q 0)] : List Value).toArray below meth c H locs 0 0 (MQ below (qI G (fun rr (_ : Unit) => rr = r0) (fun _ => (wMs q G.2 st0)) A) ([.ref (q 0)] : List Value).toArray s 0 0 A) (F0 m 12 ls []) := by
      intro n9
      induction n9 with
      | zero =>
        intro v3 h
        cases h
      | succ n9 ih =>
        intro v3 h H locs ls hl hP hD hS
        replace h := (m_open_l1_s st n9 (v3)).symm.trans h
        refine lv_iload_n hx hb d15_89_12 rfl (lv_at hl 1 rfl) ?_
        refine lv_iconst (v := 3) hx hb d15_89_13 (by decide) ?_
        refine lv_icmp_ge (tgt := 56) hx hb d15_89_14 rfl (fun c6 => ?_) (fun c6 => ?_)
        ·
          replace h := (if_pos c6).symm.trans h
          have e9 := Option.some.inj h
          subst e2
          have hl := lv_sub hl (l' := [(0, .ref (q 0)), (1, .int v3)]) [0, 1] rfl
          exact hj _ rfl _ _ _ hl hP hD hS
        ·
          replace h := (if_neg c6).symm.trans h
          refine lv_aload_n hx hb d15_89_17 rfl (lv_at hl 0 rfl) ?_
          refine va_get (D := G.1) (ci := 13) (v := .ref (q 24)) (C := r_13) (T := f_13) (N := 42) (ref := "PagedValuesModel") hx hb hts (fun w h => List.mem_cons_of_mem _ (ly_13 w h)) hown hK hP 0 rfl rfl 37 (by decide) (hts _ (List.mem_cons_of_mem _ k1188)) (fun _ h9 => h9) rfl d15_89_18 ?_
          refine lv_iload_n hx hb d15_89_21 rfl (lv_at hl 1 rfl) ?_
          obtain ⟨x7, hr, h⟩ := ob h
          obtain ⟨hi, hv⟩ := rd_some hr
          refine va_zald (D := G.1) hx hb hK hP 24 3 rfl rfl (i := v3) hi d15_89_22 ?_
          refine lv_topi (fun y9 ey => ?_)
          have e9 := ey.trans hv
          clear ey
          subst y9
          clear hv hi hr
          refine lv_if_ne (tgt := 50) hx hb d15_89_23 rfl (fun c8 => ?_) (fun c8 => ?_)
          ·
            replace h := (if_neg c8).symm.trans h
            refine lv_iinc (k := 1) (v := v3 + 1) (lv' := [(1, .int (v3 + 1)), (0, .ref (q 0))]) hx hb d15_89_50 hl rfl (by first | decide | rfl) (by decide) rfl (fun ls hl => ?_)
            refine lv_goto (tgt := 12) hx hb d15_89_53 rfl ?_
            have hl := lv_sub hl (l' := [(0, .ref (q 0)), (1, .int (v3 + 1))]) [1, 0] rfl
            exact ih _ h _ _ _ hl hP hD hS
          ·
            replace h := (if_pos c8).symm.trans h
            refine lv_aload_n hx hb d15_89_26 rfl (lv_at hl 0 rfl) ?_
            refine va_get (D := G.1) (ci := 13) (v := .ref (q 24)) (C := r_13) (T := f_13) (N := 42) (ref := "PagedValuesModel") hx hb hts (fun w h => List.mem_cons_of_mem _ (ly_13 w h)) hown hK hP 0 rfl rfl 37 (by decide) (hts _ (List.mem_cons_of_mem _ k1188)) (fun _ h9 => h9) rfl d15_89_27 ?_
            refine lv_iload_n hx hb d15_89_30 rfl (lv_at hl 1 rfl) ?_
            refine lv_iconst (v := 1) hx hb d15_89_31 (by decide) ?_
            obtain ⟨k9z, hr, h⟩ := ob h
            obtain ⟨hi, hk⟩ := ix_some hr
            clear hr
            refine va_zast (D := G.1) hx hb hK hP hD hS 24 3 rfl rfl (i := v3) (x := (1 : Int32)) hi d15_89_32 (fun H locs hP hD hS => ?_)
            rw [hk] at hP hD
            clear hk hi
            obtain ⟨y10, hr, h⟩ := ob h
            rw [Option.some.inj hr] at hP hD
            clear hr
            have hP : va_P G.1 vwCl (wMs q G.2 (st.1, st.2.1, va_up st.2.2.1 17 (upd (st.2.2.1 17) k9z y10), st.2.2.2)) H := hP
            have hD : va_D A (wMs q G.2 (st.1, st.2.1, va_up st.2.2.1 17 (upd (st.2.2.1 17) k9z y10), st.2.2.2)) := hD
            refine lv_aload_n hx hb d15_89_33 rfl (lv_at hl 0 rfl) ?_
            refine va_get (D := G.1) (ci := 13) (v := .ref (q 25)) (C := r_13) (T := f_13) (N := 42) (ref := "PagedValuesModel") hx hb hts (fun w h => List.mem_cons_of_mem _ (ly_13 w h)) hown hK hP 0 rfl rfl 38 (by decide) (hts _ (List.mem_cons_of_mem _ k1189)) (fun _ h9 => h9) rfl d15_89_34 ?_
            refine lv_iload_n hx hb d15_89_37 rfl (lv_at hl 1 rfl) ?_
            refine lv_aload_n hx hb d15_89_38 rfl (lv_at hl 0 rfl) ?_
            refine va_get (D := G.1) (ci := 13) (v := .ref (q 22)) (C := r_13) (T := f_13) (N := 42) (ref := "PagedValuesModel") hx hb hts (fun w h => List.mem_cons_of_mem _ (ly_13 w h)) hown hK hP 0 rfl rfl 35 (by decide) (hts _ (List.mem_cons_of_mem _ k1186)) (fun _ h9 => h9) rfl d15_89_39 ?_
            refine lv_aload_n hx hb d15_89_42 rfl (lv_at hl 0 rfl) ?_
            obtain ⟨x11, hc, h⟩ := ob h
            refine sV_i (As := []) (rest := [.ref (q 22), .int v3, .ref (q 25)]) ⟨hx, hb, hml, hown, hts⟩ (cm_current l G Zd q (st.1, st.2.1, va_up st.2.2.1 17 (upd (st.2.2.1 17) k9z y10), st.2.2.2) x11 hc _) (kw_V (n := 0) hts k1396 k1393 k15 k1395 ks57 (by decide +kernel) ⟨Nat.le_of_ble_eq_true rfl, Nat.le_of_ble_eq_true rfl⟩) hP hD hK hS hA hZ (va_recv (ci := 13) (q0 := 0) hK hP rfl rfl) rfl hl.1 rfl (Nat.le_of_ble_eq_true rfl) d15_89_43 ⟨Nat.le_of_ble_eq_true rfl, Nat.le_of_ble_eq_true rfl⟩ (fun rr u9 H locs hp hP hD hS => ?_)
            clear u9
            subst rr
            clear hc
            refine W.eq (g2 := F0 m 46 ls [.int x11, .ref (q 22), .int v3, .ref (q 25)]) rfl ?_
            have hP : va_P G.1 vwCl (wMs q G.2 (st.1, st.2.1, va_up st.2.2.1 17 (upd (st.2.2.1 17) k9z y10), st.2.2.2)) H := hP
            have hD : va_D A (wMs q G.2 (st.1, st.2.1, va_up st.2.2.1 17 (upd (st.2.2.1 17) k9z y10), st.2.2.2)) := hD
            obtain ⟨x14, hr, h⟩ := ob h
            obtain ⟨hi, hv⟩ := rd_some hr
            refine va_iald (D := G.1) hx hb hK hP 22 1 rfl rfl (i := x11) hi d15_89_46 ?_
            refine lv_topi (fun y9 ey => ?_)
            have e9 := ey.trans hv
            clear ey
            subst y9
            clear hv hi hr
            obtain ⟨k15z, hr, h⟩ := ob h
            obtain ⟨hi, hk⟩ := ix_some hr
            clear hr
            refine va_iast (D := G.1) hx hb hK hP hD hS 25 1 rfl rfl (i := v3) (x := x14) hi d15_89_47 (fun H locs hP hD hS => ?_)
            rw [hk] at hP hD
            clear hk hi
            have hP : va_P G.1 vwCl (wMs q G.2 (st.1, st.2.1, va_up (va_up st.2.2.1 17 (upd (st.2.2.1 17) k9z y10)) 18 (upd (st.2.2.1 18) k15z x14), st.2.2.2)) H := hP
            have hD : va_D A (wMs q G.2 (st.1, st.2.1, va_up (va_up st.2.2.1 17 (upd (st.2.2.1 17) k9z y10)) 18 (upd (st.2.2.1 18) k15z x14), st.2.2.2)) := hD
            refine lv_iload_n hx hb d15_89_48 rfl (lv_at hl 1 rfl) ?_
            cases h
            cases hrest
            exact fin_i hx hb hr hlk hS () rfl hP hD (Nat.le_of_ble_eq_true rfl) (Nat.le_of_ble_eq_true rfl) d15_89_49
    have hl := lv_sub hl (l' := [(0, .ref (q 0)), (1, .int 0)]) [1, 0] rfl
    exact hloop _ _ hX _ _ _ hl hP hD hS
  ·
    replace h := (if_neg c1).symm.trans h
    refine lv_bipush (v := (-9)) hx hb d15_89_7 (by decide) ?_
    cases h
    exact fin_i hx hb hr hlk hS () rfl hP hD (Nat.le_of_ble_eq_true rfl) (Nat.le_of_ble_eq_true rfl) d15_89_9
theorem d15_90_0 : decode prog_15_method_90_code 0 = .ok (.aload_n 0, 1) := by decide +kernel
theorem d15_90_1 : decode prog_15_method_90_code 1 = .ok (.getfield 308, 3) := by decide +kernel
theorem d15_90_4 : decode prog_15_method_90_code 4 = .ok (.ifCond .ne 21, 3) := by decide +kernel
theorem d15_90_25 : decode prog_15_method_90_code 25 = .ok (.iconst 0, 1) := by decide +kernel
theorem d15_90_26 : decode prog_15_method_90_code 26 = .ok (.ireturn, 1) := by decide +kernel
theorem d15_90_7 : decode prog_15_method_90_code 7 = .ok (.iload_n 1, 1) := by decide +kernel
theorem d15_90_8 : decode prog_15_method_90_code 8 = .ok (.iconst 0, 1) := by decide +kernel
theorem d15_90_9 : decode prog_15_method_90_code 9 = .ok (.iconst 2, 1) := by decide +kernel
theorem d15_90_10 : decode prog_15_method_90_code 10 = .ok (.invokestatic 260, 3) := by decide +kernel
theorem d15_90_13 : decode prog_15_method_90_code 13 = .ok (.ifCond .eq 12, 3) := by decide +kernel
theorem d15_90_16 : decode prog_15_method_90_code 16 = .ok (.aload_n 0, 1) := by decide +kernel
theorem d15_90_17 : decode prog_15_method_90_code 17 = .ok (.getfield 83, 3) := by decide +kernel
theorem d15_90_20 : decode prog_15_method_90_code 20 = .ok (.iload_n 1, 1) := by decide +kernel
theorem d15_90_21 : decode prog_15_method_90_code 21 = .ok (.baload, 1) := by decide +kernel
theorem d15_90_22 : decode prog_15_method_90_code 22 = .ok (.ifCond .ne 5, 3) := by decide +kernel
theorem d15_90_27 : decode prog_15_method_90_code 27 = .ok (.aload_n 0, 1) := by decide +kernel
theorem d15_90_28 : decode prog_15_method_90_code 28 = .ok (.getfield 83, 3) := by decide +kernel
theorem d15_90_31 : decode prog_15_method_90_code 31 = .ok (.iload_n 1, 1) := by decide +kernel
theorem d15_90_32 : decode prog_15_method_90_code 32 = .ok (.iconst 0, 1) := by decide +kernel
theorem d15_90_33 : decode prog_15_method_90_code 33 = .ok (.bastore, 1) := by decide +kernel
theorem d15_90_34 : decode prog_15_method_90_code 34 = .ok (.iconst 1, 1) := by decide +kernel
theorem d15_90_35 : decode prog_15_method_90_code 35 = .ok (.ireturn, 1) := by decide +kernel
def y15_90 : MethodName := { cls := "PagedValuesModel", name := "close", desc := "(I)Z" }
def m_close (a0 : Int32) (st : MS) : Option (Int32 × MS) := if (st.1 13) = (0 : Int32) then ((m_within a0 (0 : Int32) (2 : Int32)).bind fun x2 => if x2 = (0 : Int32) then (some ((0 : Int32), st)) else ((rd (st.2.2.1 17) 3 a0).bind fun x6 => if x6 = (0 : Int32) then (some ((0 : Int32), st)) else ((ix 3 a0).bind fun k8z => (some (vp_nar .boolean (0 : Int32))).bind fun y9 => some ((1 : Int32), (st.1, st.2.1, va_up st.2.2.1 17 (upd (st.2.2.1 17) k8z y9), st.2.2.2))))) else (some ((0 : Int32), st))
set_option maxHeartbeats 4000000 in
set_option maxRecDepth 100000 in
theorem cm_close (l : Launch) (G : Gk) (Zd : Nat → Nat) (q : Nat → Nat) (a0 : Int32) (st : MS) (r0 : Int32) (st0 : MS) (hm : m_close a0 st = some (r0, st0)) (sz : Nat) : Met l y15_90 (Cond.code y15_90 prog_15_method_90_code 2 (some .boolean) :: TB) (rmD 1 0 0) (va_Pc [.ref (q 0), .int a0] (pcW G Zd (wMs q G.2 st) sz)) (qI G (fun rr (_ : Unit) => rr = r0) (fun _ => (wMs q G.2 st0)) (va_A (wMs q G.2 st) sz)) 0 0 (va_A (wMs q G.2 st) sz) := by
  refine go (y := y15_90) (cc := prog_15_method_90_code) (maxL := 2) (ret := (some .boolean)) (av := [.ref (q 0), .int a0]) (Qc := qI G (fun rr (_ : Unit) => rr = r0) (fun _ => (wMs q G.2 st0))) "PagedValuesModel" rfl (by decide) (Nat.le_of_ble_eq_true rfl) ?_
  intro p e s m below meth c ls A hx hb hr hlk hml hown hts hin hl hP hD hK hS hA hZ
  have hl : lv_has ls 2 [(0, .ref (q 0)), (1, .int a0)] := hl
  have h := hm
  clear hm
  refine lv_aload_n hx hb d15_90_0 rfl (lv_at hl 0 rfl) ?_
  refine va_get (D := G.1) (ci := 13) (v := .int (st.1 13)) (C := r_13) (T := f_13) (N := 42) (ref := "PagedValuesModel") hx hb hts (fun w h => List.mem_cons_of_mem _ (ly_13 w h)) hown hK hP 0 rfl rfl 40 (by decide) (hts _ (List.mem_cons_of_mem _ k1191)) (fun _ h9 => h9) rfl d15_90_1 ?_
  refine lv_if_ne (tgt := 25) hx hb d15_90_4 rfl (fun c1 => ?_) (fun c1 => ?_)
  ·
    replace h := (if_neg c1).symm.trans h
    refine lv_iconst (v := 0) hx hb d15_90_25 (by decide) ?_
    cases h
    exact fin_z hx hb hr hlk (by decide) hS () rfl hP hD (Nat.le_of_ble_eq_true rfl) (Nat.le_of_ble_eq_true rfl) d15_90_26
  ·
    replace h := (if_pos c1).symm.trans h
    refine lv_iload_n hx hb d15_90_7 rfl (lv_at hl 1 rfl) ?_
    refine lv_iconst (v := 0) hx hb d15_90_8 (by decide) ?_
    refine lv_iconst (v := 2) hx hb d15_90_9 (by decide) ?_
    obtain ⟨x2, hc, h⟩ := ob h
    refine sS_i (As := [.int a0, .int 0, .int 2]) (rest := []) ⟨hx, hb, hml, hown, hts⟩ (cm_within l G Zd _ a0 (0 : Int32) (2 : Int32) x2 hc _) (kw_S (n := 3) hts k1289 k1287 k15 k1288 (by decide +kernel) ⟨Nat.le_of_ble_eq_true rfl, Nat.le_of_ble_eq_true rfl⟩) hP hD hK hS hA hZ rfl hl.1 rfl (Nat.le_of_ble_eq_true rfl) d15_90_10 ⟨Nat.le_of_ble_eq_true rfl, Nat.le_of_ble_eq_true rfl⟩ (fun rr u9 H locs hp hP hD hS => ?_)
    clear u9
    subst rr
    clear hc
    refine W.eq (g2 := F0 m 13 ls [.int x2]) rfl ?_
    have hP : va_P G.1 vwCl (wMs q G.2 st) H := hP
    have hD : va_D A (wMs q G.2 st) := hD
    refine lv_if_eq (tgt := 25) hx hb d15_90_13 rfl (fun c5 => ?_) (fun c5 => ?_)
    ·
      replace h := (if_pos c5).symm.trans h
      refine lv_iconst (v := 0) hx hb d15_90_25 (by decide) ?_
      cases h
      exact fin_z hx hb hr hlk (by decide) hS () rfl hP hD (Nat.le_of_ble_eq_true rfl) (Nat.le_of_ble_eq_true rfl) d15_90_26
    ·
      replace h := (if_neg c5).symm.trans h
      refine lv_aload_n hx hb d15_90_16 rfl (lv_at hl 0 rfl) ?_
      refine va_get (D := G.1) (ci := 13) (v := .ref (q 24)) (C := r_13) (T := f_13) (N := 42) (ref := "PagedValuesModel") hx hb hts (fun w h => List.mem_cons_of_mem _ (ly_13 w h)) hown hK hP 0 rfl rfl 37 (by decide) (hts _ (List.mem_cons_of_mem _ k1188)) (fun _ h9 => h9) rfl d15_90_17 ?_
      refine lv_iload_n hx hb d15_90_20 rfl (lv_at hl 1 rfl) ?_
      obtain ⟨x6, hr, h⟩ := ob h
      obtain ⟨hi, hv⟩ := rd_some hr
      refine va_zald (D := G.1) hx hb hK hP 24 3 rfl rfl (i := a0) hi d15_90_21 ?_
      refine lv_topi (fun y9 ey => ?_)
      have e9 := ey.trans hv
      clear ey
      subst y9
      clear hv hi hr
      refine lv_if_ne (tgt := 27) hx hb d15_90_22 rfl (fun c7 => ?_) (fun c7 => ?_)
      ·
        replace h := (if_neg c7).symm.trans h
        refine lv_aload_n hx hb d15_90_27 rfl (lv_at hl 0 rfl) ?_
        refine va_get (D := G.1) (ci := 13) (v := .ref (q 24)) (C := r_13) (T := f_13) (N := 42) (ref := "PagedValuesModel") hx hb hts (fun w h => List.mem_cons_of_mem _ (ly_13 w h)) hown hK hP 0 rfl rfl 37 (by decide) (hts _ (List.mem_cons_of_mem _ k1188)) (fun _ h9 => h9) rfl d15_90_28 ?_
        refine lv_iload_n hx hb d15_90_31 rfl (lv_at hl 1 rfl) ?_
        refine lv_iconst (v := 0) hx hb d15_90_32 (by decide) ?_
        obtain ⟨k8z, hr, h⟩ := ob h
        obtain ⟨hi, hk⟩ := ix_some hr
        clear hr
        refine va_zast (D := G.1) hx hb hK hP hD hS 24 3 rfl rfl (i := a0) (x := (0 : Int32)) hi d15_90_33 (fun H locs hP hD hS => ?_)
        rw [hk] at hP hD
        clear hk hi
        obtain ⟨y9, hr, h⟩ := ob h
        rw [Option.some.inj hr] at hP hD
        clear hr
        have hP : va_P G.1 vwCl (wMs q G.2 (st.1, st.2.1, va_up st.2.2.1 17 (upd (st.2.2.1 17) k8z y9), st.2.2.2)) H := hP
        have hD : va_D A (wMs q G.2 (st.1, st.2.1, va_up st.2.2.1 17 (upd (st.2.2.1 17) k8z y9), st.2.2.2)) := hD
        refine lv_iconst (v := 1) hx hb d15_90_34 (by decide) ?_
        cases h
        exact fin_z hx hb hr hlk (by decide) hS () rfl hP hD (Nat.le_of_ble_eq_true rfl) (Nat.le_of_ble_eq_true rfl) d15_90_35
      ·
        replace h := (if_pos c7).symm.trans h
        refine lv_iconst (v := 0) hx hb d15_90_25 (by decide) ?_
        cases h
        exact fin_z hx hb hr hlk (by decide) hS () rfl hP hD (Nat.le_of_ble_eq_true rfl) (Nat.le_of_ble_eq_true rfl) d15_90_26
