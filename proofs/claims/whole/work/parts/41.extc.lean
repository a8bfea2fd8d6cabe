def c_StringLatin1_fillNull (Zd : Nat → Nat) (K : KE) (a0 : Option Nat) (a1 : Int32) (a2 : Int32) (st : CS) : Option (CS) := (c_Arrays_fill Zd K a0 a1 a2 (0 : Int32) st).bind fun st12 => some st12
set_option maxHeartbeats 4000000 in
set_option maxRecDepth 100000 in
theorem cc_StringLatin1_fillNull (l : Launch) (G : Gk) (Zd : Nat → Nat) (K : KE) (a0 : Option Nat) (a1 : Int32) (a2 : Int32) (st : CS) (st0 : CS) (hm : c_StringLatin1_fillNull Zd K a0 a1 a2 st = some st0) : CT l y23_48 prog_23_method_48_code 3 none G Zd K (2) [va_rf a0, .int a1, .int a2] st (hV G Zd st0) := by
  refine goH (d := 2) (y := y23_48) (cc := prog_23_method_48_code) (maxL := 3) (ret := none) (av := [va_rf a0, .int a1, .int a2]) (Qc := hV G Zd st0) "java/lang/StringLatin1" rfl (by decide) (c1_c (rf_cat _) (c1_c rfl (c1_c rfl c1_n))) (Nat.le_of_ble_eq_true rfl) ?_
  intro p e s m below meth c ls A args Q hQ hx hb hr hlk hml hown hts hin hl hE hw
  have hl : lw ls 3 [(0, va_rf a0), (1, .int a1), (2, .int a2)] := hl
  have hZ := hE.2.2.1
  have h := hm
  clear hm
  refine xq_aload_n (r := a0) hx hb d23_48_0 rfl (lv_at hl.1 0 rfl) ?_
  refine lv_iload_n hx hb d23_48_1 rfl (lv_at hl.1 1 rfl) ?_
  refine lv_iload_n hx hb d23_48_2 rfl (lv_at hl.1 2 rfl) ?_
  refine lv_iconst (v := 0) hx hb d23_48_3 (by decide) ?_
  obtain ⟨st12, hc, h⟩ := ob h
  refine hS_v (As := [va_rf a0, .int a1, .int a2, .int 0]) (rest := []) ⟨hx, hb, hml, hown, hts⟩ (cc_Arrays_fill l G Zd K a0 a1 a2 (0 : Int32) st st12 hc) (kw_S (n := 4) hts k447 k445 k21 k446 (by decide +kernel) ⟨Nat.le_of_ble_eq_true rfl, Nat.le_of_ble_eq_true rfl⟩) hE hw rfl hl.1.1 rfl (c1_8 c1_n (Nat.le_of_ble_eq_true rfl)) d23_48_4 (fun H locs cells slots hw => ?_)
  clear hc
  refine W.eq (g2 := F0 m 7 ls []) rfl ?_
  cases h
  exact finH_v hQ hx hb hr hlk hE hw d23_48_7
def c_AbstractStringBuilder_setLength (Zd : Nat → Nat) (K : KE) (o : Nat) (a0 : Int32) (st : CS) : Option (CS) := if (0 : Int32) ≤ a0 then ((isO K st o 2).bind fun _ => (c_AbstractStringBuilder_ensureCapacityInternal Zd K o a0 st).bind fun st13 => (gI K st13 o 2 3).bind fun x15 => (if a0 ≤ x15 then ((gI K st13 o 2 3).bind fun x20 => if x20 ≤ a0 then (some st13) else ((sF st13 o 2 2 (.int 1)).bind fun st22 => some st22)) else ((isO K st13 o 2).bind fun _ => (c_AbstractStringBuilder_isLatin1 Zd K o st13).bind fun x23 => if x23 = (0 : Int32) then ((gQ K st13 o 2 0).bind fun x27 => (gI K st13 o 2 3).bind fun x28 => none) else ((gQ K st13 o 2 0).bind fun x29 => (gI K st13 o 2 3).bind fun x30 => (c_StringLatin1_fillNull Zd K x29 x30 a0 st13).bind fun st32 => some st32))).bind fun e16 => (sF e16 o 2 3 (.int a0)).bind fun st18 => some st18) else none
set_option maxHeartbeats 4000000 in
set_option maxRecDepth 100000 in
theorem cc_AbstractStringBuilder_setLength (l : Launch) (G : Gk) (Zd : Nat → Nat) (K : KE) (o : Nat) (a0 : Int32) (st : CS) (st0 : CS) (hm : c_AbstractStringBuilder_setLength Zd K o a0 st = some st0) : CT l y16_13 prog_16_method_13_code 2 none G Zd K (4) [.ref o, .int a0] st (hV G Zd st0) := by
  refine goH (d := 4) (y := y16_13) (cc := prog_16_method_13_code) (maxL := 2) (ret := none) (av := [.ref o, .int a0]) (Qc := hV G Zd st0) "java/lang/AbstractStringBuilder" rfl (by decide) (c1_c rfl (c1_c rfl c1_n)) (Nat.le_of_ble_eq_true rfl) ?_
  intro p e s m below meth c ls A args Q hQ hx hb hr hlk hml hown hts hin hl hE hw
  have hl : lw ls 2 [(0, .ref o), (1, .int a0)] := hl
  have hZ := hE.2.2.1
  have h := hm
  clear hm
  refine lv_iload_n hx hb d16_13_0 rfl (lv_at hl.1 1 rfl) ?_
  refine lv_if_ge (tgt := 13) hx hb d16_13_1 rfl (fun c11 => ?_) (fun c11 => ?_)
  ·
    replace h := (if_pos c11).symm.trans h
    refine lv_aload_n hx hb d16_13_13 rfl (lv_at hl.1 0 rfl) ?_
    refine lv_iload_n hx hb d16_13_14 rfl (lv_at hl.1 1 rfl) ?_
    obtain ⟨u9, ho, h⟩ := ob h
    obtain ⟨st13, hc, h⟩ := ob h
    refine hU_v (ci := 2) (As := [.int a0]) (rest := []) ⟨hx, hb, hml, hown, hts⟩ (cc_AbstractStringBuilder_ensureCapacityInternal l G Zd K o a0 st st13 hc) (kw_U (n := 1) (C := "java/lang/StringBuilder") (owner := "java/lang/AbstractStringBuilder") (x0 := y16_9) hts k405 k402 k3 k404 k1655 (sel_priv (hts _ (List.mem_cons_of_mem _ k440)) rfl (hZ.2.2.2 _ (List.mem_of_getElem? (i := 0) rfl)) (hts _ (List.mem_cons_of_mem _ k404)) (by decide)) (va_Decl.of (hts _ (List.mem_cons_of_mem _ k404)) (hts _ (List.mem_cons_of_mem _ k405))) (by decide +kernel) ⟨Nat.le_of_ble_eq_true rfl, Nat.le_of_ble_eq_true rfl⟩) hE hw rfl rfl ho rfl hl.1.1 rfl (c1_8 c1_n (Nat.le_of_ble_eq_true rfl)) d16_13_15 (fun H locs cells slots hw => ?_)
    clear hc ho u9
    refine W.eq (g2 := F0 m 18 ls []) rfl ?_
    refine lv_aload_n hx hb d16_13_18 rfl (lv_at hl.1 0 rfl) ?_
    obtain ⟨x15, hr, h⟩ := ob h
    refine xg_i (ci := 2) (C := r_2) (T := f_2) (N := 4) (ref := "java/lang/AbstractStringBuilder") hx hb hts (fun w h => List.mem_cons_of_mem _ (ly_2 w h)) hown hE hw rfl 3 (by decide) (hts _ (List.mem_cons_of_mem _ k63)) (fun _ h9 => h9) hr d16_13_19 ?_
    clear hr
    refine lv_iload_n hx hb d16_13_22 rfl (lv_at hl.1 1 rfl) ?_
    obtain ⟨e16, hX, h⟩ := ob h
    have hj : ∀ (H : Heap) (locs : List Loc) (cells slots : Nat) (ls : Array Slot), lw ls 2 [(0, .ref o), (1, .int a0)] → wsH G Zd A s e16 H locs → W p l e (rmH Zd (4) st.1) s m args below meth c H locs cells slots Q (F0 m 76 ls []) := by
      intro H locs cells slots ls hl hw
      refine lv_aload_n hx hb d16_13_76 rfl (lv_at hl.1 0 rfl) ?_
      refine lv_iload_n hx hb d16_13_77 rfl (lv_at hl.1 1 rfl) ?_
      obtain ⟨st18, hr, h⟩ := ob h
      refine xp (ci := 2) (ty := .int) (C := r_2) (T := f_2) (N := 4) (ref := "java/lang/AbstractStringBuilder") hx hb hts (fun w h => List.mem_cons_of_mem _ (ly_2 w h)) ft_2 ft_2_ok nm_2 hown hE hw rfl 3 (by decide) (hts _ (List.mem_cons_of_mem _ k63)) (fun _ h9 => h9) rfl hr (by decide +kernel) rfl rfl d16_13_78 (fun H locs hw => ?_)
      clear hr
      cases h
      exact finH_v hQ hx hb hr hlk hE hw d16_13_81
    clear h
    refine lv_icmp_ge (tgt := 63) hx hb d16_13_23 rfl (fun c19 => ?_) (fun c19 => ?_)
    ·
      replace h := (if_pos c19).symm.trans hX
      refine lv_aload_n hx hb d16_13_63 rfl (lv_at hl.1 0 rfl) ?_
      obtain ⟨x20, hr, h⟩ := ob h
      refine xg_i (ci := 2) (C := r_2) (T := f_2) (N := 4) (ref := "java/lang/AbstractStringBuilder") hx hb hts (fun w h => List.mem_cons_of_mem _ (ly_2 w h)) hown hE hw rfl 3 (by decide) (hts _ (List.mem_cons_of_mem _ k63)) (fun _ h9 => h9) hr d16_13_64 ?_
      clear hr
      refine lv_iload_n hx hb d16_13_67 rfl (lv_at hl.1 1 rfl) ?_
      refine lv_icmp_le (tgt := 76) hx hb d16_13_68 rfl (fun c21 => ?_) (fun c21 => ?_)
      ·
        replace h := (if_pos c21).symm.trans h
        have e9 := Option.some.inj h
        subst e16
        have hl := lw_sub hl (l' := [(0, .ref o), (1, .int a0)]) [0, 1] rfl
        exact hj _ _ _ _ _ hl hw
      ·
        replace h := (if_neg c21).symm.trans h
        refine lv_aload_n hx hb d16_13_71 rfl (lv_at hl.1 0 rfl) ?_
        refine lv_iconst (v := 1) hx hb d16_13_72 (by decide) ?_
        obtain ⟨st22, hr, h⟩ := ob h
        refine xp (ci := 2) (ty := .boolean) (C := r_2) (T := f_2) (N := 4) (ref := "java/lang/AbstractStringBuilder") hx hb hts (fun w h => List.mem_cons_of_mem _ (ly_2 w h)) ft_2 ft_2_ok nm_2 hown hE hw rfl 2 (by decide) (hts _ (List.mem_cons_of_mem _ k61)) (fun _ h9 => h9) rfl hr (by decide +kernel) (by decide) (by decide) d16_13_73 (fun H locs hw => ?_)
        clear hr
        have e9 := Option.some.inj h
        subst e16
        have hl := lw_sub hl (l' := [(0, .ref o), (1, .int a0)]) [0, 1] rfl
        exact hj _ _ _ _ _ hl hw
    ·
      replace h := (if_neg c19).symm.trans hX
      refine lv_aload_n hx hb d16_13_26 rfl (lv_at hl.1 0 rfl) ?_
      obtain ⟨u9, ho, h⟩ := ob h
      obtain ⟨x23, hc, h⟩ := ob h
      refine hU_i (ci := 2) (As := []) (rest := []) ⟨hx, hb, hml, hown, hts⟩ (cc_AbstractStringBuilder_isLatin1 l G Zd K o st13 x23 hc) (kw_U (n := 0) (C := "java/lang/StringBuilder") (owner := "java/lang/AbstractStringBuilder") (x0 := y16_68) hts k441 k437 k3 k438 k439 (hts _ (List.mem_cons_of_mem _ k440)) (va_Decl.of (hts _ (List.mem_cons_of_mem _ k438)) (hts _ (List.mem_cons_of_mem _ k441))) (by decide +kernel) ⟨Nat.le_of_ble_eq_true rfl, Nat.le_of_ble_eq_true rfl⟩) hE hw rfl rfl ho rfl hl.1.1 rfl (c1_8 c1_n (Nat.le_of_ble_eq_true rfl)) d16_13_27 (fun H locs cells slots hw => ?_)
      clear hc ho u9
      refine W.eq (g2 := F0 m 30 ls [.int x23]) rfl ?_
      refine lv_if_eq (tgt := 48) hx hb d16_13_30 rfl (fun c26 => ?_) (fun c26 => ?_)
      ·
        replace h := (if_pos c26).symm.trans h
        refine lv_aload_n hx hb d16_13_48 rfl (lv_at hl.1 0 rfl) ?_
        obtain ⟨x27, hr, h⟩ := ob h
        refine xg_q (ci := 2) (C := r_2) (T := f_2) (N := 4) (ref := "java/lang/AbstractStringBuilder") hx hb hts (fun w h => List.mem_cons_of_mem _ (ly_2 w h)) hown hE hw rfl 0 (by decide) (hts _ (List.mem_cons_of_mem _ k59)) (fun _ h9 => h9) hr d16_13_49 ?_
        clear hr
        refine lv_aload_n hx hb d16_13_52 rfl (lv_at hl.1 0 rfl) ?_
        obtain ⟨x28, hr, h⟩ := ob h
        refine xg_i (ci := 2) (C := r_2) (T := f_2) (N := 4) (ref := "java/lang/AbstractStringBuilder") hx hb hts (fun w h => List.mem_cons_of_mem _ (ly_2 w h)) hown hE hw rfl 3 (by decide) (hts _ (List.mem_cons_of_mem _ k63)) (fun _ h9 => h9) hr d16_13_53 ?_
        clear hr
        refine lv_iload_n hx hb d16_13_56 rfl (lv_at hl.1 1 rfl) ?_
        cases h
      ·
        replace h := (if_neg c26).symm.trans h
        refine lv_aload_n hx hb d16_13_33 rfl (lv_at hl.1 0 rfl) ?_
        obtain ⟨x29, hr, h⟩ := ob h
        refine xg_q (ci := 2) (C := r_2) (T := f_2) (N := 4) (ref := "java/lang/AbstractStringBuilder") hx hb hts (fun w h => List.mem_cons_of_mem _ (ly_2 w h)) hown hE hw rfl 0 (by decide) (hts _ (List.mem_cons_of_mem _ k59)) (fun _ h9 => h9) hr d16_13_34 ?_
        clear hr
        refine lv_aload_n hx hb d16_13_37 rfl (lv_at hl.1 0 rfl) ?_
        obtain ⟨x30, hr, h⟩ := ob h
        refine xg_i (ci := 2) (C := r_2) (T := f_2) (N := 4) (ref := "java/lang/AbstractStringBuilder") hx hb hts (fun w h => List.mem_cons_of_mem _ (ly_2 w h)) hown hE hw rfl 3 (by decide) (hts _ (List.mem_cons_of_mem _ k63)) (fun _ h9 => h9) hr d16_13_38 ?_
        clear hr
        refine lv_iload_n hx hb d16_13_41 rfl (lv_at hl.1 1 rfl) ?_
        obtain ⟨st32, hc, h⟩ := ob h
        refine hS_v (As := [va_rf x29, .int x30, .int a0]) (rest := []) ⟨hx, hb, hml, hown, hts⟩ (cc_StringLatin1_fillNull l G Zd K x29 x30 a0 st13 st32 hc) (kw_S (n := 3) hts k444 k442 k23 k443 (by decide +kernel) ⟨Nat.le_of_ble_eq_true rfl, Nat.le_of_ble_eq_true rfl⟩) hE hw rfl hl.1.1 rfl (c1_8 c1_n (Nat.le_of_ble_eq_true rfl)) d16_13_42 (fun H locs cells slots hw => ?_)
        clear hc
        refine W.eq (g2 := F0 m 45 ls []) rfl ?_
        refine lv_goto (tgt := 76) hx hb d16_13_45 rfl ?_
        have e9 := Option.some.inj h
        subst e16
        have hl := lw_sub hl (l' := [(0, .ref o), (1, .int a0)]) [0, 1] rfl
        exact hj _ _ _ _ _ hl hw
  ·
    replace h := (if_neg c11).symm.trans h
    cases h
def c_StringBuilder_setLength (Zd : Nat → Nat) (K : KE) (o : Nat) (a0 : Int32) (st : CS) : Option (CS) := (isO K st o 2).bind fun _ => (c_AbstractStringBuilder_setLength Zd K o a0 st).bind fun st12 => some st12
set_option maxHeartbeats 4000000 in
set_option maxRecDepth 100000 in
theorem cc_StringBuilder_setLength (l : Launch) (G : Gk) (Zd : Nat → Nat) (K : KE) (o : Nat) (a0 : Int32) (st : CS) (st0 : CS) (hm : c_StringBuilder_setLength Zd K o a0 st = some st0) : CT l y22_89 prog_22_method_89_code 2 none G Zd K (5) [.ref o, .int a0] st (hV G Zd st0) := by
  refine goH (d := 5) (y := y22_89) (cc := prog_22_method_89_code) (maxL := 2) (ret := none) (av := [.ref o, .int a0]) (Qc := hV G Zd st0) "java/lang/StringBuilder" rfl (by decide) (c1_c rfl (c1_c rfl c1_n)) (Nat.le_of_ble_eq_true rfl) ?_
  intro p e s m below meth c ls A args Q hQ hx hb hr hlk hml hown hts hin hl hE hw
  have hl : lw ls 2 [(0, .ref o), (1, .int a0)] := hl
  have hZ := hE.2.2.1
  have h := hm
  clear hm
  refine lv_aload_n hx hb d22_89_0 rfl (lv_at hl.1 0 rfl) ?_
  refine lv_iload_n hx hb d22_89_1 rfl (lv_at hl.1 1 rfl) ?_
  obtain ⟨u9, ho, h⟩ := ob h
  obtain ⟨st12, hc, h⟩ := ob h
  refine hSU_v (ci := 2) (As := [.int a0]) (rest := []) ⟨hx, hb, hml, hown, hts⟩ (cc_AbstractStringBuilder_setLength l G Zd K o a0 st st12 hc) (kw_SU (n := 1) hts k401 k399 k3 k400 k1654 k72 (by decide +kernel) ⟨Nat.le_of_ble_eq_true rfl, Nat.le_of_ble_eq_true rfl⟩) hE hw rfl rfl ho rfl hl.1.1 rfl (c1_8 c1_n (Nat.le_of_ble_eq_true rfl)) d22_89_2 (fun H locs cells slots hw => ?_)
  clear hc ho u9
  refine W.eq (g2 := F0 m 5 ls []) rfl ?_
  cases h
  exact finH_v hQ hx hb hr hlk hE hw d22_89_5
theorem d22_14_0 : decode prog_22_method_14_code 0 = .ok (.aload_n 0, 1) := by decide +kernel
theorem d22_14_1 : decode prog_22_method_14_code 1 = .ok (.iload_n 1, 1) := by decide +kernel
theorem d22_14_2 : decode prog_22_method_14_code 2 = .ok (.invokespecial 50, 3) := by decide +kernel
theorem d16_31_0 : decode prog_16_method_31_code 0 = .ok (.aload_n 0, 1) := by decide +kernel
theorem d16_31_1 : decode prog_16_method_31_code 1 = .ok (.aload_n 0, 1) := by decide +kernel
theorem d16_31_2 : decode prog_16_method_31_code 2 = .ok (.getfield 79, 3) := by decide +kernel
theorem d16_31_5 : decode prog_16_method_31_code 5 = .ok (.iconst 1, 1) := by decide +kernel
theorem d16_31_6 : decode prog_16_method_31_code 6 = .ok (.iadd, 1) := by decide +kernel
theorem d16_31_7 : decode prog_16_method_31_code 7 = .ok (.invokevirtual 100, 3) := by decide +kernel
theorem d16_31_10 : decode prog_16_method_31_code 10 = .ok (.aload_n 0, 1) := by decide +kernel
theorem d16_31_11 : decode prog_16_method_31_code 11 = .ok (.invokevirtual 83, 3) := by decide +kernel
theorem d16_31_14 : decode prog_16_method_31_code 14 = .ok (.ifCond .eq 31, 3) := by decide +kernel
theorem d16_31_45 : decode prog_16_method_31_code 45 = .ok (.aload_n 0, 1) := by decide +kernel
theorem d16_31_46 : decode prog_16_method_31_code 46 = .ok (.invokevirtual 83, 3) := by decide +kernel
theorem d16_31_49 : decode prog_16_method_31_code 49 = .ok (.ifCond .eq 7, 3) := by decide +kernel
theorem d16_31_56 : decode prog_16_method_31_code 56 = .ok (.aload_n 0, 1) := by decide +kernel
theorem d16_31_57 : decode prog_16_method_31_code 57 = .ok (.getfield 15, 3) := by decide +kernel
theorem d16_31_60 : decode prog_16_method_31_code 60 = .ok (.aload_n 0, 1) := by decide +kernel
theorem d16_31_61 : decode prog_16_method_31_code 61 = .ok (.dup, 1) := by decide +kernel
theorem d16_31_62 : decode prog_16_method_31_code 62 = .ok (.getfield 79, 3) := by decide +kernel
theorem d16_31_65 : decode prog_16_method_31_code 65 = .ok (.dup_x1, 1) := by decide +kernel
theorem d16_31_66 : decode prog_16_method_31_code 66 = .ok (.iconst 1, 1) := by decide +kernel
theorem d16_31_67 : decode prog_16_method_31_code 67 = .ok (.iadd, 1) := by decide +kernel
theorem d16_31_68 : decode prog_16_method_31_code 68 = .ok (.putfield 79, 3) := by decide +kernel
theorem d16_31_71 : decode prog_16_method_31_code 71 = .ok (.iload_n 1, 1) := by decide +kernel
theorem d16_31_52 : decode prog_16_method_31_code 52 = .ok (.aload_n 0, 1) := by decide +kernel
theorem d16_31_17 : decode prog_16_method_31_code 17 = .ok (.iload_n 1, 1) := by decide +kernel
theorem d16_31_18 : decode prog_16_method_31_code 18 = .ok (.invokestatic 191, 3) := by decide +kernel
theorem d23_3_0 : decode prog_23_method_3_code 0 = .ok (.iload_n 0, 1) := by decide +kernel
theorem d23_3_1 : decode prog_23_method_3_code 1 = .ok (.sipush 255, 3) := by decide +kernel
theorem d23_3_4 : decode prog_23_method_3_code 4 = .ok (.if_icmp .gt 7, 3) := by decide +kernel
theorem d23_3_11 : decode prog_23_method_3_code 11 = .ok (.iconst 0, 1) := by decide +kernel
theorem d23_3_7 : decode prog_23_method_3_code 7 = .ok (.iconst 1, 1) := by decide +kernel
theorem d23_3_8 : decode prog_23_method_3_code 8 = .ok (.goto 4, 3) := by decide +kernel
theorem d23_3_12 : decode prog_23_method_3_code 12 = .ok (.ireturn, 1) := by decide +kernel
def y23_3 : MethodName := { cls := "java/lang/StringLatin1", name := "canEncode", desc := "(C)Z" }
theorem k551 : (Jvm.Cond.code ({ cls := "java/lang/StringLatin1", name := "canEncode", desc := "(C)Z" } : Jvm.MethodName) prog_23_method_3_code (1 : Nat) (Option.some Jvm.ClassFile.FieldType.boolean)) ∈ TB := tk_3 71 rfl rfl
theorem k549 : (Jvm.Cond.methodLink "java/lang/AbstractStringBuilder" (191 : Nat) ({ cls := "java/lang/StringLatin1", name := "canEncode", desc := "(C)Z" } : Jvm.MethodName)) ∈ TB := tk_3 69 rfl rfl
theorem k550 : (Jvm.Cond.static ({ cls := "java/lang/StringLatin1", name := "canEncode", desc := "(C)Z" } : Jvm.MethodName)) ∈ TB := tk_3 70 rfl rfl
theorem d16_31_21 : decode prog_16_method_31_code 21 = .ok (.ifCond .eq 24, 3) := by decide +kernel
theorem d16_31_24 : decode prog_16_method_31_code 24 = .ok (.aload_n 0, 1) := by decide +kernel
theorem d16_31_25 : decode prog_16_method_31_code 25 = .ok (.getfield 15, 3) := by decide +kernel
theorem d16_31_28 : decode prog_16_method_31_code 28 = .ok (.aload_n 0, 1) := by decide +kernel
theorem d16_31_29 : decode prog_16_method_31_code 29 = .ok (.dup, 1) := by decide +kernel
theorem d16_31_30 : decode prog_16_method_31_code 30 = .ok (.getfield 79, 3) := by decide +kernel
theorem d16_31_33 : decode prog_16_method_31_code 33 = .ok (.dup_x1, 1) := by decide +kernel
theorem d16_31_34 : decode prog_16_method_31_code 34 = .ok (.iconst 1, 1) := by decide +kernel
theorem d16_31_35 : decode prog_16_method_31_code 35 = .ok (.iadd, 1) := by decide +kernel
theorem d16_31_36 : decode prog_16_method_31_code 36 = .ok (.putfield 79, 3) := by decide +kernel
theorem d16_31_39 : decode prog_16_method_31_code 39 = .ok (.iload_n 1, 1) := by decide +kernel
theorem d16_31_40 : decode prog_16_method_31_code 40 = .ok (.i2b, 1) := by decide +kernel
theorem d16_31_41 : decode prog_16_method_31_code 41 = .ok (.bastore, 1) := by decide +kernel
theorem d16_31_42 : decode prog_16_method_31_code 42 = .ok (.goto 33, 3) := by decide +kernel
theorem d16_31_75 : decode prog_16_method_31_code 75 = .ok (.aload_n 0, 1) := by decide +kernel
theorem d16_31_76 : decode prog_16_method_31_code 76 = .ok (.areturn, 1) := by decide +kernel
def y16_31 : MethodName := { cls := "java/lang/AbstractStringBuilder", name := "append", desc := "(C)Ljava/lang/AbstractStringBuilder;" }
theorem k548 : (Jvm.Cond.code ({ cls := "java/lang/AbstractStringBuilder", name := "append", desc := "(C)Ljava/lang/AbstractStringBuilder;" } : Jvm.MethodName) prog_16_method_31_code (2 : Nat) (Option.some (Jvm.ClassFile.FieldType.object "java/lang/AbstractStringBuilder"))) ∈ TB := tk_3 68 rfl rfl
theorem k546 : (Jvm.Cond.methodLink "java/lang/StringBuilder" (50 : Nat) ({ cls := "java/lang/AbstractStringBuilder", name := "append", desc := "(C)Ljava/lang/AbstractStringBuilder;" } : Jvm.MethodName)) ∈ TB := tk_3 66 rfl rfl
theorem k547 : (Jvm.Cond.instanceMethod ({ cls := "java/lang/AbstractStringBuilder", name := "append", desc := "(C)Ljava/lang/AbstractStringBuilder;" } : Jvm.MethodName)) ∈ TB := tk_3 67 rfl rfl
theorem k1657 : (Jvm.Cond.sameMethod "java/lang/AbstractStringBuilder" "java/lang/AbstractStringBuilder" "append" "(C)Ljava/lang/AbstractStringBuilder;") ∈ TB := tk_7 217 rfl rfl
theorem d22_14_5 : decode prog_22_method_14_code 5 = .ok (.pop, 1) := by decide +kernel
theorem d22_14_6 : decode prog_22_method_14_code 6 = .ok (.aload_n 0, 1) := by decide +kernel
theorem d22_14_7 : decode prog_22_method_14_code 7 = .ok (.areturn, 1) := by decide +kernel
def y22_14 : MethodName := { cls := "java/lang/StringBuilder", name := "append", desc := "(C)Ljava/lang/StringBuilder;" }
def c_StringLatin1_canEncode (Zd : Nat → Nat) (K : KE) (a0 : Int32) (st : CS) : Option (Int32) := (if (255 : Int32) < a0 then (some (0 : Int32)) else (some (1 : Int32))).bind fun e11 => (bz e11).bind fun _ => some e11
set_option maxHeartbeats 4000000 in
set_option maxRecDepth 100000 in
theorem cc_StringLatin1_canEncode (l : Launch) (G : Gk) (Zd : Nat → Nat) (K : KE) (a0 : Int32) (st : CS) (r0 : Int32) (hm : c_StringLatin1_canEncode Zd K a0 st = some r0) : CT l y23_3 prog_23_method_3_code 1 (some .boolean) G Zd K (0) [.int a0] st (hI G Zd r0 st) := by
  refine goH (d := 0) (y := y23_3) (cc := prog_23_method_3_code) (maxL := 1) (ret := (some .boolean)) (av := [.int a0]) (Qc := hI G Zd r0 st) "java/lang/StringLatin1" rfl (by decide) (c1_c rfl c1_n) (Nat.le_of_ble_eq_true rfl) ?_
  intro p e s m below meth c ls A args Q hQ hx hb hr hlk hml hown hts hin hl hE hw
  have hl : lw ls 1 [(0, .int a0)] := hl
  have hZ := hE.2.2.1
  have h := hm
  clear hm
  refine lv_iload_n hx hb d23_3_0 rfl (lv_at hl.1 0 rfl) ?_
  refine lv_sipush (v := 255) hx hb d23_3_1 (by decide) ?_
  obtain ⟨e11, hX, h⟩ := ob h
  have hj : ∀ (H : Heap) (locs : List Loc) (cells slots : Nat) (ls : Array Slot), lw ls 1 [(0, .int a0)] → wsH G Zd A s st H locs → W p l e (rmH Zd (0) st.1) s m args below meth c H locs cells slots Q (F0 m 12 ls [.int e11]) := by
    intro H locs cells slots ls hl hw
    obtain ⟨u9, hr9, h⟩ := ob h
    have hi := bz_some hr9
    clear hr9 u9
    cases h
    exact finH_z hQ hx hb hr hlk (nar01 hi) hE hw d23_3_12
  clear h
  refine lv_icmp_gt (tgt := 11) hx hb d23_3_4 rfl (fun c13 => ?_) (fun c13 => ?_)
  ·
    replace h := (if_pos c13).symm.trans hX
    refine lv_iconst (v := 0) hx hb d23_3_11 (by decide) ?_
    have e9 := Option.some.inj h
    subst e11
    have hl := lw_sub hl (l' := [(0, .int a0)]) [0] rfl
    exact hj _ _ _ _ _ hl hw
  ·
    replace h := (if_neg c13).symm.trans hX
    refine lv_iconst (v := 1) hx hb d23_3_7 (by decide) ?_
    refine lv_goto (tgt := 12) hx hb d23_3_8 rfl ?_
    have e9 := Option.some.inj h
    subst e11
    have hl := lw_sub hl (l' := [(0, .int a0)]) [0] rfl
    exact hj _ _ _ _ _ hl hw
def c_AbstractStringBuilder_append_C (Zd : Nat → Nat) (K : KE) (o : Nat) (a0 : Int32) (st : CS) : Option (Option Nat × CS) := (gI K st o 2 3).bind fun x11 => (some (x11 + (1 : Int32))).bind fun y12 => (isO K st o 2).bind fun _ => (c_AbstractStringBuilder_ensureCapacityInternal Zd K o y12 st).bind fun st14 => (isO K st14 o 2).bind fun _ => (c_AbstractStringBuilder_isLatin1 Zd K o st14).bind fun x16 => if x16 = (0 : Int32) then ((isO K st14 o 2).bind fun _ => (c_AbstractStringBuilder_isLatin1 Zd K o st14).bind fun x20 => if x20 = (0 : Int32) then ((gQ K st14 o 2 0).bind fun x24 => (gI K st14 o 2 3).bind fun x25 => (some (x25 + (1 : Int32))).bind fun y26 => (sF st14 o 2 3 (.int y26)).bind fun st27 => none) else none) else ((c_StringLatin1_canEncode Zd K a0 st14).bind fun x28 => if x28 = (0 : Int32) then ((isO K st14 o 2).bind fun _ => (c_AbstractStringBuilder_isLatin1 Zd K o st14).bind fun x32 => if x32 = (0 : Int32) then ((gQ K st14 o 2 0).bind fun x36 => (gI K st14 o 2 3).bind fun x37 => (some (x37 + (1 : Int32))).bind fun y38 => (sF st14 o 2 3 (.int y38)).bind fun st39 => none) else none) else ((gQ K st14 o 2 0).bind fun x40 => (gI K st14 o 2 3).bind fun x41 => (some (x41 + (1 : Int32))).bind fun y42 => (sF st14 o 2 3 (.int y42)).bind fun st43 => (some (a0.toInt8.toInt32)).bind fun y44 => x40.bind fun a45z => (wA st43 a45z 2 x41 (vp_nar .byte y44)).bind fun st46 => some (some o, st46)))
set_option maxHeartbeats 4000000 in
set_option maxRecDepth 100000 in
theorem cc_AbstractStringBuilder_append_C (l : Launch) (G : Gk) (Zd : Nat → Nat) (K : KE) (o : Nat) (a0 : Int32) (st : CS) (r0 : Option Nat) (st0 : CS) (hm : c_AbstractStringBuilder_append_C Zd K o a0 st = some (r0, st0)) : CT l y16_31 prog_16_method_31_code 2 (some (.object "java/lang/AbstractStringBuilder")) G Zd K (4) [.ref o, .int a0] st (hQ G Zd r0 st0) := by
  refine goH (d := 4) (y := y16_31) (cc := prog_16_method_31_code) (maxL := 2) (ret := (some (.object "java/lang/AbstractStringBuilder"))) (av := [.ref o, .int a0]) (Qc := hQ G Zd r0 st0) "java/lang/AbstractStringBuilder" rfl (by decide) (c1_c rfl (c1_c rfl c1_n)) (Nat.le_of_ble_eq_true rfl) ?_
  intro p e s m below meth c ls A args Q hQ hx hb hr hlk hml hown hts hin hl hE hw
  have hl : lw ls 2 [(0, .ref o), (1, .int a0)] := hl
  have hZ := hE.2.2.1
  have h := hm
  clear hm
  refine lv_aload_n hx hb d16_31_0 rfl (lv_at hl.1 0 rfl) ?_
  refine lv_aload_n hx hb d16_31_1 rfl (lv_at hl.1 0 rfl) ?_
  obtain ⟨x11, hr, h⟩ := ob h
  refine xg_i (ci := 2) (C := r_2) (T := f_2) (N := 4) (ref := "java/lang/AbstractStringBuilder") hx hb hts (fun w h => List.mem_cons_of_mem _ (ly_2 w h)) hown hE hw rfl 3 (by decide) (hts _ (List.mem_cons_of_mem _ k63)) (fun _ h9 => h9) hr d16_31_2 ?_
  clear hr
  refine lv_iconst (v := 1) hx hb d16_31_5 (by decide) ?_
  refine lv_iadd hx hb d16_31_6 ?_
  obtain ⟨y12, hr, h⟩ := ob h
  refine lv_topi (fun y9 ey => ?_)
  have e9 := ey.trans (Option.some.inj hr)
  clear ey
  subst y9
  clear hr
  obtain ⟨u9, ho, h⟩ := ob h
  obtain ⟨st14, hc, h⟩ := ob h
  refine hU_v (ci := 2) (As := [.int y12]) (rest := []) ⟨hx, hb, hml, hown, hts⟩ (cc_AbstractStringBuilder_ensureCapacityInternal l G Zd K o y12 st st14 hc) (kw_U (n := 1) (C := "java/lang/StringBuilder") (owner := "java/lang/AbstractStringBuilder") (x0 := y16_9) hts k405 k402 k3 k404 k1655 (sel_priv (hts _ (List.mem_cons_of_mem _ k440)) rfl (hZ.2.2.2 _ (List.mem_of_getElem? (i := 0) rfl)) (hts _ (List.mem_cons_of_mem _ k404)) (by decide)) (va_Decl.of (hts _ (List.mem_cons_of_mem _ k404)) (hts _ (List.mem_cons_of_mem _ k405))) (by decide +kernel) ⟨Nat.le_of_ble_eq_true rfl, Nat.le_of_ble_eq_true rfl⟩) hE hw rfl rfl ho rfl hl.1.1 rfl (c1_8 c1_n (Nat.le_of_ble_eq_true rfl)) d16_31_7 (fun H locs cells slots hw => ?_)
  clear hc ho u9
  refine W.eq (g2 := F0 m 10 ls []) rfl ?_
  refine lv_aload_n hx hb d16_31_10 rfl (lv_at hl.1 0 rfl) ?_
  obtain ⟨u9, ho, h⟩ := ob h
  obtain ⟨x16, hc, h⟩ := ob h
  refine hU_i (ci := 2) (As := []) (rest := []) ⟨hx, hb, hml, hown, hts⟩ (cc_AbstractStringBuilder_isLatin1 l G Zd K o st14 x16 hc) (kw_U (n := 0) (C := "java/lang/StringBuilder") (owner := "java/lang/AbstractStringBuilder") (x0 := y16_68) hts k441 k437 k3 k438 k439 (hts _ (List.mem_cons_of_mem _ k440)) (va_Decl.of (hts _ (List.mem_cons_of_mem _ k438)) (hts _ (List.mem_cons_of_mem _ k441))) (by decide +kernel) ⟨Nat.le_of_ble_eq_true rfl, Nat.le_of_ble_eq_true rfl⟩) hE hw rfl rfl ho rfl hl.1.1 rfl (c1_8 c1_n (Nat.le_of_ble_eq_true rfl)) d16_31_11 (fun H locs cells slots hw => ?_)
  clear hc ho u9
  refine W.eq (g2 := F0 m 14 ls [.int x16]) rfl ?_
  refine lv_if_eq (tgt := 45) hx hb d16_31_14 rfl (fun c19 => ?_) (fun c19 => ?_)
  ·
    replace h := (if_pos c19).symm.trans h
    refine lv_aload_n hx hb d16_31_45 rfl (lv_at hl.1 0 rfl) ?_
    obtain ⟨u9, ho, h⟩ := ob h
    obtain ⟨x20, hc, h⟩ := ob h
    refine hU_i (ci := 2) (As := []) (rest := []) ⟨hx, hb, hml, hown, hts⟩ (cc_AbstractStringBuilder_isLatin1 l G Zd K o st14 x20 hc) (kw_U (n := 0) (C := "java/lang/StringBuilder") (owner := "java/lang/AbstractStringBuilder") (x0 := y16_68) hts k441 k437 k3 k438 k439 (hts _ (List.mem_cons_of_mem _ k440)) (va_Decl.of (hts _ (List.mem_cons_of_mem _ k438)) (hts _ (List.mem_cons_of_mem _ k441))) (by decide +kernel) ⟨Nat.le_of_ble_eq_true rfl, Nat.le_of_ble_eq_true rfl⟩) hE hw rfl rfl ho rfl hl.1.1 rfl (c1_8 c1_n (Nat.le_of_ble_eq_true rfl)) d16_31_46 (fun H locs cells slots hw => ?_)
    clear hc ho u9
    refine W.eq (g2 := F0 m 49 ls [.int x20]) rfl ?_
    refine lv_if_eq (tgt := 56) hx hb d16_31_49 rfl (fun c23 => ?_) (fun c23 => ?_)
    ·
      replace h := (if_pos c23).symm.trans h
      refine lv_aload_n hx hb d16_31_56 rfl (lv_at hl.1 0 rfl) ?_
      obtain ⟨x24, hr, h⟩ := ob h
      refine xg_q (ci := 2) (C := r_2) (T := f_2) (N := 4) (ref := "java/lang/AbstractStringBuilder") hx hb hts (fun w h => List.mem_cons_of_mem _ (ly_2 w h)) hown hE hw rfl 0 (by decide) (hts _ (List.mem_cons_of_mem _ k59)) (fun _ h9 => h9) hr d16_31_57 ?_
      clear hr
      refine lv_aload_n hx hb d16_31_60 rfl (lv_at hl.1 0 rfl) ?_
      refine lv_dup hx hb d16_31_61 rfl ?_
      obtain ⟨x25, hr, h⟩ := ob h
      refine xg_i (ci := 2) (C := r_2) (T := f_2) (N := 4) (ref := "java/lang/AbstractStringBuilder") hx hb hts (fun w h => List.mem_cons_of_mem _ (ly_2 w h)) hown hE hw rfl 3 (by decide) (hts _ (List.mem_cons_of_mem _ k63)) (fun _ h9 => h9) hr d16_31_62 ?_
      clear hr
      refine lv_dup_x1 hx hb d16_31_65 rfl rfl ?_
      refine lv_iconst (v := 1) hx hb d16_31_66 (by decide) ?_
      refine lv_iadd hx hb d16_31_67 ?_
      obtain ⟨y26, hr, h⟩ := ob h
      refine lv_topi (fun y9 ey => ?_)
      have e9 := ey.trans (Option.some.inj hr)
      clear ey
      subst y9
      clear hr
      obtain ⟨st27, hr, h⟩ := ob h
      refine xp (ci := 2) (ty := .int) (C := r_2) (T := f_2) (N := 4) (ref := "java/lang/AbstractStringBuilder") hx hb hts (fun w h => List.mem_cons_of_mem _ (ly_2 w h)) ft_2 ft_2_ok nm_2 hown hE hw rfl 3 (by decide) (hts _ (List.mem_cons_of_mem _ k63)) (fun _ h9 => h9) rfl hr (by decide +kernel) rfl rfl d16_31_68 (fun H locs hw => ?_)
      clear hr
      refine lv_iload_n hx hb d16_31_71 rfl (lv_at hl.1 1 rfl) ?_
      cases h
    ·
      replace h := (if_neg c23).symm.trans h
      refine lv_aload_n hx hb d16_31_52 rfl (lv_at hl.1 0 rfl) ?_
      cases h
  ·
    replace h := (if_neg c19).symm.trans h
    refine lv_iload_n hx hb d16_31_17 rfl (lv_at hl.1 1 rfl) ?_
    obtain ⟨x28, hc, h⟩ := ob h
    refine hS_i (As := [.int a0]) (rest := []) ⟨hx, hb, hml, hown, hts⟩ (cc_StringLatin1_canEncode l G Zd K a0 st14 x28 hc) (kw_S (n := 1) hts k551 k549 k23 k550 (by decide +kernel) ⟨Nat.le_of_ble_eq_true rfl, Nat.le_of_ble_eq_true rfl⟩) hE hw rfl hl.1.1 rfl (c1_8 c1_n (Nat.le_of_ble_eq_true rfl)) d16_31_18 (fun H locs cells slots hw => ?_)
    clear hc
    refine W.eq (g2 := F0 m 21 ls [.int x28]) rfl ?_
    refine lv_if_eq (tgt := 45) hx hb d16_31_21 rfl (fun c31 => ?_) (fun c31 => ?_)
    ·
      replace h := (if_pos c31).symm.trans h
      refine lv_aload_n hx hb d16_31_45 rfl (lv_at hl.1 0 rfl) ?_
      obtain ⟨u9, ho, h⟩ := ob h
      obtain ⟨x32, hc, h⟩ := ob h
      refine hU_i (ci := 2) (As := []) (rest := []) ⟨hx, hb, hml, hown, hts⟩ (cc_AbstractStringBuilder_isLatin1 l G Zd K o st14 x32 hc) (kw_U (n := 0) (C := "java/lang/StringBuilder") (owner := "java/lang/AbstractStringBuilder") (x0 := y16_68) hts k441 k437 k3 k438 k439 (hts _ (List.mem_cons_of_mem _ k440)) (va_Decl.of (hts _ (List.mem_cons_of_mem _ k438)) (hts _ (List.mem_cons_of_mem _ k441))) (by decide +kernel) ⟨Nat.le_of_ble_eq_true rfl, Nat.le_of_ble_eq_true rfl⟩) hE hw rfl rfl ho rfl hl.1.1 rfl (c1_8 c1_n (Nat.le_of_ble_eq_true rfl)) d16_31_46 (fun H locs cells slots hw => ?_)
      clear hc ho u9
      refine W.eq (g2 := F0 m 49 ls [.int x32]) rfl ?_
      refine lv_if_eq (tgt := 56) hx hb d16_31_49 rfl (fun c35 => ?_) (fun c35 => ?_)
      ·
        replace h := (if_pos c35).symm.trans h
        refine lv_aload_n hx hb d16_31_56 rfl (lv_at hl.1 0 rfl) ?_
        obtain ⟨x36, hr, h⟩ := ob h
        refine xg_q (ci := 2) (C := r_2) (T := f_2) (N := 4) (ref := "java/lang/AbstractStringBuilder") hx hb hts (fun w h => List.mem_cons_of_mem _ (ly_2 w h)) hown hE hw rfl 0 (by decide) (hts _ (List.mem_cons_of_mem _ k59)) (fun _ h9 => h9) hr d16_31_57 ?_
        clear hr
        refine lv_aload_n hx hb d16_31_60 rfl (lv_at hl.1 0 rfl) ?_
        refine lv_dup hx hb d16_31_61 rfl ?_
        obtain ⟨x37, hr, h⟩ := ob h
        refine xg_i (ci := 2) (C := r_2) (T := f_2) (N := 4) (ref := "java/lang/AbstractStringBuilder") hx hb hts (fun w h => List.mem_cons_of_mem _ (ly_2 w h)) hown hE hw rfl 3 (by decide) (hts _ (List.mem_cons_of_mem _ k63)) (fun _ h9 => h9) hr d16_31_62 ?_
        clear hr
        refine lv_dup_x1 hx hb d16_31_65 rfl rfl ?_
        refine lv_iconst (v := 1) hx hb d16_31_66 (by decide) ?_
        refine lv_iadd hx hb d16_31_67 ?_
        obtain ⟨y38, hr, h⟩ := ob h
        refine lv_topi (fun y9 ey => ?_)
        have e9 := ey.trans (Option.some.inj hr)
        clear ey
        subst y9
        clear hr
        obtain ⟨st39, hr, h⟩ := ob h
        refine xp (ci := 2) (ty := .int) (C := r_2) (T := f_2) (N := 4) (ref := "java/lang/AbstractStringBuilder") hx hb hts (fun w h => List.mem_cons_of_mem _ (ly_2 w h)) ft_2 ft_2_ok nm_2 hown hE hw rfl 3 (by decide) (hts _ (List.mem_cons_of_mem _ k63)) (fun _ h9 => h9) rfl hr (by decide +kernel) rfl rfl d16_31_68 (fun H locs hw => ?_)
        clear hr
        refine lv_iload_n hx hb d16_31_71 rfl (lv_at hl.1 1 rfl) ?_
        cases h
      ·
        replace h := (if_neg c35).symm.trans h
        refine lv_aload_n hx hb d16_31_52 rfl (lv_at hl.1 0 rfl) ?_
        cases h
    ·
      replace h := (if_neg c31).symm.trans h
      refine lv_aload_n hx hb d16_31_24 rfl (lv_at hl.1 0 rfl) ?_
      obtain ⟨x40, hr, h⟩ := ob h
      refine xg_q (ci := 2) (C := r_2) (T := f_2) (N := 4) (ref := "java/lang/AbstractStringBuilder") hx hb hts (fun w h => List.mem_cons_of_mem _ (ly_2 w h)) hown hE hw rfl 0 (by decide) (hts _ (List.mem_cons_of_mem _ k59)) (fun _ h9 => h9) hr d16_31_25 ?_
      clear hr
      refine lv_aload_n hx hb d16_31_28 rfl (lv_at hl.1 0 rfl) ?_
      refine lv_dup hx hb d16_31_29 rfl ?_
      obtain ⟨x41, hr, h⟩ := ob h
      refine xg_i (ci := 2) (C := r_2) (T := f_2) (N := 4) (ref := "java/lang/AbstractStringBuilder") hx hb hts (fun w h => List.mem_cons_of_mem _ (ly_2 w h)) hown hE hw rfl 3 (by decide) (hts _ (List.mem_cons_of_mem _ k63)) (fun _ h9 => h9) hr d16_31_30 ?_
      clear hr
      refine lv_dup_x1 hx hb d16_31_33 rfl rfl ?_
      refine lv_iconst (v := 1) hx hb d16_31_34 (by decide) ?_
      refine lv_iadd hx hb d16_31_35 ?_
      obtain ⟨y42, hr, h⟩ := ob h
      refine lv_topi (fun y9 ey => ?_)
      have e9 := ey.trans (Option.some.inj hr)
      clear ey
      subst y9
      clear hr
      obtain ⟨st43, hr, h⟩ := ob h
      refine xp (ci := 2) (ty := .int) (C := r_2) (T := f_2) (N := 4) (ref := "java/lang/AbstractStringBuilder") hx hb hts (fun w h => List.mem_cons_of_mem _ (ly_2 w h)) ft_2 ft_2_ok nm_2 hown hE hw rfl 3 (by decide) (hts _ (List.mem_cons_of_mem _ k63)) (fun _ h9 => h9) rfl hr (by decide +kernel) rfl rfl d16_31_36 (fun H locs hw => ?_)
      clear hr
      refine lv_iload_n hx hb d16_31_39 rfl (lv_at hl.1 1 rfl) ?_
      refine lv_i2b hx hb d16_31_40 rfl ?_
      obtain ⟨y44, hr, h⟩ := ob h
      refine lv_topi (fun y9 ey => ?_)
      have e9 := ey.trans (Option.some.inj hr)
      clear ey
      subst y9
      clear hr
      obtain ⟨a45z, hn45, h⟩ := ob h
      have hn45 : x40 = some a45z := hn45
      refine W.eq (g2 := F0 m 41 ls [.int y44, .int x41, .ref a45z]) (by rw [hn45]; rfl) ?_
      obtain ⟨st46, hr, h⟩ := ob h
      refine xs_b hx hb hE hw (i := x41) (v := y44) hr d16_31_41 (fun H locs hw => ?_)
      clear hr
      refine lv_goto (tgt := 75) hx hb d16_31_42 rfl ?_
      refine lv_aload_n hx hb d16_31_75 rfl (lv_at hl.1 0 rfl) ?_
      cases h
      exact finH_q hQ hx hb hr hlk rfl (Or.inl ⟨_, rfl⟩) hE hw d16_31_76
def c_StringBuilder_append_C (Zd : Nat → Nat) (K : KE) (o : Nat) (a0 : Int32) (st : CS) : Option (Option Nat × CS) := (isO K st o 2).bind fun _ => (c_AbstractStringBuilder_append_C Zd K o a0 st).bind fun r13 => some (some o, r13.2)
set_option maxHeartbeats 4000000 in
set_option maxRecDepth 100000 in
theorem cc_StringBuilder_append_C (l : Launch) (G : Gk) (Zd : Nat → Nat) (K : KE) (o : Nat) (a0 : Int32) (st : CS) (r0 : Option Nat) (st0 : CS) (hm : c_StringBuilder_append_C Zd K o a0 st = some (r0, st0)) : CT l y22_14 prog_22_method_14_code 2 (some (.object "java/lang/StringBuilder")) G Zd K (5) [.ref o, .int a0] st (hQ G Zd r0 st0) := by
  refine goH (d := 5) (y := y22_14) (cc := prog_22_method_14_code) (maxL := 2) (ret := (some (.object "java/lang/StringBuilder"))) (av := [.ref o, .int a0]) (Qc := hQ G Zd r0 st0) "java/lang/StringBuilder" rfl (by decide) (c1_c rfl (c1_c rfl c1_n)) (Nat.le_of_ble_eq_true rfl) ?_
  intro p e s m below meth c ls A args Q hQ hx hb hr hlk hml hown hts hin hl hE hw
  have hl : lw ls 2 [(0, .ref o), (1, .int a0)] := hl
  have hZ := hE.2.2.1
  have h := hm
  clear hm
  refine lv_aload_n hx hb d22_14_0 rfl (lv_at hl.1 0 rfl) ?_
  refine lv_iload_n hx hb d22_14_1 rfl (lv_at hl.1 1 rfl) ?_
  obtain ⟨u9, ho, h⟩ := ob h
  obtain ⟨⟨x11, st12⟩, hc, h⟩ := ob h
  refine hSU_q (ci := 2) (As := [.int a0]) (rest := []) ⟨hx, hb, hml, hown, hts⟩ (cc_AbstractStringBuilder_append_C l G Zd K o a0 st x11 st12 hc) (kw_SU (n := 1) hts k548 k546 k3 k547 k1657 k72 (by decide +kernel) ⟨Nat.le_of_ble_eq_true rfl, Nat.le_of_ble_eq_true rfl⟩) hE hw rfl rfl ho rfl hl.1.1 rfl (c1_8 c1_n (Nat.le_of_ble_eq_true rfl)) d22_14_2 (fun H locs cells slots hw => ?_)
  clear hc ho u9
  refine W.eq (g2 := F0 m 5 ls [va_rf x11]) rfl ?_
  refine lv_pop hx hb d22_14_5 (rf_cat _) ?_
  refine lv_aload_n hx hb d22_14_6 rfl (lv_at hl.1 0 rfl) ?_
  cases h
  exact finH_q hQ hx hb hr hlk rfl (Or.inl ⟨_, rfl⟩) hE hw d22_14_7
theorem d22_7_0 : decode prog_22_method_7_code 0 = .ok (.aload_n 0, 1) := by decide +kernel
theorem d22_7_1 : decode prog_22_method_7_code 1 = .ok (.aload_n 1, 1) := by decide +kernel
theorem d22_7_2 : decode prog_22_method_7_code 2 = .ok (.invokespecial 29, 3) := by decide +kernel
theorem d16_22_0 : decode prog_16_method_22_code 0 = .ok (.aload_n 1, 1) := by decide +kernel
theorem d16_22_1 : decode prog_16_method_22_code 1 = .ok (.ifnonnull 8, 3) := by decide +kernel
theorem d16_22_4 : decode prog_16_method_22_code 4 = .ok (.aload_n 0, 1) := by decide +kernel
theorem d16_22_9 : decode prog_16_method_22_code 9 = .ok (.aload_n 1, 1) := by decide +kernel
theorem d16_22_10 : decode prog_16_method_22_code 10 = .ok (.invokevirtual 32, 3) := by decide +kernel
theorem k628 : (Jvm.Cond.code ({ cls := "java/lang/String", name := "length", desc := "()I" } : Jvm.MethodName) prog_21_method_54_code (1 : Nat) (Option.some Jvm.ClassFile.FieldType.int)) ∈ TB := tk_3 148 rfl rfl
theorem k1035 : (Jvm.Cond.methodLink "java/lang/AbstractStringBuilder" (32 : Nat) ({ cls := "java/lang/String", name := "length", desc := "()I" } : Jvm.MethodName)) ∈ TB := tk_5 75 rfl rfl
theorem k626 : (Jvm.Cond.instanceMethod ({ cls := "java/lang/String", name := "length", desc := "()I" } : Jvm.MethodName)) ∈ TB := tk_3 146 rfl rfl
theorem k627 : (Jvm.Cond.selects "java/lang/String" ({ cls := "java/lang/String", name := "length", desc := "()I" } : Jvm.MethodName) ({ cls := "java/lang/String", name := "length", desc := "()I" } : Jvm.MethodName)) ∈ TB := tk_3 147 rfl rfl
theorem d16_22_13 : decode prog_16_method_22_code 13 = .ok (.istore_n 2, 1) := by decide +kernel
theorem d16_22_14 : decode prog_16_method_22_code 14 = .ok (.aload_n 0, 1) := by decide +kernel
theorem d16_22_15 : decode prog_16_method_22_code 15 = .ok (.aload_n 0, 1) := by decide +kernel
theorem d16_22_16 : decode prog_16_method_22_code 16 = .ok (.getfield 79, 3) := by decide +kernel
theorem d16_22_19 : decode prog_16_method_22_code 19 = .ok (.iload_n 2, 1) := by decide +kernel
theorem d16_22_20 : decode prog_16_method_22_code 20 = .ok (.iadd, 1) := by decide +kernel
theorem d16_22_21 : decode prog_16_method_22_code 21 = .ok (.invokevirtual 100, 3) := by decide +kernel
theorem d16_22_24 : decode prog_16_method_22_code 24 = .ok (.aload_n 0, 1) := by decide +kernel
theorem d16_22_25 : decode prog_16_method_22_code 25 = .ok (.aload_n 0, 1) := by decide +kernel
theorem d16_22_26 : decode prog_16_method_22_code 26 = .ok (.getfield 79, 3) := by decide +kernel
theorem d16_22_29 : decode prog_16_method_22_code 29 = .ok (.aload_n 1, 1) := by decide +kernel
theorem d16_22_30 : decode prog_16_method_22_code 30 = .ok (.invokevirtual 208, 3) := by decide +kernel
theorem d16_73_0 : decode prog_16_method_73_code 0 = .ok (.aload_n 0, 1) := by decide +kernel
theorem d16_73_1 : decode prog_16_method_73_code 1 = .ok (.aload_n 2, 1) := by decide +kernel
theorem d16_73_2 : decode prog_16_method_73_code 2 = .ok (.invokevirtual 397, 3) := by decide +kernel
theorem d16_71_0 : decode prog_16_method_71_code 0 = .ok (.getstatic 18, 3) := by decide +kernel
theorem d16_71_3 : decode prog_16_method_71_code 3 = .ok (.ifCond .eq 18, 3) := by decide +kernel
theorem d16_71_6 : decode prog_16_method_71_code 6 = .ok (.aload_n 0, 1) := by decide +kernel
theorem d16_71_7 : decode prog_16_method_71_code 7 = .ok (.getfield 22, 3) := by decide +kernel
theorem d16_71_10 : decode prog_16_method_71_code 10 = .ok (.aload_n 1, 1) := by decide +kernel
theorem d16_71_11 : decode prog_16_method_71_code 11 = .ok (.invokevirtual 40, 3) := by decide +kernel
theorem k1044 : (Jvm.Cond.methodLink "java/lang/AbstractStringBuilder" (40 : Nat) ({ cls := "java/lang/String", name := "coder", desc := "()B" } : Jvm.MethodName)) ∈ TB := tk_5 84 rfl rfl
theorem d16_71_14 : decode prog_16_method_71_code 14 = .ok (.if_icmp .eq 7, 3) := by decide +kernel
theorem d16_71_21 : decode prog_16_method_71_code 21 = .ok (.return_, 1) := by decide +kernel
theorem d16_71_17 : decode prog_16_method_71_code 17 = .ok (.aload_n 0, 1) := by decide +kernel
def y16_71 : MethodName := { cls := "java/lang/AbstractStringBuilder", name := "inflateIfNeededFor", desc := "(Ljava/lang/String;)V" }
theorem k1043 : (Jvm.Cond.code ({ cls := "java/lang/AbstractStringBuilder", name := "inflateIfNeededFor", desc := "(Ljava/lang/String;)V" } : Jvm.MethodName) prog_16_method_71_code (2 : Nat) (Option.none : Option Jvm.ClassFile.FieldType)) ∈ TB := tk_5 83 rfl rfl
theorem k1040 : (Jvm.Cond.methodLink "java/lang/AbstractStringBuilder" (397 : Nat) ({ cls := "java/lang/AbstractStringBuilder", name := "inflateIfNeededFor", desc := "(Ljava/lang/String;)V" } : Jvm.MethodName)) ∈ TB := tk_5 80 rfl rfl
theorem k1042 : (Jvm.Cond.instanceMethod ({ cls := "java/lang/AbstractStringBuilder", name := "inflateIfNeededFor", desc := "(Ljava/lang/String;)V" } : Jvm.MethodName)) ∈ TB := tk_5 82 rfl rfl
theorem k1662 : (Jvm.Cond.sameMethod "java/lang/AbstractStringBuilder" "java/lang/AbstractStringBuilder" "inflateIfNeededFor" "(Ljava/lang/String;)V") ∈ TB := tk_7 222 rfl rfl
theorem d16_73_5 : decode prog_16_method_73_code 5 = .ok (.aload_n 2, 1) := by decide +kernel
theorem d16_73_6 : decode prog_16_method_73_code 6 = .ok (.aload_n 0, 1) := by decide +kernel
theorem d16_73_7 : decode prog_16_method_73_code 7 = .ok (.getfield 15, 3) := by decide +kernel
theorem d16_73_10 : decode prog_16_method_73_code 10 = .ok (.iload_n 1, 1) := by decide +kernel
theorem d16_73_11 : decode prog_16_method_73_code 11 = .ok (.aload_n 0, 1) := by decide +kernel
theorem d16_73_12 : decode prog_16_method_73_code 12 = .ok (.getfield 22, 3) := by decide +kernel
theorem d16_73_15 : decode prog_16_method_73_code 15 = .ok (.invokevirtual 399, 3) := by decide +kernel
theorem d21_147_0 : decode prog_21_method_147_code 0 = .ok (.aload_n 0, 1) := by decide +kernel
theorem d21_147_1 : decode prog_21_method_147_code 1 = .ok (.invokevirtual 335, 3) := by decide +kernel
theorem d21_147_4 : decode prog_21_method_147_code 4 = .ok (.iload_n 3, 1) := by decide +kernel
theorem d21_147_5 : decode prog_21_method_147_code 5 = .ok (.if_icmp .ne 23, 3) := by decide +kernel
theorem d21_147_28 : decode prog_21_method_147_code 28 = .ok (.aload_n 0, 1) := by decide +kernel
theorem d21_147_29 : decode prog_21_method_147_code 29 = .ok (.getfield 9, 3) := by decide +kernel
theorem d21_147_32 : decode prog_21_method_147_code 32 = .ok (.iconst 0, 1) := by decide +kernel
theorem d21_147_33 : decode prog_21_method_147_code 33 = .ok (.aload_n 1, 1) := by decide +kernel
theorem d21_147_34 : decode prog_21_method_147_code 34 = .ok (.iload_n 2, 1) := by decide +kernel
theorem d21_147_35 : decode prog_21_method_147_code 35 = .ok (.aload_n 0, 1) := by decide +kernel
theorem d21_147_36 : decode prog_21_method_147_code 36 = .ok (.getfield 9, 3) := by decide +kernel
theorem d21_147_39 : decode prog_21_method_147_code 39 = .ok (.arraylength, 1) := by decide +kernel
theorem d21_147_40 : decode prog_21_method_147_code 40 = .ok (.invokestatic 106, 3) := by decide +kernel
theorem d23_50_0 : decode prog_23_method_50_code 0 = .ok (.aload_n 0, 1) := by decide +kernel
theorem d23_50_1 : decode prog_23_method_50_code 1 = .ok (.iload_n 1, 1) := by decide +kernel
theorem d23_50_2 : decode prog_23_method_50_code 2 = .ok (.aload_n 2, 1) := by decide +kernel
theorem d23_50_3 : decode prog_23_method_50_code 3 = .ok (.iload_n 3, 1) := by decide +kernel
theorem d23_50_4 : decode prog_23_method_50_code 4 = .ok (.iload 4, 2) := by decide +kernel
def y23_50 : MethodName := { cls := "java/lang/StringLatin1", name := "inflate", desc := "([BI[BII)V" }
theorem k558 : (Jvm.Cond.code ({ cls := "java/lang/StringLatin1", name := "inflate", desc := "([BI[BII)V" } : Jvm.MethodName) prog_23_method_50_code (5 : Nat) (Option.none : Option Jvm.ClassFile.FieldType)) ∈ TB := tk_3 78 rfl rfl
theorem k1050 : (Jvm.Cond.methodLink "java/lang/String" (106 : Nat) ({ cls := "java/lang/StringLatin1", name := "inflate", desc := "([BI[BII)V" } : Jvm.MethodName)) ∈ TB := tk_5 90 rfl rfl
theorem k557 : (Jvm.Cond.static ({ cls := "java/lang/StringLatin1", name := "inflate", desc := "([BI[BII)V" } : Jvm.MethodName)) ∈ TB := tk_3 77 rfl rfl
theorem d21_147_8 : decode prog_21_method_147_code 8 = .ok (.aload_n 0, 1) := by decide +kernel
theorem d21_147_9 : decode prog_21_method_147_code 9 = .ok (.getfield 9, 3) := by decide +kernel
theorem d21_147_12 : decode prog_21_method_147_code 12 = .ok (.iconst 0, 1) := by decide +kernel
theorem d21_147_13 : decode prog_21_method_147_code 13 = .ok (.aload_n 1, 1) := by decide +kernel
theorem d21_147_14 : decode prog_21_method_147_code 14 = .ok (.iload_n 2, 1) := by decide +kernel
theorem d21_147_15 : decode prog_21_method_147_code 15 = .ok (.iload_n 3, 1) := by decide +kernel
theorem d21_147_16 : decode prog_21_method_147_code 16 = .ok (.ishl, 1) := by decide +kernel
theorem d21_147_17 : decode prog_21_method_147_code 17 = .ok (.aload_n 0, 1) := by decide +kernel
theorem d21_147_18 : decode prog_21_method_147_code 18 = .ok (.getfield 9, 3) := by decide +kernel
theorem d21_147_21 : decode prog_21_method_147_code 21 = .ok (.arraylength, 1) := by decide +kernel
theorem d21_147_22 : decode prog_21_method_147_code 22 = .ok (.invokestatic 212, 3) := by decide +kernel
theorem k1049 : (Jvm.Cond.methodLink "java/lang/String" (212 : Nat) ({ cls := "java/lang/System", name := "arraycopy", desc := "(Ljava/lang/Object;ILjava/lang/Object;II)V" } : Jvm.MethodName)) ∈ TB := tk_5 89 rfl rfl
theorem d21_147_25 : decode prog_21_method_147_code 25 = .ok (.goto 18, 3) := by decide +kernel
theorem d21_147_43 : decode prog_21_method_147_code 43 = .ok (.return_, 1) := by decide +kernel
def y21_147 : MethodName := { cls := "java/lang/String", name := "getBytes", desc := "([BIB)V" }
theorem k1048 : (Jvm.Cond.code ({ cls := "java/lang/String", name := "getBytes", desc := "([BIB)V" } : Jvm.MethodName) prog_21_method_147_code (4 : Nat) (Option.none : Option Jvm.ClassFile.FieldType)) ∈ TB := tk_5 88 rfl rfl
theorem k1045 : (Jvm.Cond.methodLink "java/lang/AbstractStringBuilder" (399 : Nat) ({ cls := "java/lang/String", name := "getBytes", desc := "([BIB)V" } : Jvm.MethodName)) ∈ TB := tk_5 85 rfl rfl
theorem k1046 : (Jvm.Cond.instanceMethod ({ cls := "java/lang/String", name := "getBytes", desc := "([BIB)V" } : Jvm.MethodName)) ∈ TB := tk_5 86 rfl rfl
theorem k1047 : (Jvm.Cond.selects "java/lang/String" ({ cls := "java/lang/String", name := "getBytes", desc := "([BIB)V" } : Jvm.MethodName) ({ cls := "java/lang/String", name := "getBytes", desc := "([BIB)V" } : Jvm.MethodName)) ∈ TB := tk_5 87 rfl rfl
theorem d16_73_18 : decode prog_16_method_73_code 18 = .ok (.return_, 1) := by decide +kernel
def y16_73 : MethodName := { cls := "java/lang/AbstractStringBuilder", name := "putStringAt", desc := "(ILjava/lang/String;)V" }
theorem k1039 : (Jvm.Cond.code ({ cls := "java/lang/AbstractStringBuilder", name := "putStringAt", desc := "(ILjava/lang/String;)V" } : Jvm.MethodName) prog_16_method_73_code (3 : Nat) (Option.none : Option Jvm.ClassFile.FieldType)) ∈ TB := tk_5 79 rfl rfl
theorem k1036 : (Jvm.Cond.methodLink "java/lang/AbstractStringBuilder" (208 : Nat) ({ cls := "java/lang/AbstractStringBuilder", name := "putStringAt", desc := "(ILjava/lang/String;)V" } : Jvm.MethodName)) ∈ TB := tk_5 76 rfl rfl
theorem k1038 : (Jvm.Cond.instanceMethod ({ cls := "java/lang/AbstractStringBuilder", name := "putStringAt", desc := "(ILjava/lang/String;)V" } : Jvm.MethodName)) ∈ TB := tk_5 78 rfl rfl
theorem k1661 : (Jvm.Cond.sameMethod "java/lang/AbstractStringBuilder" "java/lang/AbstractStringBuilder" "putStringAt" "(ILjava/lang/String;)V") ∈ TB := tk_7 221 rfl rfl
theorem d16_22_33 : decode prog_16_method_22_code 33 = .ok (.aload_n 0, 1) := by decide +kernel
theorem d16_22_34 : decode prog_16_method_22_code 34 = .ok (.dup, 1) := by decide +kernel
theorem d16_22_35 : decode prog_16_method_22_code 35 = .ok (.getfield 79, 3) := by decide +kernel
theorem d16_22_38 : decode prog_16_method_22_code 38 = .ok (.iload_n 2, 1) := by decide +kernel
theorem d16_22_39 : decode prog_16_method_22_code 39 = .ok (.iadd, 1) := by decide +kernel
theorem d16_22_40 : decode prog_16_method_22_code 40 = .ok (.putfield 79, 3) := by decide +kernel
theorem d16_22_43 : decode prog_16_method_22_code 43 = .ok (.aload_n 0, 1) := by decide +kernel
theorem d16_22_44 : decode prog_16_method_22_code 44 = .ok (.areturn, 1) := by decide +kernel
def y16_22 : MethodName := { cls := "java/lang/AbstractStringBuilder", name := "append", desc := "(Ljava/lang/String;)Ljava/lang/AbstractStringBuilder;" }
theorem k1018 : (Jvm.Cond.code ({ cls := "java/lang/AbstractStringBuilder", name := "append", desc := "(Ljava/lang/String;)Ljava/lang/AbstractStringBuilder;" } : Jvm.MethodName) prog_16_method_22_code (3 : Nat) (Option.some (Jvm.ClassFile.FieldType.object "java/lang/AbstractStringBuilder"))) ∈ TB := tk_5 58 rfl rfl
theorem k1016 : (Jvm.Cond.methodLink "java/lang/StringBuilder" (29 : Nat) ({ cls := "java/lang/AbstractStringBuilder", name := "append", desc := "(Ljava/lang/String;)Ljava/lang/AbstractStringBuilder;" } : Jvm.MethodName)) ∈ TB := tk_5 56 rfl rfl
theorem k1017 : (Jvm.Cond.instanceMethod ({ cls := "java/lang/AbstractStringBuilder", name := "append", desc := "(Ljava/lang/String;)Ljava/lang/AbstractStringBuilder;" } : Jvm.MethodName)) ∈ TB := tk_5 57 rfl rfl
theorem k1659 : (Jvm.Cond.sameMethod "java/lang/AbstractStringBuilder" "java/lang/AbstractStringBuilder" "append" "(Ljava/lang/String;)Ljava/lang/AbstractStringBuilder;") ∈ TB := tk_7 219 rfl rfl
theorem d22_7_5 : decode prog_22_method_7_code 5 = .ok (.pop, 1) := by decide +kernel
theorem d22_7_6 : decode prog_22_method_7_code 6 = .ok (.aload_n 0, 1) := by decide +kernel
theorem d22_7_7 : decode prog_22_method_7_code 7 = .ok (.areturn, 1) := by decide +kernel
def y22_7 : MethodName := { cls := "java/lang/StringBuilder", name := "append", desc := "(Ljava/lang/String;)Ljava/lang/StringBuilder;" }
def c_AbstractStringBuilder_inflateIfNeededFor (Zd : Nat → Nat) (K : KE) (o : Nat) (a0 : Option Nat) (st : CS) : Option (Unit) := (gI K st o 2 1).bind fun x11 => a0.bind fun a12z => (isO K st a12z 12).bind fun _ => (c_String_coder Zd K a12z st).bind fun x13 => if x11 = x13 then (some ()) else none
set_option maxHeartbeats 4000000 in
set_option maxRecDepth 100000 in
theorem cc_AbstractStringBuilder_inflateIfNeededFor (l : Launch) (G : Gk) (Zd : Nat → Nat) (K : KE) (o : Nat) (a0 : Option Nat) (st : CS) (hm : c_AbstractStringBuilder_inflateIfNeededFor Zd K o a0 st = some ()) : CT l y16_71 prog_16_method_71_code 2 none G Zd K (1) [.ref o, va_rf a0] st (hV G Zd st) := by
  refine goH (d := 1) (y := y16_71) (cc := prog_16_method_71_code) (maxL := 2) (ret := none) (av := [.ref o, va_rf a0]) (Qc := hV G Zd st) "java/lang/AbstractStringBuilder" rfl (by decide) (c1_c rfl (c1_c (rf_cat _) c1_n)) (Nat.le_of_ble_eq_true rfl) ?_
  intro p e s m below meth c ls A args Q hQ hx hb hr hlk hml hown hts hin hl hE hw
  have hl : lw ls 2 [(0, .ref o), (1, va_rf a0)] := hl
  have hZ := hE.2.2.1
  have h := hm
  clear hm
  refine va_gets (ref := "java/lang/String") hx hb hZ.1.2.1 hw.2.2.2 hown (hts _ (List.mem_cons_of_mem _ k50)) (fun _ h9 => h9) d16_71_0 ?_
  refine W.eq (g2 := F0 m 3 ls [.int 1]) rfl ?_
  refine lv_if_eq (tgt := 21) hx hb d16_71_3 rfl (fun hc => absurd hc (by decide)) (fun _ => ?_)
  refine lv_aload_n hx hb d16_71_6 rfl (lv_at hl.1 0 rfl) ?_
  obtain ⟨x11, hr, h⟩ := ob h
  refine xg_i (ci := 2) (C := r_2) (T := f_2) (N := 4) (ref := "java/lang/AbstractStringBuilder") hx hb hts (fun w h => List.mem_cons_of_mem _ (ly_2 w h)) hown hE hw rfl 1 (by decide) (hts _ (List.mem_cons_of_mem _ k60)) (fun _ h9 => h9) hr d16_71_7 ?_
  clear hr
  refine xq_aload_n (r := a0) hx hb d16_71_10 rfl (lv_at hl.1 1 rfl) ?_
  obtain ⟨a12z, hn12, h⟩ := ob h
  have hn12 : a0 = some a12z := hn12
  refine W.eq (g2 := F0 m 11 ls [.ref a12z, .int x11]) (by rw [hn12]; rfl) ?_
  obtain ⟨u9, ho, h⟩ := ob h
  obtain ⟨x13, hc, h⟩ := ob h
  refine hV_i (ci := 12) (As := []) (rest := [.int x11]) ⟨hx, hb, hml, hown, hts⟩ (cc_String_coder l G Zd K a12z st x13 hc) (kw_V (n := 0) hts k632 k1044 k5 k630 k631 (by decide +kernel) ⟨Nat.le_of_ble_eq_true rfl, Nat.le_of_ble_eq_true rfl⟩) hE hw rfl rfl ho rfl hl.1.1 rfl (c1_8 (c1_c rfl c1_n) (Nat.le_of_ble_eq_true rfl)) d16_71_11 (fun H locs cells slots hw => ?_)
  clear hc ho u9
  refine W.eq (g2 := F0 m 14 ls [.int x13, .int x11]) rfl ?_
  refine lv_icmp_eq (tgt := 21) hx hb d16_71_14 rfl (fun c16 => ?_) (fun c16 => ?_)
  ·
    replace h := (if_pos c16).symm.trans h
    cases h
    exact finH_v hQ hx hb hr hlk hE hw d16_71_21
  ·
    replace h := (if_neg c16).symm.trans h
    refine lv_aload_n hx hb d16_71_17 rfl (lv_at hl.1 0 rfl) ?_
    cases h
def c_StringLatin1_inflate (Zd : Nat → Nat) (K : KE) (a0 : Option Nat) (a1 : Int32) (a2 : Option Nat) (a3 : Int32) (a4 : Int32) (st : CS) : Option (Unit) := none
set_option maxHeartbeats 4000000 in
set_option maxRecDepth 100000 in
theorem cc_StringLatin1_inflate (l : Launch) (G : Gk) (Zd : Nat → Nat) (K : KE) (a0 : Option Nat) (a1 : Int32) (a2 : Option Nat) (a3 : Int32) (a4 : Int32) (st : CS) (hm : c_StringLatin1_inflate Zd K a0 a1 a2 a3 a4 st = some ()) : CT l y23_50 prog_23_method_50_code 5 none G Zd K (0) [va_rf a0, .int a1, va_rf a2, .int a3, .int a4] st (hV G Zd st) := by
  refine goH (d := 0) (y := y23_50) (cc := prog_23_method_50_code) (maxL := 5) (ret := none) (av := [va_rf a0, .int a1, va_rf a2, .int a3, .int a4]) (Qc := hV G Zd st) "java/lang/StringLatin1" rfl (by decide) (c1_c (rf_cat _) (c1_c rfl (c1_c (rf_cat _) (c1_c rfl (c1_c rfl c1_n))))) (Nat.le_of_ble_eq_true rfl) ?_
  intro p e s m below meth c ls A args Q hQ hx hb hr hlk hml hown hts hin hl hE hw
  have hl : lw ls 5 [(0, va_rf a0), (1, .int a1), (2, va_rf a2), (3, .int a3), (4, .int a4)] := hl
  have hZ := hE.2.2.1
  have h := hm
  clear hm
  refine xq_aload_n (r := a0) hx hb d23_50_0 rfl (lv_at hl.1 0 rfl) ?_
  refine lv_iload_n hx hb d23_50_1 rfl (lv_at hl.1 1 rfl) ?_
  refine xq_aload_n (r := a2) hx hb d23_50_2 rfl (lv_at hl.1 2 rfl) ?_
  refine lv_iload_n hx hb d23_50_3 rfl (lv_at hl.1 3 rfl) ?_
  refine lv_iload hx hb d23_50_4 (lv_at hl.1 4 rfl) ?_
  cases h
def c_String_getBytes (Zd : Nat → Nat) (K : KE) (o : Nat) (a0 : Option Nat) (a1 : Int32) (a2 : Int32) (st : CS) : Option (CS) := (isO K st o 12).bind fun _ => (c_String_coder Zd K o st).bind fun x11 => (if x11 = a2 then ((gQ K st o 12 0).bind fun x25 => (some (a1 <<< (a2 &&& 31))).bind fun y26 => (gQ K st o 12 0).bind fun x27 => x27.bind fun a28z => (lA K st a28z 2).bind fun n29 => (some (Int32.ofNat n29)).bind fun x30 => x25.bind fun a31z => a0.bind fun a32z => (cpB K st a31z (0 : Int32) a32z y26 x30).bind fun st33 => some st33) else ((gQ K st o 12 0).bind fun x17 => (gQ K st o 12 0).bind fun x18 => x18.bind fun a19z => (lA K st a19z 2).bind fun n20 => (some (Int32.ofNat n20)).bind fun x21 => (c_StringLatin1_inflate Zd K x17 (0 : Int32) a0 a1 x21 st).bind fun _ => some st)).bind fun e14 => some e14
set_option maxHeartbeats 4000000 in
set_option maxRecDepth 100000 in
theorem cc_String_getBytes (l : Launch) (G : Gk) (Zd : Nat → Nat) (K : KE) (o : Nat) (a0 : Option Nat) (a1 : Int32) (a2 : Int32) (st : CS) (st0 : CS) (hm : c_String_getBytes Zd K o a0 a1 a2 st = some st0) : CT l y21_147 prog_21_method_147_code 4 none G Zd K (1) [.ref o, va_rf a0, .int a1, .int a2] st (hV G Zd st0) := by
  refine goH (d := 1) (y := y21_147) (cc := prog_21_method_147_code) (maxL := 4) (ret := none) (av := [.ref o, va_rf a0, .int a1, .int a2]) (Qc := hV G Zd st0) "java/lang/String" rfl (by decide) (c1_c rfl (c1_c (rf_cat _) (c1_c rfl (c1_c rfl c1_n)))) (Nat.le_of_ble_eq_true rfl) ?_
  intro p e s m below meth c ls A args Q hQ hx hb hr hlk hml hown hts hin hl hE hw
  have hl : lw ls 4 [(0, .ref o), (1, va_rf a0), (2, .int a1), (3, .int a2)] := hl
  have hZ := hE.2.2.1
  have h := hm
  clear hm
  refine lv_aload_n hx hb d21_147_0 rfl (lv_at hl.1 0 rfl) ?_
  obtain ⟨u9, ho, h⟩ := ob h
  obtain ⟨x11, hc, h⟩ := ob h
  refine hV_i (ci := 12) (As := []) (rest := []) ⟨hx, hb, hml, hown, hts⟩ (cc_String_coder l G Zd K o st x11 hc) (kw_V (n := 0) hts k632 k629 k5 k630 k631 (by decide +kernel) ⟨Nat.le_of_ble_eq_true rfl, Nat.le_of_ble_eq_true rfl⟩) hE hw rfl rfl ho rfl hl.1.1 rfl (c1_8 c1_n (Nat.le_of_ble_eq_true rfl)) d21_147_1 (fun H locs cells slots hw => ?_)
  clear hc ho u9
  refine W.eq (g2 := F0 m 4 ls [.int x11]) rfl ?_
  refine lv_iload_n hx hb d21_147_4 rfl (lv_at hl.1 3 rfl) ?_
  obtain ⟨e14, hX, h⟩ := ob h
  have hj : ∀ (H : Heap) (locs : List Loc) (cells slots : Nat) (ls : Array Slot), lw ls 4 [(0, .ref o), (1, va_rf a0), (2, .int a1), (3, .int a2)] → wsH G Zd A s e14 H locs → W p l e (rmH Zd (1) st.1) s m args below meth c H locs cells slots Q (F0 m 43 ls []) := by
    intro H locs cells slots ls hl hw
    cases h
    exact finH_v hQ hx hb hr hlk hE hw d21_147_43
  clear h
  refine lv_icmp_ne (tgt := 28) hx hb d21_147_5 rfl (fun c16 => ?_) (fun c16 => ?_)
  ·
    replace h := (if_neg c16).symm.trans hX
    refine lv_aload_n hx hb d21_147_28 rfl (lv_at hl.1 0 rfl) ?_
    obtain ⟨x17, hr, h⟩ := ob h
    refine xg_q (ci := 12) (C := r_12) (T := f_12) (N := 4) (ref := "java/lang/String") hx hb hts (fun w h => List.mem_cons_of_mem _ (ly_12 w h)) hown hE hw rfl 0 (by decide) (hts _ (List.mem_cons_of_mem _ k527)) (fun _ h9 => h9) hr d21_147_29 ?_
    clear hr
    refine lv_iconst (v := 0) hx hb d21_147_32 (by decide) ?_
    refine xq_aload_n (r := a0) hx hb d21_147_33 rfl (lv_at hl.1 1 rfl) ?_
    refine lv_iload_n hx hb d21_147_34 rfl (lv_at hl.1 2 rfl) ?_
    refine lv_aload_n hx hb d21_147_35 rfl (lv_at hl.1 0 rfl) ?_
    obtain ⟨x18, hr, h⟩ := ob h
    refine xg_q (ci := 12) (C := r_12) (T := f_12) (N := 4) (ref := "java/lang/String") hx hb hts (fun w h => List.mem_cons_of_mem _ (ly_12 w h)) hown hE hw rfl 0 (by decide) (hts _ (List.mem_cons_of_mem _ k527)) (fun _ h9 => h9) hr d21_147_36 ?_
    clear hr
    obtain ⟨a19z, hn19, h⟩ := ob h
    have hn19 : x18 = some a19z := hn19
    refine W.eq (g2 := F0 m 39 ls [.ref a19z, .int a1, va_rf a0, .int 0, va_rf x17]) (by rw [hn19]; rfl) ?_
    obtain ⟨n20, hr, h⟩ := ob h
    obtain ⟨x21, hr2, h⟩ := ob h
    refine xl hx hb hE hw (t := 2) rfl hr hr2 d21_147_39 ?_
    clear hr hr2
    obtain ⟨⟨⟩, hc, h⟩ := ob h
    refine hS_v (As := [va_rf x17, .int 0, va_rf a0, .int a1, .int x21]) (rest := []) ⟨hx, hb, hml, hown, hts⟩ (cc_StringLatin1_inflate l G Zd K x17 (0 : Int32) a0 a1 x21 st  hc) (kw_S (n := 5) hts k558 k1050 k23 k557 (by decide +kernel) ⟨Nat.le_of_ble_eq_true rfl, Nat.le_of_ble_eq_true rfl⟩) hE hw rfl hl.1.1 rfl (c1_8 c1_n (Nat.le_of_ble_eq_true rfl)) d21_147_40 (fun H locs cells slots hw => ?_)
    clear hc
    refine W.eq (g2 := F0 m 43 ls []) rfl ?_
    have e9 := Option.some.inj h
    subst e14
    have hl := lw_sub hl (l' := [(0, .ref o), (1, va_rf a0), (2, .int a1), (3, .int a2)]) [0, 1, 2, 3] rfl
    exact hj _ _ _ _ _ hl hw
  ·
    replace h := (if_pos c16).symm.trans hX
    refine lv_aload_n hx hb d21_147_8 rfl (lv_at hl.1 0 rfl) ?_
    obtain ⟨x25, hr, h⟩ := ob h
    refine xg_q (ci := 12) (C := r_12) (T := f_12) (N := 4) (ref := "java/lang/String") hx hb hts (fun w h => List.mem_cons_of_mem _ (ly_12 w h)) hown hE hw rfl 0 (by decide) (hts _ (List.mem_cons_of_mem _ k527)) (fun _ h9 => h9) hr d21_147_9 ?_
    clear hr
    refine lv_iconst (v := 0) hx hb d21_147_12 (by decide) ?_
    refine xq_aload_n (r := a0) hx hb d21_147_13 rfl (lv_at hl.1 1 rfl) ?_
    refine lv_iload_n hx hb d21_147_14 rfl (lv_at hl.1 2 rfl) ?_
    refine lv_iload_n hx hb d21_147_15 rfl (lv_at hl.1 3 rfl) ?_
    refine lv_ishl hx hb d21_147_16 ?_
    obtain ⟨y26, hr, h⟩ := ob h
    refine lv_topi (fun y9 ey => ?_)
    have e9 := ey.trans (Option.some.inj hr)
    clear ey
    subst y9
    clear hr
    refine lv_aload_n hx hb d21_147_17 rfl (lv_at hl.1 0 rfl) ?_
    obtain ⟨x27, hr, h⟩ := ob h
    refine xg_q (ci := 12) (C := r_12) (T := f_12) (N := 4) (ref := "java/lang/String") hx hb hts (fun w h => List.mem_cons_of_mem _ (ly_12 w h)) hown hE hw rfl 0 (by decide) (hts _ (List.mem_cons_of_mem _ k527)) (fun _ h9 => h9) hr d21_147_18 ?_
    clear hr
    obtain ⟨a28z, hn28, h⟩ := ob h
    have hn28 : x27 = some a28z := hn28
    refine W.eq (g2 := F0 m 21 ls [.ref a28z, .int y26, va_rf a0, .int 0, va_rf x25]) (by rw [hn28]; rfl) ?_
    obtain ⟨n29, hr, h⟩ := ob h
    obtain ⟨x30, hr2, h⟩ := ob h
    refine xl hx hb hE hw (t := 2) rfl hr hr2 d21_147_21 ?_
    clear hr hr2
    obtain ⟨a31z, hn31, h⟩ := ob h
    have hn31 : x25 = some a31z := hn31
    refine W.eq (g2 := F0 m 22 ls [.int x30, .int y26, va_rf a0, .int 0, .ref a31z]) (by rw [hn31]; rfl) ?_
    obtain ⟨a32z, hn32, h⟩ := ob h
    have hn32 : a0 = some a32z := hn32
    refine W.eq (g2 := F0 m 22 ls [.int x30, .int y26, .ref a32z, .int 0, .ref a31z]) (by rw [hn32]; rfl) ?_
    obtain ⟨st33, hr, h⟩ := ob h
    refine xc (rest := []) hx hb (by rw [hml]; exact hl.1.1.symm) hown (hts _ (List.mem_cons_of_mem _ k1049)) (hts _ (List.mem_cons_of_mem _ k436)) (hts _ (List.mem_cons_of_mem _ k435)) (hts _ (List.mem_cons_of_mem _ k22)) hE hw (sp := (0 : Int32)) (dp := y26) (n := x30) hr (Nat.le_of_ble_eq_true rfl) (by show _ ≤ 64 * (1); decide +kernel) d21_147_22 (fun H locs hw => ?_)
    clear hr
    refine lv_goto (tgt := 43) hx hb d21_147_25 rfl ?_
    have e9 := Option.some.inj h
    subst e14
    have hl := lw_sub hl (l' := [(0, .ref o), (1, va_rf a0), (2, .int a1), (3, .int a2)]) [0, 1, 2, 3] rfl
    exact hj _ _ _ _ _ hl hw
def c_AbstractStringBuilder_putStringAt (Zd : Nat → Nat) (K : KE) (o : Nat) (a0 : Int32) (a1 : Option Nat) (st : CS) : Option (CS) := (isO K st o 2).bind fun _ => (c_AbstractStringBuilder_inflateIfNeededFor Zd K o a1 st).bind fun _ => (gQ K st o 2 0).bind fun x14 => (gI K st o 2 1).bind fun x15 => a1.bind fun a16z => (isO K st a16z 12).bind fun _ => (c_String_getBytes Zd K a16z x14 a0 x15 st).bind fun st18 => some st18
set_option maxHeartbeats 4000000 in
set_option maxRecDepth 100000 in
theorem cc_AbstractStringBuilder_putStringAt (l : Launch) (G : Gk) (Zd : Nat → Nat) (K : KE) (o : Nat) (a0 : Int32) (a1 : Option Nat) (st : CS) (st0 : CS) (hm : c_AbstractStringBuilder_putStringAt Zd K o a0 a1 st = some st0) : CT l y16_73 prog_16_method_73_code 3 none G Zd K (2) [.ref o, .int a0, va_rf a1] st (hV G Zd st0) := by
  refine goH (d := 2) (y := y16_73) (cc := prog_16_method_73_code) (maxL := 3) (ret := none) (av := [.ref o, .int a0, va_rf a1]) (Qc := hV G Zd st0) "java/lang/AbstractStringBuilder" rfl (by decide) (c1_c rfl (c1_c rfl (c1_c (rf_cat _) c1_n))) (Nat.le_of_ble_eq_true rfl) ?_
  intro p e s m below meth c ls A args Q hQ hx hb hr hlk hml hown hts hin hl hE hw
  have hl : lw ls 3 [(0, .ref o), (1, .int a0), (2, va_rf a1)] := hl
  have hZ := hE.2.2.1
  have h := hm
  clear hm
  refine lv_aload_n hx hb d16_73_0 rfl (lv_at hl.1 0 rfl) ?_
  refine xq_aload_n (r := a1) hx hb d16_73_1 rfl (lv_at hl.1 2 rfl) ?_
  obtain ⟨u9, ho, h⟩ := ob h
  obtain ⟨⟨⟩, hc, h⟩ := ob h
  refine hU_v (ci := 2) (As := [va_rf a1]) (rest := []) ⟨hx, hb, hml, hown, hts⟩ (cc_AbstractStringBuilder_inflateIfNeededFor l G Zd K o a1 st  hc) (kw_U (n := 1) (C := "java/lang/StringBuilder") (owner := "java/lang/AbstractStringBuilder") (x0 := y16_71) hts k1043 k1040 k3 k1042 k1662 (sel_priv (hts _ (List.mem_cons_of_mem _ k440)) rfl (hZ.2.2.2 _ (List.mem_of_getElem? (i := 3) rfl)) (hts _ (List.mem_cons_of_mem _ k1042)) (by decide)) (va_Decl.of (hts _ (List.mem_cons_of_mem _ k1042)) (hts _ (List.mem_cons_of_mem _ k1043))) (by decide +kernel) ⟨Nat.le_of_ble_eq_true rfl, Nat.le_of_ble_eq_true rfl⟩) hE hw rfl rfl ho rfl hl.1.1 rfl (c1_8 c1_n (Nat.le_of_ble_eq_true rfl)) d16_73_2 (fun H locs cells slots hw => ?_)
  clear hc ho u9
  refine W.eq (g2 := F0 m 5 ls []) rfl ?_
  refine xq_aload_n (r := a1) hx hb d16_73_5 rfl (lv_at hl.1 2 rfl) ?_
  refine lv_aload_n hx hb d16_73_6 rfl (lv_at hl.1 0 rfl) ?_
  obtain ⟨x14, hr, h⟩ := ob h
  refine xg_q (ci := 2) (C := r_2) (T := f_2) (N := 4) (ref := "java/lang/AbstractStringBuilder") hx hb hts (fun w h => List.mem_cons_of_mem _ (ly_2 w h)) hown hE hw rfl 0 (by decide) (hts _ (List.mem_cons_of_mem _ k59)) (fun _ h9 => h9) hr d16_73_7 ?_
  clear hr
  refine lv_iload_n hx hb d16_73_10 rfl (lv_at hl.1 1 rfl) ?_
  refine lv_aload_n hx hb d16_73_11 rfl (lv_at hl.1 0 rfl) ?_
  obtain ⟨x15, hr, h⟩ := ob h
  refine xg_i (ci := 2) (C := r_2) (T := f_2) (N := 4) (ref := "java/lang/AbstractStringBuilder") hx hb hts (fun w h => List.mem_cons_of_mem _ (ly_2 w h)) hown hE hw rfl 1 (by decide) (hts _ (List.mem_cons_of_mem _ k60)) (fun _ h9 => h9) hr d16_73_12 ?_
  clear hr
  obtain ⟨a16z, hn16, h⟩ := ob h
  have hn16 : a1 = some a16z := hn16
  refine W.eq (g2 := F0 m 15 ls [.int x15, .int a0, va_rf x14, .ref a16z]) (by rw [hn16]; rfl) ?_
  obtain ⟨u9, ho, h⟩ := ob h
  obtain ⟨st18, hc, h⟩ := ob h
  refine hV_v (ci := 12) (As := [va_rf x14, .int a0, .int x15]) (rest := []) ⟨hx, hb, hml, hown, hts⟩ (cc_String_getBytes l G Zd K a16z x14 a0 x15 st st18 hc) (kw_V (n := 3) hts k1048 k1045 k5 k1046 k1047 (by decide +kernel) ⟨Nat.le_of_ble_eq_true rfl, Nat.le_of_ble_eq_true rfl⟩) hE hw rfl rfl ho rfl hl.1.1 rfl (c1_8 c1_n (Nat.le_of_ble_eq_true rfl)) d16_73_15 (fun H locs cells slots hw => ?_)
  clear hc ho u9
  refine W.eq (g2 := F0 m 18 ls []) rfl ?_
  cases h
  exact finH_v hQ hx hb hr hlk hE hw d16_73_18
def c_AbstractStringBuilder_append_q (Zd : Nat → Nat) (K : KE) (o : Nat) (a0 : Option Nat) (st : CS) : Option (Option Nat × CS) := nl a0 none (fun a11z => (isO K st a11z 12).bind fun _ => (c_String_length Zd K a11z st).bind fun x12 => (gI K st o 2 3).bind fun x15 => (some (x15 + x12)).bind fun y16 => (isO K st o 2).bind fun _ => (c_AbstractStringBuilder_ensureCapacityInternal Zd K o y16 st).bind fun st18 => (gI K st18 o 2 3).bind fun x20 => (isO K st18 o 2).bind fun _ => (c_AbstractStringBuilder_putStringAt Zd K o x20 a0 st18).bind fun st22 => (gI K st22 o 2 3).bind fun x24 => (some (x24 + x12)).bind fun y25 => (sF st22 o 2 3 (.int y25)).bind fun st26 => some (some o, st26))
set_option maxHeartbeats 4000000 in
set_option maxRecDepth 100000 in
theorem cc_AbstractStringBuilder_append_q (l : Launch) (G : Gk) (Zd : Nat → Nat) (K : KE) (o : Nat) (a0 : Option Nat) (st : CS) (r0 : Option Nat) (st0 : CS) (hm : c_AbstractStringBuilder_append_q Zd K o a0 st = some (r0, st0)) : CT l y16_22 prog_16_method_22_code 3 (some (.object "java/lang/AbstractStringBuilder")) G Zd K (4) [.ref o, va_rf a0] st (hQ G Zd r0 st0) := by
  refine goH (d := 4) (y := y16_22) (cc := prog_16_method_22_code) (maxL := 3) (ret := (some (.object "java/lang/AbstractStringBuilder"))) (av := [.ref o, va_rf a0]) (Qc := hQ G Zd r0 st0) "java/lang/AbstractStringBuilder" rfl (by decide) (c1_c rfl (c1_c (rf_cat _) c1_n)) (Nat.le_of_ble_eq_true rfl) ?_
  intro p e s m below meth c ls A args Q hQ hx hb hr hlk hml hown hts hin hl hE hw
  have hl : lw ls 3 [(0, .ref o), (1, va_rf a0)] := hl
  have hZ := hE.2.2.1
  have h := hm
  clear hm
  refine xq_aload_n (r := a0) hx hb d16_22_0 rfl (lv_at hl.1 1 rfl) ?_
  rcases nl_case h with ⟨hn11, h⟩ | ⟨a11z, hn11, h⟩
  ·
    have hn11 : a0 = none := hn11
    refine W.eq (g2 := F0 m 1 ls [.null]) (by rw [hn11]; rfl) ?_
    refine lv_ifnonnullN hx hb d16_22_1 ?_
    refine lv_aload_n hx hb d16_22_4 rfl (lv_at hl.1 0 rfl) ?_
    cases h
  ·
    have hn11 : a0 = some a11z := hn11
    refine W.eq (g2 := F0 m 1 ls [.ref a11z]) (by rw [hn11]; rfl) ?_
    refine lv_ifnonnull (tgt := 9) hx hb d16_22_1 rfl ?_
    refine xq_aload_n (r := a0) hx hb d16_22_9 rfl (lv_at hl.1 1 rfl) ?_
    refine W.eq (g2 := F0 m 10 ls [.ref a11z]) (by rw [hn11]; rfl) ?_
    obtain ⟨u9, ho, h⟩ := ob h
    obtain ⟨x12, hc, h⟩ := ob h
    refine hV_i (ci := 12) (As := []) (rest := []) ⟨hx, hb, hml, hown, hts⟩ (cc_String_length l G Zd K a11z st x12 hc) (kw_V (n := 0) hts k628 k1035 k5 k626 k627 (by decide +kernel) ⟨Nat.le_of_ble_eq_true rfl, Nat.le_of_ble_eq_true rfl⟩) hE hw rfl rfl ho rfl hl.1.1 rfl (c1_8 c1_n (Nat.le_of_ble_eq_true rfl)) d16_22_10 (fun H locs cells slots hw => ?_)
    clear hc ho u9
    refine W.eq (g2 := F0 m 13 ls [.int x12]) rfl ?_
    refine xt_istore_n (x := x12) (lv' := [(2, .int x12), (0, .ref o), (1, va_rf a0)]) hx hb d16_22_13 rfl hl (by decide) rfl (fun ls hl => ?_)
    refine lv_aload_n hx hb d16_22_14 rfl (lv_at hl.1 1 rfl) ?_
    refine lv_aload_n hx hb d16_22_15 rfl (lv_at hl.1 1 rfl) ?_
    obtain ⟨x15, hr, h⟩ := ob h
    refine xg_i (ci := 2) (C := r_2) (T := f_2) (N := 4) (ref := "java/lang/AbstractStringBuilder") hx hb hts (fun w h => List.mem_cons_of_mem _ (ly_2 w h)) hown hE hw rfl 3 (by decide) (hts _ (List.mem_cons_of_mem _ k63)) (fun _ h9 => h9) hr d16_22_16 ?_
    clear hr
    refine lv_iload_n hx hb d16_22_19 rfl (lv_at hl.1 0 rfl) ?_
    refine lv_iadd hx hb d16_22_20 ?_
    obtain ⟨y16, hr, h⟩ := ob h
    refine lv_topi (fun y9 ey => ?_)
    have e9 := ey.trans (Option.some.inj hr)
    clear ey
    subst y9
    clear hr
    obtain ⟨u9, ho, h⟩ := ob h
    obtain ⟨st18, hc, h⟩ := ob h
    refine hU_v (ci := 2) (As := [.int y16]) (rest := []) ⟨hx, hb, hml, hown, hts⟩ (cc_AbstractStringBuilder_ensureCapacityInternal l G Zd K o y16 st st18 hc) (kw_U (n := 1) (C := "java/lang/StringBuilder") (owner := "java/lang/AbstractStringBuilder") (x0 := y16_9) hts k405 k402 k3 k404 k1655 (sel_priv (hts _ (List.mem_cons_of_mem _ k440)) rfl (hZ.2.2.2 _ (List.mem_of_getElem? (i := 0) rfl)) (hts _ (List.mem_cons_of_mem _ k404)) (by decide)) (va_Decl.of (hts _ (List.mem_cons_of_mem _ k404)) (hts _ (List.mem_cons_of_mem _ k405))) (by decide +kernel) ⟨Nat.le_of_ble_eq_true rfl, Nat.le_of_ble_eq_true rfl⟩) hE hw rfl rfl ho rfl hl.1.1 rfl (c1_8 c1_n (Nat.le_of_ble_eq_true rfl)) d16_22_21 (fun H locs cells slots hw => ?_)
    clear hc ho u9
    refine W.eq (g2 := F0 m 24 ls []) rfl ?_
    refine lv_aload_n hx hb d16_22_24 rfl (lv_at hl.1 1 rfl) ?_
    refine lv_aload_n hx hb d16_22_25 rfl (lv_at hl.1 1 rfl) ?_
    obtain ⟨x20, hr, h⟩ := ob h
    refine xg_i (ci := 2) (C := r_2) (T := f_2) (N := 4) (ref := "java/lang/AbstractStringBuilder") hx hb hts (fun w h => List.mem_cons_of_mem _ (ly_2 w h)) hown hE hw rfl 3 (by decide) (hts _ (List.mem_cons_of_mem _ k63)) (fun _ h9 => h9) hr d16_22_26 ?_
    clear hr
    refine xq_aload_n (r := a0) hx hb d16_22_29 rfl (lv_at hl.1 2 rfl) ?_
    obtain ⟨u9, ho, h⟩ := ob h
    obtain ⟨st22, hc, h⟩ := ob h
    refine hU_v (ci := 2) (As := [.int x20, va_rf a0]) (rest := []) ⟨hx, hb, hml, hown, hts⟩ (cc_AbstractStringBuilder_putStringAt l G Zd K o x20 a0 st18 st22 hc) (kw_U (n := 2) (C := "java/lang/StringBuilder") (owner := "java/lang/AbstractStringBuilder") (x0 := y16_73) hts k1039 k1036 k3 k1038 k1661 (sel_priv (hts _ (List.mem_cons_of_mem _ k440)) rfl (hZ.2.2.2 _ (List.mem_of_getElem? (i := 2) rfl)) (hts _ (List.mem_cons_of_mem _ k1038)) (by decide)) (va_Decl.of (hts _ (List.mem_cons_of_mem _ k1038)) (hts _ (List.mem_cons_of_mem _ k1039))) (by decide +kernel) ⟨Nat.le_of_ble_eq_true rfl, Nat.le_of_ble_eq_true rfl⟩) hE hw rfl rfl ho rfl hl.1.1 rfl (c1_8 c1_n (Nat.le_of_ble_eq_true rfl)) d16_22_30 (fun H locs cells slots hw => ?_)
    clear hc ho u9
    refine W.eq (g2 := F0 m 33 ls []) rfl ?_
    refine lv_aload_n hx hb d16_22_33 rfl (lv_at hl.1 1 rfl) ?_
    refine lv_dup hx hb d16_22_34 rfl ?_
    obtain ⟨x24, hr, h⟩ := ob h
    refine xg_i (ci := 2) (C := r_2) (T := f_2) (N := 4) (ref := "java/lang/AbstractStringBuilder") hx hb hts (fun w h => List.mem_cons_of_mem _ (ly_2 w h)) hown hE hw rfl 3 (by decide) (hts _ (List.mem_cons_of_mem _ k63)) (fun _ h9 => h9) hr d16_22_35 ?_
    clear hr
    refine lv_iload_n hx hb d16_22_38 rfl (lv_at hl.1 0 rfl) ?_
    refine lv_iadd hx hb d16_22_39 ?_
    obtain ⟨y25, hr, h⟩ := ob h
    refine lv_topi (fun y9 ey => ?_)
    have e9 := ey.trans (Option.some.inj hr)
    clear ey
    subst y9
    clear hr
    obtain ⟨st26, hr, h⟩ := ob h
    refine xp (ci := 2) (ty := .int) (C := r_2) (T := f_2) (N := 4) (ref := "java/lang/AbstractStringBuilder") hx hb hts (fun w h => List.mem_cons_of_mem _ (ly_2 w h)) ft_2 ft_2_ok nm_2 hown hE hw rfl 3 (by decide) (hts _ (List.mem_cons_of_mem _ k63)) (fun _ h9 => h9) rfl hr (by decide +kernel) rfl rfl d16_22_40 (fun H locs hw => ?_)
    clear hr
    refine lv_aload_n hx hb d16_22_43 rfl (lv_at hl.1 1 rfl) ?_
    cases h
    exact finH_q hQ hx hb hr hlk rfl (Or.inl ⟨_, rfl⟩) hE hw d16_22_44
def c_StringBuilder_append_q (Zd : Nat → Nat) (K : KE) (o : Nat) (a0 : Option Nat) (st : CS) : Option (Option Nat × CS) := (isO K st o 2).bind fun _ => (c_AbstractStringBuilder_append_q Zd K o a0 st).bind fun r13 => some (some o, r13.2)
set_option maxHeartbeats 4000000 in
set_option maxRecDepth 100000 in
theorem cc_StringBuilder_append_q (l : Launch) (G : Gk) (Zd : Nat → Nat) (K : KE) (o : Nat) (a0 : Option Nat) (st : CS) (r0 : Option Nat) (st0 : CS) (hm : c_StringBuilder_append_q Zd K o a0 st = some (r0, st0)) : CT l y22_7 prog_22_method_7_code 2 (some (.object "java/lang/StringBuilder")) G Zd K (5) [.ref o, va_rf a0] st (hQ G Zd r0 st0) := by
  refine goH (d := 5) (y := y22_7) (cc := prog_22_method_7_code) (maxL := 2) (ret := (some (.object "java/lang/StringBuilder"))) (av := [.ref o, va_rf a0]) (Qc := hQ G Zd r0 st0) "java/lang/StringBuilder" rfl (by decide) (c1_c rfl (c1_c (rf_cat _) c1_n)) (Nat.le_of_ble_eq_true rfl) ?_
  intro p e s m below meth c ls A args Q hQ hx hb hr hlk hml hown hts hin hl hE hw
  have hl : lw ls 2 [(0, .ref o), (1, va_rf a0)] := hl
  have hZ := hE.2.2.1
  have h := hm
  clear hm
  refine lv_aload_n hx hb d22_7_0 rfl (lv_at hl.1 0 rfl) ?_
  refine xq_aload_n (r := a0) hx hb d22_7_1 rfl (lv_at hl.1 1 rfl) ?_
  obtain ⟨u9, ho, h⟩ := ob h
  obtain ⟨⟨x11, st12⟩, hc, h⟩ := ob h
  refine hSU_q (ci := 2) (As := [va_rf a0]) (rest := []) ⟨hx, hb, hml, hown, hts⟩ (cc_AbstractStringBuilder_append_q l G Zd K o a0 st x11 st12 hc) (kw_SU (n := 1) hts k1018 k1016 k3 k1017 k1659 k72 (by decide +kernel) ⟨Nat.le_of_ble_eq_true rfl, Nat.le_of_ble_eq_true rfl⟩) hE hw rfl rfl ho rfl hl.1.1 rfl (c1_8 c1_n (Nat.le_of_ble_eq_true rfl)) d22_7_2 (fun H locs cells slots hw => ?_)
  clear hc ho u9
  refine W.eq (g2 := F0 m 5 ls [va_rf x11]) rfl ?_
  refine lv_pop hx hb d22_7_5 (rf_cat _) ?_
  refine lv_aload_n hx hb d22_7_6 rfl (lv_at hl.1 0 rfl) ?_
  cases h
  exact finH_q hQ hx hb hr hlk rfl (Or.inl ⟨_, rfl⟩) hE hw d22_7_7
theorem d22_15_0 : decode prog_22_method_15_code 0 = .ok (.aload_n 0, 1) := by decide +kernel
theorem d22_15_1 : decode prog_22_method_15_code 1 = .ok (.iload_n 1, 1) := by decide +kernel
theorem d22_15_2 : decode prog_22_method_15_code 2 = .ok (.invokespecial 53, 3) := by decide +kernel
theorem d16_32_0 : decode prog_16_method_32_code 0 = .ok (.aload_n 0, 1) := by decide +kernel
theorem d16_32_1 : decode prog_16_method_32_code 1 = .ok (.getfield 79, 3) := by decide +kernel
theorem d16_32_4 : decode prog_16_method_32_code 4 = .ok (.istore_n 2, 1) := by decide +kernel
theorem d16_32_5 : decode prog_16_method_32_code 5 = .ok (.iload_n 2, 1) := by decide +kernel
theorem d16_32_6 : decode prog_16_method_32_code 6 = .ok (.iload_n 1, 1) := by decide +kernel
theorem d16_32_7 : decode prog_16_method_32_code 7 = .ok (.invokestatic 245, 3) := by decide +kernel
theorem d19_13_0 : decode prog_19_method_13_code 0 = .ok (.iconst 1, 1) := by decide +kernel
theorem d19_13_1 : decode prog_19_method_13_code 1 = .ok (.istore_n 1, 1) := by decide +kernel
theorem d19_13_2 : decode prog_19_method_13_code 2 = .ok (.iload_n 0, 1) := by decide +kernel
theorem d19_13_3 : decode prog_19_method_13_code 3 = .ok (.ifCond .lt 8, 3) := by decide +kernel
theorem d19_13_6 : decode prog_19_method_13_code 6 = .ok (.iconst 0, 1) := by decide +kernel
theorem d19_13_7 : decode prog_19_method_13_code 7 = .ok (.istore_n 1, 1) := by decide +kernel
theorem d19_13_8 : decode prog_19_method_13_code 8 = .ok (.iload_n 0, 1) := by decide +kernel
theorem d19_13_9 : decode prog_19_method_13_code 9 = .ok (.ineg, 1) := by decide +kernel
theorem d19_13_10 : decode prog_19_method_13_code 10 = .ok (.istore_n 0, 1) := by decide +kernel
theorem d19_13_11 : decode prog_19_method_13_code 11 = .ok (.bipush (-10), 2) := by decide +kernel
theorem d19_13_13 : decode prog_19_method_13_code 13 = .ok (.istore_n 2, 1) := by decide +kernel
theorem d19_13_14 : decode prog_19_method_13_code 14 = .ok (.iconst 1, 1) := by decide +kernel
theorem d19_13_15 : decode prog_19_method_13_code 15 = .ok (.istore_n 3, 1) := by decide +kernel
theorem d19_13_42 : decode prog_19_method_13_code 42 = .ok (.bipush 10, 2) := by decide +kernel
theorem d19_13_44 : decode prog_19_method_13_code 44 = .ok (.iload_n 1, 1) := by decide +kernel
theorem d19_13_45 : decode prog_19_method_13_code 45 = .ok (.iadd, 1) := by decide +kernel
theorem d19_13_46 : decode prog_19_method_13_code 46 = .ok (.ireturn, 1) := by decide +kernel
theorem d19_13_16 : decode prog_19_method_13_code 16 = .ok (.iload_n 3, 1) := by decide +kernel
theorem d19_13_17 : decode prog_19_method_13_code 17 = .ok (.bipush 10, 2) := by decide +kernel
theorem d19_13_19 : decode prog_19_method_13_code 19 = .ok (.if_icmp .ge 23, 3) := by decide +kernel
theorem d19_13_22 : decode prog_19_method_13_code 22 = .ok (.iload_n 0, 1) := by decide +kernel
theorem d19_13_23 : decode prog_19_method_13_code 23 = .ok (.iload_n 2, 1) := by decide +kernel
theorem d19_13_24 : decode prog_19_method_13_code 24 = .ok (.if_icmp .le 7, 3) := by decide +kernel
theorem d19_13_31 : decode prog_19_method_13_code 31 = .ok (.bipush 10, 2) := by decide +kernel
theorem d19_13_33 : decode prog_19_method_13_code 33 = .ok (.iload_n 2, 1) := by decide +kernel
theorem d19_13_34 : decode prog_19_method_13_code 34 = .ok (.imul, 1) := by decide +kernel
theorem d19_13_35 : decode prog_19_method_13_code 35 = .ok (.istore_n 2, 1) := by decide +kernel
theorem d19_13_36 : decode prog_19_method_13_code 36 = .ok (.iinc 3 1, 3) := by decide +kernel
theorem d19_13_39 : decode prog_19_method_13_code 39 = .ok (.goto (-23), 3) := by decide +kernel
theorem d19_13_27 : decode prog_19_method_13_code 27 = .ok (.iload_n 3, 1) := by decide +kernel
theorem d19_13_28 : decode prog_19_method_13_code 28 = .ok (.iload_n 1, 1) := by decide +kernel
theorem d19_13_29 : decode prog_19_method_13_code 29 = .ok (.iadd, 1) := by decide +kernel
theorem d19_13_30 : decode prog_19_method_13_code 30 = .ok (.ireturn, 1) := by decide +kernel
def y19_13 : MethodName := { cls := "java/lang/Integer", name := "stringSize", desc := "(I)I" }
theorem k1062 : (Jvm.Cond.code ({ cls := "java/lang/Integer", name := "stringSize", desc := "(I)I" } : Jvm.MethodName) prog_19_method_13_code (4 : Nat) (Option.some Jvm.ClassFile.FieldType.int)) ∈ TB := tk_5 102 rfl rfl
theorem k26 : (Jvm.Cond.initialized "java/lang/Integer") ∈ TB := tk_1 26 rfl rfl
theorem k1060 : (Jvm.Cond.methodLink "java/lang/AbstractStringBuilder" (245 : Nat) ({ cls := "java/lang/Integer", name := "stringSize", desc := "(I)I" } : Jvm.MethodName)) ∈ TB := tk_5 100 rfl rfl
theorem k1061 : (Jvm.Cond.static ({ cls := "java/lang/Integer", name := "stringSize", desc := "(I)I" } : Jvm.MethodName)) ∈ TB := tk_5 101 rfl rfl
theorem d16_32_10 : decode prog_16_method_32_code 10 = .ok (.iadd, 1) := by decide +kernel
theorem d16_32_11 : decode prog_16_method_32_code 11 = .ok (.istore_n 3, 1) := by decide +kernel
theorem d16_32_12 : decode prog_16_method_32_code 12 = .ok (.aload_n 0, 1) := by decide +kernel
theorem d16_32_13 : decode prog_16_method_32_code 13 = .ok (.iload_n 3, 1) := by decide +kernel
theorem d16_32_14 : decode prog_16_method_32_code 14 = .ok (.invokevirtual 100, 3) := by decide +kernel
theorem d16_32_17 : decode prog_16_method_32_code 17 = .ok (.aload_n 0, 1) := by decide +kernel
theorem d16_32_18 : decode prog_16_method_32_code 18 = .ok (.invokevirtual 83, 3) := by decide +kernel
theorem d16_32_21 : decode prog_16_method_32_code 21 = .ok (.ifCond .eq 16, 3) := by decide +kernel
theorem d16_32_37 : decode prog_16_method_32_code 37 = .ok (.iload_n 1, 1) := by decide +kernel
theorem d16_32_38 : decode prog_16_method_32_code 38 = .ok (.iload_n 2, 1) := by decide +kernel
theorem d16_32_39 : decode prog_16_method_32_code 39 = .ok (.iload_n 3, 1) := by decide +kernel
theorem d16_32_40 : decode prog_16_method_32_code 40 = .ok (.aload_n 0, 1) := by decide +kernel
theorem d16_32_41 : decode prog_16_method_32_code 41 = .ok (.getfield 15, 3) := by decide +kernel
theorem d16_32_24 : decode prog_16_method_32_code 24 = .ok (.iload_n 1, 1) := by decide +kernel
theorem d16_32_25 : decode prog_16_method_32_code 25 = .ok (.iload_n 3, 1) := by decide +kernel
theorem d16_32_26 : decode prog_16_method_32_code 26 = .ok (.aload_n 0, 1) := by decide +kernel
theorem d16_32_27 : decode prog_16_method_32_code 27 = .ok (.getfield 15, 3) := by decide +kernel
theorem d16_32_30 : decode prog_16_method_32_code 30 = .ok (.invokestatic 248, 3) := by decide +kernel
theorem d19_12_0 : decode prog_19_method_12_code 0 = .ok (.iload_n 1, 1) := by decide +kernel
theorem d19_12_1 : decode prog_19_method_12_code 1 = .ok (.istore 5, 2) := by decide +kernel
theorem d19_12_3 : decode prog_19_method_12_code 3 = .ok (.iload_n 0, 1) := by decide +kernel
theorem d19_12_4 : decode prog_19_method_12_code 4 = .ok (.ifCond .ge 7, 3) := by decide +kernel
theorem d19_12_11 : decode prog_19_method_12_code 11 = .ok (.iconst 0, 1) := by decide +kernel
theorem d19_12_7 : decode prog_19_method_12_code 7 = .ok (.iconst 1, 1) := by decide +kernel
theorem d19_12_8 : decode prog_19_method_12_code 8 = .ok (.goto 4, 3) := by decide +kernel
theorem d19_12_12 : decode prog_19_method_12_code 12 = .ok (.istore 6, 2) := by decide +kernel
theorem d19_12_14 : decode prog_19_method_12_code 14 = .ok (.iload 6, 2) := by decide +kernel
theorem d19_12_16 : decode prog_19_method_12_code 16 = .ok (.ifCond .ne 6, 3) := by decide +kernel
theorem d19_12_19 : decode prog_19_method_12_code 19 = .ok (.iload_n 0, 1) := by decide +kernel
theorem d19_12_20 : decode prog_19_method_12_code 20 = .ok (.ineg, 1) := by decide +kernel
theorem d19_12_21 : decode prog_19_method_12_code 21 = .ok (.istore_n 0, 1) := by decide +kernel
theorem d19_12_72 : decode prog_19_method_12_code 72 = .ok (.aload_n 2, 1) := by decide +kernel
theorem d19_12_73 : decode prog_19_method_12_code 73 = .ok (.iinc 5 (-1), 3) := by decide +kernel
theorem d19_12_76 : decode prog_19_method_12_code 76 = .ok (.iload 5, 2) := by decide +kernel
theorem d19_12_78 : decode prog_19_method_12_code 78 = .ok (.getstatic 83, 3) := by decide +kernel
theorem k1066 : (Jvm.Cond.fieldLink "java/lang/Integer" (83 : Nat) "java/lang/Integer" "DigitOnes" "[B") ∈ TB := tk_5 106 rfl rfl
theorem d19_12_81 : decode prog_19_method_12_code 81 = .ok (.iload_n 0, 1) := by decide +kernel
theorem d19_12_82 : decode prog_19_method_12_code 82 = .ok (.ineg, 1) := by decide +kernel
theorem d19_12_83 : decode prog_19_method_12_code 83 = .ok (.baload, 1) := by decide +kernel
theorem d19_12_84 : decode prog_19_method_12_code 84 = .ok (.bastore, 1) := by decide +kernel
theorem d19_12_85 : decode prog_19_method_12_code 85 = .ok (.iload_n 0, 1) := by decide +kernel
theorem d19_12_86 : decode prog_19_method_12_code 86 = .ok (.bipush (-9), 2) := by decide +kernel
theorem d19_12_88 : decode prog_19_method_12_code 88 = .ok (.if_icmp .ge 16, 3) := by decide +kernel
theorem d19_12_91 : decode prog_19_method_12_code 91 = .ok (.aload_n 2, 1) := by decide +kernel
theorem d19_12_92 : decode prog_19_method_12_code 92 = .ok (.iinc 5 (-1), 3) := by decide +kernel
theorem d19_12_95 : decode prog_19_method_12_code 95 = .ok (.iload 5, 2) := by decide +kernel
theorem d19_12_97 : decode prog_19_method_12_code 97 = .ok (.getstatic 87, 3) := by decide +kernel
theorem k1068 : (Jvm.Cond.fieldLink "java/lang/Integer" (87 : Nat) "java/lang/Integer" "DigitTens" "[B") ∈ TB := tk_5 108 rfl rfl
theorem d19_12_100 : decode prog_19_method_12_code 100 = .ok (.iload_n 0, 1) := by decide +kernel
theorem d19_12_101 : decode prog_19_method_12_code 101 = .ok (.ineg, 1) := by decide +kernel
theorem d19_12_102 : decode prog_19_method_12_code 102 = .ok (.baload, 1) := by decide +kernel
theorem d19_12_103 : decode prog_19_method_12_code 103 = .ok (.bastore, 1) := by decide +kernel
theorem d19_12_104 : decode prog_19_method_12_code 104 = .ok (.iload 6, 2) := by decide +kernel
theorem d19_12_106 : decode prog_19_method_12_code 106 = .ok (.ifCond .eq 12, 3) := by decide +kernel
theorem d19_12_109 : decode prog_19_method_12_code 109 = .ok (.aload_n 2, 1) := by decide +kernel
theorem d19_12_110 : decode prog_19_method_12_code 110 = .ok (.iinc 5 (-1), 3) := by decide +kernel
theorem d19_12_113 : decode prog_19_method_12_code 113 = .ok (.iload 5, 2) := by decide +kernel
theorem d19_12_115 : decode prog_19_method_12_code 115 = .ok (.bipush 45, 2) := by decide +kernel
theorem d19_12_117 : decode prog_19_method_12_code 117 = .ok (.bastore, 1) := by decide +kernel
theorem d19_12_118 : decode prog_19_method_12_code 118 = .ok (.iload 5, 2) := by decide +kernel
theorem d19_12_120 : decode prog_19_method_12_code 120 = .ok (.ireturn, 1) := by decide +kernel
theorem d19_12_22 : decode prog_19_method_12_code 22 = .ok (.iload_n 0, 1) := by decide +kernel
theorem d19_12_23 : decode prog_19_method_12_code 23 = .ok (.bipush (-100), 2) := by decide +kernel
theorem d19_12_25 : decode prog_19_method_12_code 25 = .ok (.if_icmp .gt 47, 3) := by decide +kernel
theorem d19_12_28 : decode prog_19_method_12_code 28 = .ok (.iload_n 0, 1) := by decide +kernel
theorem d19_12_29 : decode prog_19_method_12_code 29 = .ok (.bipush 100, 2) := by decide +kernel
theorem d19_12_31 : decode prog_19_method_12_code 31 = .ok (.idiv, 1) := by decide +kernel
theorem d19_12_32 : decode prog_19_method_12_code 32 = .ok (.istore_n 3, 1) := by decide +kernel
theorem d19_12_33 : decode prog_19_method_12_code 33 = .ok (.iload_n 3, 1) := by decide +kernel
theorem d19_12_34 : decode prog_19_method_12_code 34 = .ok (.bipush 100, 2) := by decide +kernel
theorem d19_12_36 : decode prog_19_method_12_code 36 = .ok (.imul, 1) := by decide +kernel
theorem d19_12_37 : decode prog_19_method_12_code 37 = .ok (.iload_n 0, 1) := by decide +kernel
theorem d19_12_38 : decode prog_19_method_12_code 38 = .ok (.isub, 1) := by decide +kernel
theorem d19_12_39 : decode prog_19_method_12_code 39 = .ok (.istore 4, 2) := by decide +kernel
theorem d19_12_41 : decode prog_19_method_12_code 41 = .ok (.iload_n 3, 1) := by decide +kernel
theorem d19_12_42 : decode prog_19_method_12_code 42 = .ok (.istore_n 0, 1) := by decide +kernel
theorem d19_12_43 : decode prog_19_method_12_code 43 = .ok (.aload_n 2, 1) := by decide +kernel
theorem d19_12_44 : decode prog_19_method_12_code 44 = .ok (.iinc 5 (-1), 3) := by decide +kernel
theorem d19_12_47 : decode prog_19_method_12_code 47 = .ok (.iload 5, 2) := by decide +kernel
theorem d19_12_49 : decode prog_19_method_12_code 49 = .ok (.getstatic 83, 3) := by decide +kernel
theorem d19_12_52 : decode prog_19_method_12_code 52 = .ok (.iload 4, 2) := by decide +kernel
theorem d19_12_54 : decode prog_19_method_12_code 54 = .ok (.baload, 1) := by decide +kernel
theorem d19_12_55 : decode prog_19_method_12_code 55 = .ok (.bastore, 1) := by decide +kernel
theorem d19_12_56 : decode prog_19_method_12_code 56 = .ok (.aload_n 2, 1) := by decide +kernel
theorem d19_12_57 : decode prog_19_method_12_code 57 = .ok (.iinc 5 (-1), 3) := by decide +kernel
theorem d19_12_60 : decode prog_19_method_12_code 60 = .ok (.iload 5, 2) := by decide +kernel
theorem d19_12_62 : decode prog_19_method_12_code 62 = .ok (.getstatic 87, 3) := by decide +kernel
theorem d19_12_65 : decode prog_19_method_12_code 65 = .ok (.iload 4, 2) := by decide +kernel
theorem d19_12_67 : decode prog_19_method_12_code 67 = .ok (.baload, 1) := by decide +kernel
theorem d19_12_68 : decode prog_19_method_12_code 68 = .ok (.bastore, 1) := by decide +kernel
theorem d19_12_69 : decode prog_19_method_12_code 69 = .ok (.goto (-47), 3) := by decide +kernel
def y19_12 : MethodName := { cls := "java/lang/Integer", name := "getChars", desc := "(II[B)I" }
theorem k1065 : (Jvm.Cond.code ({ cls := "java/lang/Integer", name := "getChars", desc := "(II[B)I" } : Jvm.MethodName) prog_19_method_12_code (7 : Nat) (Option.some Jvm.ClassFile.FieldType.int)) ∈ TB := tk_5 105 rfl rfl
theorem k1063 : (Jvm.Cond.methodLink "java/lang/AbstractStringBuilder" (248 : Nat) ({ cls := "java/lang/Integer", name := "getChars", desc := "(II[B)I" } : Jvm.MethodName)) ∈ TB := tk_5 103 rfl rfl
theorem k1064 : (Jvm.Cond.static ({ cls := "java/lang/Integer", name := "getChars", desc := "(II[B)I" } : Jvm.MethodName)) ∈ TB := tk_5 104 rfl rfl
theorem d16_32_33 : decode prog_16_method_32_code 33 = .ok (.pop, 1) := by decide +kernel
theorem d16_32_34 : decode prog_16_method_32_code 34 = .ok (.goto 14, 3) := by decide +kernel
theorem d16_32_48 : decode prog_16_method_32_code 48 = .ok (.aload_n 0, 1) := by decide +kernel
theorem d16_32_49 : decode prog_16_method_32_code 49 = .ok (.iload_n 3, 1) := by decide +kernel
theorem d16_32_50 : decode prog_16_method_32_code 50 = .ok (.putfield 79, 3) := by decide +kernel
theorem d16_32_53 : decode prog_16_method_32_code 53 = .ok (.aload_n 0, 1) := by decide +kernel
theorem d16_32_54 : decode prog_16_method_32_code 54 = .ok (.areturn, 1) := by decide +kernel
def y16_32 : MethodName := { cls := "java/lang/AbstractStringBuilder", name := "append", desc := "(I)Ljava/lang/AbstractStringBuilder;" }
theorem k1059 : (Jvm.Cond.code ({ cls := "java/lang/AbstractStringBuilder", name := "append", desc := "(I)Ljava/lang/AbstractStringBuilder;" } : Jvm.MethodName) prog_16_method_32_code (4 : Nat) (Option.some (Jvm.ClassFile.FieldType.object "java/lang/AbstractStringBuilder"))) ∈ TB := tk_5 99 rfl rfl
theorem k1057 : (Jvm.Cond.methodLink "java/lang/StringBuilder" (53 : Nat) ({ cls := "java/lang/AbstractStringBuilder", name := "append", desc := "(I)Ljava/lang/AbstractStringBuilder;" } : Jvm.MethodName)) ∈ TB := tk_5 97 rfl rfl
theorem k1058 : (Jvm.Cond.instanceMethod ({ cls := "java/lang/AbstractStringBuilder", name := "append", desc := "(I)Ljava/lang/AbstractStringBuilder;" } : Jvm.MethodName)) ∈ TB := tk_5 98 rfl rfl
theorem k1663 : (Jvm.Cond.sameMethod "java/lang/AbstractStringBuilder" "java/lang/AbstractStringBuilder" "append" "(I)Ljava/lang/AbstractStringBuilder;") ∈ TB := tk_7 223 rfl rfl
theorem d22_15_5 : decode prog_22_method_15_code 5 = .ok (.pop, 1) := by decide +kernel
theorem d22_15_6 : decode prog_22_method_15_code 6 = .ok (.aload_n 0, 1) := by decide +kernel
theorem d22_15_7 : decode prog_22_method_15_code 7 = .ok (.areturn, 1) := by decide +kernel
def y22_15 : MethodName := { cls := "java/lang/StringBuilder", name := "append", desc := "(I)Ljava/lang/StringBuilder;" }
def c_Integer_stringSize_l1 (v12 : Int32) (v13 : Int32) : Nat → (Int32 × Int32) → Option ((Int32) ⊕ (Int32 × Int32))
  | 0, _ => none
  | n9 + 1, e9 => if (10 : Int32) ≤ e9.2 then (some (.inr (e9.1, e9.2))) else (if v12 ≤ e9.1 then ((some ((10 : Int32) * e9.1)).bind fun y22 => (some (e9.2 + 1)).bind fun y23 => c_Integer_stringSize_l1 v12 v13 n9 (y22, y23)) else ((some (e9.2 + v13)).bind fun y24 => some (.inl y24)))
theorem c_Integer_stringSize_l1_s (v12 : Int32) (v13 : Int32) (n9 : Nat) (e9 : Int32 × Int32) : c_Integer_stringSize_l1 v12 v13 (n9 + 1) e9 = (if (10 : Int32) ≤ e9.2 then (some (.inr (e9.1, e9.2))) else (if v12 ≤ e9.1 then ((some ((10 : Int32) * e9.1)).bind fun y22 => (some (e9.2 + 1)).bind fun y23 => c_Integer_stringSize_l1 v12 v13 n9 (y22, y23)) else ((some (e9.2 + v13)).bind fun y24 => some (.inl y24)))) := rfl
def c_Integer_stringSize (Zd : Nat → Nat) (K : KE) (a0 : Int32) (st : CS) : Option (Int32) := (if a0 < (0 : Int32) then (some (a0, (1 : Int32))) else ((some (-a0)).bind fun y26 => some (y26, (0 : Int32)))).bind fun e11 => (c_Integer_stringSize_l1 e11.1 e11.2 4096 (((-10) : Int32), (1 : Int32))).bind fun e14 => match e14 with | .inl o9 => some o9 | .inr e8 => (some ((10 : Int32) + e11.2)).bind fun y19 => some y19
set_option maxHeartbeats 4000000 in
set_option maxRecDepth 100000 in
theorem cc_Integer_stringSize (l : Launch) (G : Gk) (Zd : Nat → Nat) (K : KE) (a0 : Int32) (st : CS) (r0 : Int32) (hm : c_Integer_stringSize Zd K a0 st = some r0) : CT l y19_13 prog_19_method_13_code 4 (some .int) G Zd K (0) [.int a0] st (hI G Zd r0 st) := by
  refine goH (d := 0) (y := y19_13) (cc := prog_19_method_13_code) (maxL := 4) (ret := (some .int)) (av := [.int a0]) (Qc := hI G Zd r0 st) "java/lang/Integer" rfl (by decide) (c1_c rfl c1_n) (Nat.le_of_ble_eq_true rfl) ?_
  intro p e s m below meth c ls A args Q hQ hx hb hr hlk hml hown hts hin hl hE hw
  have hl : lw ls 4 [(0, .int a0)] := hl
  have hZ := hE.2.2.1
  have h := hm
  clear hm
  refine lv_iconst (v := 1) hx hb d19_13_0 (by decide) ?_
  refine xt_istore_n (x := 1) (lv' := [(1, .int 1), (0, .int a0)]) hx hb d19_13_1 rfl hl (by decide) rfl (fun ls hl => ?_)
  refine lv_iload_n hx hb d19_13_2 rfl (lv_at hl.1 1 rfl) ?_
  obtain ⟨e11, hX, h⟩ := ob h
  obtain ⟨v12, v13⟩ := e11
  have hj : ∀ (H : Heap) (locs : List Loc) (cells slots : Nat) (ls : Array Slot), lw ls 4 [(0, .int v12), (1, .int v13)] → wsH G Zd A s st H locs → W p l e (rmH Zd (0) st.1) s m args below meth c H locs cells slots Q (F0 m 11 ls []) := by
    intro H locs cells slots ls hl hw
    refine lv_bipush (v := (-10)) hx hb d19_13_11 (by decide) ?_
    refine xt_istore_n (x := (-10)) (lv' := [(2, .int (-10)), (0, .int v12), (1, .int v13)]) hx hb d19_13_13 rfl hl (by decide) rfl (fun ls hl => ?_)
    refine lv_iconst (v := 1) hx hb d19_13_14 (by decide) ?_
    refine xt_istore_n (x := 1) (lv' := [(3, .int 1), (2, .int (-10)), (0, .int v12), (1, .int v13)]) hx hb d19_13_15 rfl hl (by decide) rfl (fun ls hl => ?_)
    obtain ⟨e14, hX, hrest⟩ := ob h
    clear h
    have hj : ∀ (v17 : Int32) (v18 : Int32), e14 = .inr (v17, v18) → ∀ (H : Heap) (locs : List Loc) (cells slots : Nat) (ls : Array Slot), lw ls 4 [(0, .int v12), (1, .int v13), (2, .int v17), (3, .int v18)] → wsH G Zd A s st H locs → W p l e (rmH Zd (0) st.1) s m args below meth c H locs cells slots Q (F0 m 42 ls []) := by
      intro v17 v18 he H locs cells slots ls hl hw
      subst e14
      have h := hrest
      clear hrest
      refine lv_bipush (v := 10) hx hb d19_13_42 (by decide) ?_
      refine lv_iload_n hx hb d19_13_44 rfl (lv_at hl.1 1 rfl) ?_
      refine lv_iadd hx hb d19_13_45 ?_
      obtain ⟨y19, hr, h⟩ := ob h
      refine lv_topi (fun y9 ey => ?_)
      have e9 := ey.trans (Option.some.inj hr)
      clear ey
      subst y9
      clear hr
      cases h
      exact finH_i hQ hx hb hr hlk hE hw d19_13_46
    have hloop : ∀ (n9 : Nat) (v15 : Int32) (v16 : Int32), c_Integer_stringSize_l1 v12 v13 n9 (v15, v16) = some e14 → ∀ (H : Heap) (locs : List Loc) (cells slots : Nat) (ls : Array Slot), lw ls 4 [(0, .int v12), (1, .int v13), (2, .int v15), (3, .int v16)] → wsH G Zd A s st H locs → W p l e (rmH Zd (0) st.1) s m args below meth c H locs cells slots Q (F0 m 16 ls []) := by
      intro n9
      induction n9 with
      | zero =>
        intro v15 v16 h
        cases h
      | succ n9 ih =>
        intro v15 v16 h H locs cells slots ls hl hw
        replace h := (c_Integer_stringSize_l1_s v12 v13 n9 (v15, v16)).symm.trans h
        refine lv_iload_n hx hb d19_13_16 rfl (lv_at hl.1 3 rfl) ?_
        refine lv_bipush (v := 10) hx hb d19_13_17 (by decide) ?_
        refine lv_icmp_ge (tgt := 42) hx hb d19_13_19 rfl (fun c20 => ?_) (fun c20 => ?_)
        ·
          replace h := (if_pos c20).symm.trans h
          have e9 := Option.some.inj h
          subst e14
          have hl := lw_sub hl (l' := [(0, .int v12), (1, .int v13), (2, .int v15), (3, .int v16)]) [0, 1, 2, 3] rfl
          exact hj _ _ rfl _ _ _ _ _ hl hw
        ·
          replace h := (if_neg c20).symm.trans h
          refine lv_iload_n hx hb d19_13_22 rfl (lv_at hl.1 0 rfl) ?_
          refine lv_iload_n hx hb d19_13_23 rfl (lv_at hl.1 2 rfl) ?_
          refine lv_icmp_le (tgt := 31) hx hb d19_13_24 rfl (fun c21 => ?_) (fun c21 => ?_)
          ·
            replace h := (if_pos c21).symm.trans h
            refine lv_bipush (v := 10) hx hb d19_13_31 (by decide) ?_
            refine lv_iload_n hx hb d19_13_33 rfl (lv_at hl.1 2 rfl) ?_
            refine lv_imul hx hb d19_13_34 ?_
            obtain ⟨y22, hr, h⟩ := ob h
            refine lv_topi (fun y9 ey => ?_)
            have e9 := ey.trans (Option.some.inj hr)
            clear ey
            subst y9
            clear hr
            refine xt_istore_n (x := y22) (lv' := [(2, .int y22), (0, .int v12), (1, .int v13), (3, .int v16)]) hx hb d19_13_35 rfl hl (by decide) rfl (fun ls hl => ?_)
            obtain ⟨y23, hr, h⟩ := ob h
            refine xt_iinc (k := 3) (v := y23) (lv' := [(3, .int y23), (2, .int y22), (0, .int v12), (1, .int v13)]) hx hb d19_13_36 hl rfl hr (by decide) rfl (fun ls hl => ?_)
            clear hr
            refine lv_goto (tgt := 16) hx hb d19_13_39 rfl ?_
            have hl := lw_sub hl (l' := [(0, .int v12), (1, .int v13), (2, .int y22), (3, .int y23)]) [2, 3, 1, 0] rfl
            exact ih _ _ h _ _ _ _ _ hl hw
          ·
            replace h := (if_neg c21).symm.trans h
            refine lv_iload_n hx hb d19_13_27 rfl (lv_at hl.1 3 rfl) ?_
            refine lv_iload_n hx hb d19_13_28 rfl (lv_at hl.1 1 rfl) ?_
            refine lv_iadd hx hb d19_13_29 ?_
            obtain ⟨y24, hr, h⟩ := ob h
            refine lv_topi (fun y9 ey => ?_)
            have e9 := ey.trans (Option.some.inj hr)
            clear ey
            subst y9
            clear hr
            cases h
            cases hrest
            exact finH_i hQ hx hb hr hlk hE hw d19_13_30
    have hl := lw_sub hl (l' := [(0, .int v12), (1, .int v13), (2, .int (-10)), (3, .int 1)]) [2, 3, 1, 0] rfl
    exact hloop _ _ _ hX _ _ _ _ _ hl hw
  clear h
  refine lv_if_lt (tgt := 11) hx hb d19_13_3 rfl (fun c25 => ?_) (fun c25 => ?_)
  ·
    replace h := (if_pos c25).symm.trans hX
    have e9_0 := Option.some.inj h
    obtain ⟨q9, e9_1⟩ := Prod.mk.inj e9_0
    clear e9_0
    subst v12
    subst v13
    have hl := lw_sub hl (l' := [(0, .int a0), (1, .int 1)]) [1, 0] rfl
    exact hj _ _ _ _ _ hl hw
  ·
    replace h := (if_neg c25).symm.trans hX
    refine lv_iconst (v := 0) hx hb d19_13_6 (by decide) ?_
    refine xt_istore_n (x := 0) (lv' := [(1, .int 0), (0, .int a0)]) hx hb d19_13_7 rfl hl (by decide) rfl (fun ls hl => ?_)
    refine lv_iload_n hx hb d19_13_8 rfl (lv_at hl.1 1 rfl) ?_
    refine lv_ineg hx hb d19_13_9 ?_
    obtain ⟨y26, hr, h⟩ := ob h
    refine lv_topi (fun y9 ey => ?_)
    have e9 := ey.trans (Option.some.inj hr)
    clear ey
    subst y9
    clear hr
    refine xt_istore_n (x := y26) (lv' := [(0, .int y26), (1, .int 0)]) hx hb d19_13_10 rfl hl (by decide) rfl (fun ls hl => ?_)
    have e9_0 := Option.some.inj h
    obtain ⟨q9, e9_1⟩ := Prod.mk.inj e9_0
    clear e9_0
    subst v12
    subst v13
    have hl := lw_sub hl (l' := [(0, .int y26), (1, .int 0)]) [0, 1] rfl
    exact hj _ _ _ _ _ hl hw
def c_Integer_getChars_l1 (Zd : Nat → Nat) (K : KE) (a2 : Option Nat) : Nat → (Int32 × Int32 × CS) → Option (Int32 × Int32 × CS)
  | 0, _ => none
  | n9 + 1, e9 => if ((-100) : Int32) < e9.1 then (some (e9.1, e9.2.1, e9.2.2)) else ((some (e9.1 / (100 : Int32))).bind fun y42 => (some (y42 * (100 : Int32))).bind fun y43 => (some (y43 - e9.1)).bind fun y44 => (some (e9.2.1 + (-1))).bind fun y45 => (rA K e9.2.2 (Zd 2) 2 y44).bind fun x46 => a2.bind fun a47z => (wA e9.2.2 a47z 2 y45 (vp_nar .byte x46)).bind fun st48 => (some (y45 + (-1))).bind fun y49 => (rA K st48 (Zd 3) 2 y44).bind fun x50 => (wA st48 a47z 2 y49 (vp_nar .byte x50)).bind fun st51 => c_Integer_getChars_l1 Zd K a2 n9 (y42, y49, st51))
theorem c_Integer_getChars_l1_s (Zd : Nat → Nat) (K : KE) (a2 : Option Nat) (n9 : Nat) (e9 : Int32 × Int32 × CS) : c_Integer_getChars_l1 Zd K a2 (n9 + 1) e9 = (if ((-100) : Int32) < e9.1 then (some (e9.1, e9.2.1, e9.2.2)) else ((some (e9.1 / (100 : Int32))).bind fun y42 => (some (y42 * (100 : Int32))).bind fun y43 => (some (y43 - e9.1)).bind fun y44 => (some (e9.2.1 + (-1))).bind fun y45 => (rA K e9.2.2 (Zd 2) 2 y44).bind fun x46 => a2.bind fun a47z => (wA e9.2.2 a47z 2 y45 (vp_nar .byte x46)).bind fun st48 => (some (y45 + (-1))).bind fun y49 => (rA K st48 (Zd 3) 2 y44).bind fun x50 => (wA st48 a47z 2 y49 (vp_nar .byte x50)).bind fun st51 => c_Integer_getChars_l1 Zd K a2 n9 (y42, y49, st51))) := rfl
def c_Integer_getChars (Zd : Nat → Nat) (K : KE) (a0 : Int32) (a1 : Int32) (a2 : Option Nat) (st : CS) : Option (Int32 × CS) := (if (0 : Int32) ≤ a0 then (some (0 : Int32)) else (some (1 : Int32))).bind fun e11 => (if e11 = (0 : Int32) then ((some (-a0)).bind fun y53 => some y53) else (some a0)).bind fun e13 => (c_Integer_getChars_l1 Zd K a2 4096 (e13, a1, st)).bind fun e15 => (some (e15.2.1 + (-1))).bind fun y22 => (some (-e15.1)).bind fun y23 => (rA K e15.2.2 (Zd 2) 2 y23).bind fun x24 => a2.bind fun a25z => (wA e15.2.2 a25z 2 y22 (vp_nar .byte x24)).bind fun st26 => (if ((-9) : Int32) ≤ e15.1 then (some (y22, st26)) else ((some (y22 + (-1))).bind fun y37 => (some (-e15.1)).bind fun y38 => (rA K st26 (Zd 3) 2 y38).bind fun x39 => (wA st26 a25z 2 y37 (vp_nar .byte x39)).bind fun st40 => some (y37, st40))).bind fun e27 => (if e11 = (0 : Int32) then (some (e27.1, e27.2)) else ((some (e27.1 + (-1))).bind fun y34 => (wA e27.2 a25z 2 y34 (vp_nar .byte (45 : Int32))).bind fun st35 => some (y34, st35))).bind fun e30 => some (e30.1, e30.2)
set_option maxHeartbeats 4000000 in
set_option maxRecDepth 100000 in
theorem cc_Integer_getChars (l : Launch) (G : Gk) (Zd : Nat → Nat) (K : KE) (a0 : Int32) (a1 : Int32) (a2 : Option Nat) (st : CS) (r0 : Int32) (st0 : CS) (hm : c_Integer_getChars Zd K a0 a1 a2 st = some (r0, st0)) : CT l y19_12 prog_19_method_12_code 7 (some .int) G Zd K (0) [.int a0, .int a1, va_rf a2] st (hI G Zd r0 st0) := by
  refine goH (d := 0) (y := y19_12) (cc := prog_19_method_12_code) (maxL := 7) (ret := (some .int)) (av := [.int a0, .int a1, va_rf a2]) (Qc := hI G Zd r0 st0) "java/lang/Integer" rfl (by decide) (c1_c rfl (c1_c rfl (c1_c (rf_cat _) c1_n))) (Nat.le_of_ble_eq_true rfl) ?_
  intro p e s m below meth c ls A args Q hQ hx hb hr hlk hml hown hts hin hl hE hw
  have hl : lw ls 7 [(0, .int a0), (1, .int a1), (2, va_rf a2)] := hl
  have hZ := hE.2.2.1
  have h := hm
  clear hm
  refine lv_iload_n hx hb d19_12_0 rfl (lv_at hl.1 1 rfl) ?_
  refine xt_istore (x := a1) (lv' := [(5, .int a1), (0, .int a0), (1, .int a1), (2, va_rf a2)]) hx hb d19_12_1 hl (by decide) rfl (fun ls hl => ?_)
  refine lv_iload_n hx hb d19_12_3 rfl (lv_at hl.1 1 rfl) ?_
  obtain ⟨e11, hX, h⟩ := ob h
  have hj : ∀ (H : Heap) (locs : List Loc) (cells slots : Nat) (ls : Array Slot), lw ls 7 [(0, .int a0), (1, .int a1), (2, va_rf a2), (5, .int a1)] → wsH G Zd A s st H locs → W p l e (rmH Zd (0) st.1) s m args below meth c H locs cells slots Q (F0 m 12 ls [.int e11]) := by
    intro H locs cells slots ls hl hw
    refine xt_istore (x := e11) (lv' := [(6, .int e11), (0, .int a0), (1, .int a1), (2, va_rf a2), (5, .int a1)]) hx hb d19_12_12 hl (by decide) rfl (fun ls hl => ?_)
    refine lv_iload hx hb d19_12_14 (lv_at hl.1 0 rfl) ?_
    obtain ⟨e13, hX, h⟩ := ob h
    have hj : ∀ (H : Heap) (locs : List Loc) (cells slots : Nat) (ls : Array Slot), lw ls 7 [(0, .int e13), (1, .int a1), (2, va_rf a2), (5, .int a1), (6, .int e11)] → wsH G Zd A s st H locs → W p l e (rmH Zd (0) st.1) s m args below meth c H locs cells slots Q (F0 m 22 ls []) := by
      intro H locs cells slots ls hl hw
      obtain ⟨e15, hX, hrest⟩ := ob h
      clear h
      have hj : ∀ (v19 : Int32) (v20 : Int32) (v21 : CS), e15 = (v19, v20, v21) → ∀ (H : Heap) (locs : List Loc) (cells slots : Nat) (ls : Array Slot), lw ls 7 [(0, .int v19), (1, .int a1), (2, va_rf a2), (5, .int v20), (6, .int e11)] → wsH G Zd A s v21 H locs → W p l e (rmH Zd (0) st.1) s m args below meth c H locs cells slots Q (F0 m 72 ls []) := by
        intro v19 v20 v21 he H locs cells slots ls hl hw
        subst e15
        have h := hrest
        clear hrest
        refine xq_aload_n (r := a2) hx hb d19_12_72 rfl (lv_at hl.1 2 rfl) ?_
        obtain ⟨y22, hr, h⟩ := ob h
        refine xt_iinc (k := 3) (v := y22) (lv' := [(5, .int y22), (0, .int v19), (1, .int a1), (2, va_rf a2), (6, .int e11)]) hx hb d19_12_73 hl rfl hr (by decide) rfl (fun ls hl => ?_)
        clear hr
        refine lv_iload hx hb d19_12_76 (lv_at hl.1 0 rfl) ?_
        refine va_gets (ref := "java/lang/Integer") hx hb hZ.2.1.2.2.1 hw.2.2.2 hown (hts _ (List.mem_cons_of_mem _ k1066)) (fun _ h9 => h9) d19_12_78 ?_
        refine W.eq (g2 := F0 m 81 ls [.ref (Zd 2), .int y22, va_rf a2]) rfl ?_
        refine lv_iload_n hx hb d19_12_81 rfl (lv_at hl.1 1 rfl) ?_
        refine lv_ineg hx hb d19_12_82 ?_
        obtain ⟨y23, hr, h⟩ := ob h
        refine lv_topi (fun y9 ey => ?_)
        have e9 := ey.trans (Option.some.inj hr)
        clear ey
        subst y9
        clear hr
        obtain ⟨x24, hr, h⟩ := ob h
        refine xa_b hx hb hE hw (i := y23) hr d19_12_83 ?_
        clear hr
        obtain ⟨a25z, hn25, h⟩ := ob h
        have hn25 : a2 = some a25z := hn25
        refine W.eq (g2 := F0 m 84 ls [.int x24, .int y22, .ref a25z]) (by rw [hn25]; rfl) ?_
        obtain ⟨st26, hr, h⟩ := ob h
        refine xs_b hx hb hE hw (i := y22) (v := x24) hr d19_12_84 (fun H locs hw => ?_)
        clear hr
        refine lv_iload_n hx hb d19_12_85 rfl (lv_at hl.1 1 rfl) ?_
        refine lv_bipush (v := (-9)) hx hb d19_12_86 (by decide) ?_
        obtain ⟨e27, hX, h⟩ := ob h
        obtain ⟨v28, v29⟩ := e27
        have hj : ∀ (H : Heap) (locs : List Loc) (cells slots : Nat) (ls : Array Slot), lw ls 7 [(0, .int v19), (1, .int a1), (2, va_rf a2), (5, .int v28), (6, .int e11)] → wsH G Zd A s v29 H locs → W p l e (rmH Zd (0) st.1) s m args below meth c H locs cells slots Q (F0 m 104 ls []) := by
          intro H locs cells slots ls hl hw
          refine lv_iload hx hb d19_12_104 (lv_at hl.1 4 rfl) ?_
          obtain ⟨e30, hX, h⟩ := ob h
          obtain ⟨v31, v32⟩ := e30
          have hj : ∀ (H : Heap) (locs : List Loc) (cells slots : Nat) (ls : Array Slot), lw ls 7 [(0, .int v19), (1, .int a1), (2, va_rf a2), (5, .int v31), (6, .int e11)] → wsH G Zd A s v32 H locs → W p l e (rmH Zd (0) st.1) s m args below meth c H locs cells slots Q (F0 m 118 ls []) := by
            intro H locs cells slots ls hl hw
            refine lv_iload hx hb d19_12_118 (lv_at hl.1 3 rfl) ?_
            cases h
            exact finH_i hQ hx hb hr hlk hE hw d19_12_120
          clear h
          refine lv_if_eq (tgt := 118) hx hb d19_12_106 rfl (fun c33 => ?_) (fun c33 => ?_)
          ·
            replace h := (if_pos c33).symm.trans hX
            have e9_0 := Option.some.inj h
            obtain ⟨q9, e9_1⟩ := Prod.mk.inj e9_0
            clear e9_0
            subst v31
            subst v32
            have hl := lw_sub hl (l' := [(0, .int v19), (1, .int a1), (2, va_rf a2), (5, .int v28), (6, .int e11)]) [0, 1, 2, 3, 4] rfl
            exact hj _ _ _ _ _ hl hw
          ·
            replace h := (if_neg c33).symm.trans hX
            refine xq_aload_n (r := a2) hx hb d19_12_109 rfl (lv_at hl.1 2 rfl) ?_
            obtain ⟨y34, hr, h⟩ := ob h
            refine xt_iinc (k := 3) (v := y34) (lv' := [(5, .int y34), (0, .int v19), (1, .int a1), (2, va_rf a2), (6, .int e11)]) hx hb d19_12_110 hl rfl hr (by decide) rfl (fun ls hl => ?_)
            clear hr
            refine lv_iload hx hb d19_12_113 (lv_at hl.1 0 rfl) ?_
            refine lv_bipush (v := 45) hx hb d19_12_115 (by decide) ?_
            refine W.eq (g2 := F0 m 117 ls [.int 45, .int y34, .ref a25z]) (by rw [hn25]; rfl) ?_
            obtain ⟨st35, hr, h⟩ := ob h
            refine xs_b hx hb hE hw (i := y34) (v := (45 : Int32)) hr d19_12_117 (fun H locs hw => ?_)
            clear hr
            have e9_0 := Option.some.inj h
            obtain ⟨q9, e9_1⟩ := Prod.mk.inj e9_0
            clear e9_0
            subst v31
            subst v32
            have hl := lw_sub hl (l' := [(0, .int v19), (1, .int a1), (2, va_rf a2), (5, .int y34), (6, .int e11)]) [1, 2, 3, 0, 4] rfl
            exact hj _ _ _ _ _ hl hw
        clear h
        refine lv_icmp_ge (tgt := 104) hx hb d19_12_88 rfl (fun c36 => ?_) (fun c36 => ?_)
        ·
          replace h := (if_pos c36).symm.trans hX
          have e9_0 := Option.some.inj h
          obtain ⟨q9, e9_1⟩ := Prod.mk.inj e9_0
          clear e9_0
          subst v28
          subst v29
          have hl := lw_sub hl (l' := [(0, .int v19), (1, .int a1), (2, va_rf a2), (5, .int y22), (6, .int e11)]) [1, 2, 3, 0, 4] rfl
          exact hj _ _ _ _ _ hl hw
        ·
          replace h := (if_neg c36).symm.trans hX
          refine xq_aload_n (r := a2) hx hb d19_12_91 rfl (lv_at hl.1 3 rfl) ?_
          obtain ⟨y37, hr, h⟩ := ob h
          refine xt_iinc (k := 0) (v := y37) (lv' := [(5, .int y37), (0, .int v19), (1, .int a1), (2, va_rf a2), (6, .int e11)]) hx hb d19_12_92 hl rfl hr (by decide) rfl (fun ls hl => ?_)
          clear hr
          refine lv_iload hx hb d19_12_95 (lv_at hl.1 0 rfl) ?_
          refine va_gets (ref := "java/lang/Integer") hx hb hZ.2.1.2.2.2.1 hw.2.2.2 hown (hts _ (List.mem_cons_of_mem _ k1068)) (fun _ h9 => h9) d19_12_97 ?_
          refine W.eq (g2 := F0 m 100 ls [.ref (Zd 3), .int y37, va_rf a2]) rfl ?_
          refine lv_iload_n hx hb d19_12_100 rfl (lv_at hl.1 1 rfl) ?_
          refine lv_ineg hx hb d19_12_101 ?_
          obtain ⟨y38, hr, h⟩ := ob h
          refine lv_topi (fun y9 ey => ?_)
          have e9 := ey.trans (Option.some.inj hr)
          clear ey
          subst y9
          clear hr
          obtain ⟨x39, hr, h⟩ := ob h
          refine xa_b hx hb hE hw (i := y38) hr d19_12_102 ?_
          clear hr
          refine W.eq (g2 := F0 m 103 ls [.int x39, .int y37, .ref a25z]) (by rw [hn25]; rfl) ?_
          obtain ⟨st40, hr, h⟩ := ob h
          refine xs_b hx hb hE hw (i := y37) (v := x39) hr d19_12_103 (fun H locs hw => ?_)
          clear hr
          have e9_0 := Option.some.inj h
          obtain ⟨q9, e9_1⟩ := Prod.mk.inj e9_0
          clear e9_0
          subst v28
          subst v29
          have hl := lw_sub hl (l' := [(0, .int v19), (1, .int a1), (2, va_rf a2), (5, .int y37), (6, .int e11)]) [1, 2, 3, 0, 4] rfl
          exact hj _ _ _ _ _ hl hw
      have hloop : ∀ (n9 : Nat) (v16 : Int32) (v17 : Int32) (v18 : CS), c_Integer_getChars_l1 Zd K a2 n9 (v16, v17, v18) = some e15 → ∀ (H : Heap) (locs : List Loc) (cells slots : Nat) (ls : Array Slot), lw ls 7 [(0, .int v16), (1, .int a1), (2, va_rf a2), (5, .int v17), (6, .int e11)] → wsH G Zd A s v18 H locs → W p l e (rmH Zd (0) st.1) s m args below meth c H locs cells slots Q (F0 m 22 ls []) := by
        intro n9
        induction n9 with
        | zero =>
          intro v16 v17 v18 h
          cases h
        | succ n9 ih =>
          intro v16 v17 v18 h H locs cells slots ls hl hw
          replace h := (c_Integer_getChars_l1_s Zd K a2 n9 (v16, v17, v18)).symm.trans h
          refine lv_iload_n hx hb d19_12_22 rfl (lv_at hl.1 0 rfl) ?_
          refine lv_bipush (v := (-100)) hx hb d19_12_23 (by decide) ?_
          refine lv_icmp_gt (tgt := 72) hx hb d19_12_25 rfl (fun c41 => ?_) (fun c41 => ?_)
          ·
            replace h := (if_pos c41).symm.trans h
            have e9 := Option.some.inj h
            subst e15
            have hl := lw_sub hl (l' := [(0, .int v16), (1, .int a1), (2, va_rf a2), (5, .int v17), (6, .int e11)]) [0, 1, 2, 3, 4] rfl
            exact hj _ _ _ rfl _ _ _ _ _ hl hw
          ·
            replace h := (if_neg c41).symm.trans h
            refine lv_iload_n hx hb d19_12_28 rfl (lv_at hl.1 0 rfl) ?_
            refine lv_bipush (v := 100) hx hb d19_12_29 (by decide) ?_
            refine lv_idiv hx hb d19_12_31 (by decide) ?_
            obtain ⟨y42, hr, h⟩ := ob h
            refine lv_topi (fun y9 ey => ?_)
            have e9 := ey.trans (Option.some.inj hr)
            clear ey
            subst y9
            clear hr
            refine xt_istore_n (x := y42) (lv' := [(3, .int y42), (0, .int v16), (1, .int a1), (2, va_rf a2), (5, .int v17), (6, .int e11)]) hx hb d19_12_32 rfl hl (by decide) rfl (fun ls hl => ?_)
            refine lv_iload_n hx hb d19_12_33 rfl (lv_at hl.1 0 rfl) ?_
            refine lv_bipush (v := 100) hx hb d19_12_34 (by decide) ?_
            refine lv_imul hx hb d19_12_36 ?_
            obtain ⟨y43, hr, h⟩ := ob h
            refine lv_topi (fun y9 ey => ?_)
            have e9 := ey.trans (Option.some.inj hr)
            clear ey
            subst y9
            clear hr
            refine lv_iload_n hx hb d19_12_37 rfl (lv_at hl.1 1 rfl) ?_
            refine lv_isub hx hb d19_12_38 ?_
            obtain ⟨y44, hr, h⟩ := ob h
            refine lv_topi (fun y9 ey => ?_)
            have e9 := ey.trans (Option.some.inj hr)
            clear ey
            subst y9
            clear hr
            refine xt_istore (x := y44) (lv' := [(4, .int y44), (3, .int y42), (0, .int v16), (1, .int a1), (2, va_rf a2), (5, .int v17), (6, .int e11)]) hx hb d19_12_39 hl (by decide) rfl (fun ls hl => ?_)
            refine lv_iload_n hx hb d19_12_41 rfl (lv_at hl.1 1 rfl) ?_
            refine xt_istore_n (x := y42) (lv' := [(0, .int y42), (4, .int y44), (3, .int y42), (1, .int a1), (2, va_rf a2), (5, .int v17), (6, .int e11)]) hx hb d19_12_42 rfl hl (by decide) rfl (fun ls hl => ?_)
            refine xq_aload_n (r := a2) hx hb d19_12_43 rfl (lv_at hl.1 4 rfl) ?_
            obtain ⟨y45, hr, h⟩ := ob h
            refine xt_iinc (k := 5) (v := y45) (lv' := [(5, .int y45), (0, .int y42), (4, .int y44), (3, .int y42), (1, .int a1), (2, va_rf a2), (6, .int e11)]) hx hb d19_12_44 hl rfl hr (by decide) rfl (fun ls hl => ?_)
            clear hr
            refine lv_iload hx hb d19_12_47 (lv_at hl.1 0 rfl) ?_
            refine va_gets (ref := "java/lang/Integer") hx hb hZ.2.1.2.2.1 hw.2.2.2 hown (hts _ (List.mem_cons_of_mem _ k1066)) (fun _ h9 => h9) d19_12_49 ?_
            refine W.eq (g2 := F0 m 52 ls [.ref (Zd 2), .int y45, va_rf a2]) rfl ?_
            refine lv_iload hx hb d19_12_52 (lv_at hl.1 2 rfl) ?_
            obtain ⟨x46, hr, h⟩ := ob h
            refine xa_b hx hb hE hw (i := y44) hr d19_12_54 ?_
            clear hr
            obtain ⟨a47z, hn47, h⟩ := ob h
            have hn47 : a2 = some a47z := hn47
            refine W.eq (g2 := F0 m 55 ls [.int x46, .int y45, .ref a47z]) (by rw [hn47]; rfl) ?_
            obtain ⟨st48, hr, h⟩ := ob h
            refine xs_b hx hb hE hw (i := y45) (v := x46) hr d19_12_55 (fun H locs hw => ?_)
            clear hr
            refine xq_aload_n (r := a2) hx hb d19_12_56 rfl (lv_at hl.1 5 rfl) ?_
            obtain ⟨y49, hr, h⟩ := ob h
            refine xt_iinc (k := 0) (v := y49) (lv' := [(5, .int y49), (0, .int y42), (4, .int y44), (3, .int y42), (1, .int a1), (2, va_rf a2), (6, .int e11)]) hx hb d19_12_57 hl rfl hr (by decide) rfl (fun ls hl => ?_)
            clear hr
            refine lv_iload hx hb d19_12_60 (lv_at hl.1 0 rfl) ?_
            refine va_gets (ref := "java/lang/Integer") hx hb hZ.2.1.2.2.2.1 hw.2.2.2 hown (hts _ (List.mem_cons_of_mem _ k1068)) (fun _ h9 => h9) d19_12_62 ?_
            refine W.eq (g2 := F0 m 65 ls [.ref (Zd 3), .int y49, va_rf a2]) rfl ?_
            refine lv_iload hx hb d19_12_65 (lv_at hl.1 2 rfl) ?_
            obtain ⟨x50, hr, h⟩ := ob h
            refine xa_b hx hb hE hw (i := y44) hr d19_12_67 ?_
            clear hr
            refine W.eq (g2 := F0 m 68 ls [.int x50, .int y49, .ref a47z]) (by rw [hn47]; rfl) ?_
            obtain ⟨st51, hr, h⟩ := ob h
            refine xs_b hx hb hE hw (i := y49) (v := x50) hr d19_12_68 (fun H locs hw => ?_)
            clear hr
            refine lv_goto (tgt := 22) hx hb d19_12_69 rfl ?_
            have hl := lw_sub hl (l' := [(0, .int y42), (1, .int a1), (2, va_rf a2), (5, .int y49), (6, .int e11)]) [1, 4, 5, 0, 6] rfl
            exact ih _ _ _ h _ _ _ _ _ hl hw
      have hl := lw_sub hl (l' := [(0, .int e13), (1, .int a1), (2, va_rf a2), (5, .int a1), (6, .int e11)]) [0, 1, 2, 3, 4] rfl
      exact hloop _ _ _ _ hX _ _ _ _ _ hl hw
    clear h
    refine lv_if_ne (tgt := 22) hx hb d19_12_16 rfl (fun c52 => ?_) (fun c52 => ?_)
    ·
      replace h := (if_neg c52).symm.trans hX
      have e9 := Option.some.inj h
      subst e13
      have hl := lw_sub hl (l' := [(0, .int a0), (1, .int a1), (2, va_rf a2), (5, .int a1), (6, .int e11)]) [1, 2, 3, 4, 0] rfl
      exact hj _ _ _ _ _ hl hw
    ·
      replace h := (if_pos c52).symm.trans hX
      refine lv_iload_n hx hb d19_12_19 rfl (lv_at hl.1 1 rfl) ?_
      refine lv_ineg hx hb d19_12_20 ?_
      obtain ⟨y53, hr, h⟩ := ob h
      refine lv_topi (fun y9 ey => ?_)
      have e9 := ey.trans (Option.some.inj hr)
      clear ey
      subst y9
      clear hr
      refine xt_istore_n (x := y53) (lv' := [(0, .int y53), (6, .int e11), (1, .int a1), (2, va_rf a2), (5, .int a1)]) hx hb d19_12_21 rfl hl (by decide) rfl (fun ls hl => ?_)
      have e9 := Option.some.inj h
      subst e13
      have hl := lw_sub hl (l' := [(0, .int y53), (1, .int a1), (2, va_rf a2), (5, .int a1), (6, .int e11)]) [0, 2, 3, 4, 1] rfl
      exact hj _ _ _ _ _ hl hw
  clear h
  refine lv_if_ge (tgt := 11) hx hb d19_12_4 rfl (fun c54 => ?_) (fun c54 => ?_)
  ·
    replace h := (if_pos c54).symm.trans hX
    refine lv_iconst (v := 0) hx hb d19_12_11 (by decide) ?_
    have e9 := Option.some.inj h
    subst e11
    have hl := lw_sub hl (l' := [(0, .int a0), (1, .int a1), (2, va_rf a2), (5, .int a1)]) [1, 2, 3, 0] rfl
    exact hj _ _ _ _ _ hl hw
  ·
    replace h := (if_neg c54).symm.trans hX
    refine lv_iconst (v := 1) hx hb d19_12_7 (by decide) ?_
    refine lv_goto (tgt := 12) hx hb d19_12_8 rfl ?_
    have e9 := Option.some.inj h
    subst e11
    have hl := lw_sub hl (l' := [(0, .int a0), (1, .int a1), (2, va_rf a2), (5, .int a1)]) [1, 2, 3, 0] rfl
    exact hj _ _ _ _ _ hl hw
def c_AbstractStringBuilder_append_I (Zd : Nat → Nat) (K : KE) (o : Nat) (a0 : Int32) (st : CS) : Option (Option Nat × CS) := (gI K st o 2 3).bind fun x11 => (c_Integer_stringSize Zd K a0 st).bind fun x12 => (some (x11 + x12)).bind fun y15 => (isO K st o 2).bind fun _ => (c_AbstractStringBuilder_ensureCapacityInternal Zd K o y15 st).bind fun st17 => (isO K st17 o 2).bind fun _ => (c_AbstractStringBuilder_isLatin1 Zd K o st17).bind fun x19 => if x19 = (0 : Int32) then ((gQ K st17 o 2 0).bind fun x23 => none) else ((gQ K st17 o 2 0).bind fun x24 => (c_Integer_getChars Zd K a0 y15 x24 st17).bind fun r27 => (sF r27.2 o 2 3 (.int y15)).bind fun st28 => some (some o, st28))
set_option maxHeartbeats 4000000 in
set_option maxRecDepth 100000 in
theorem cc_AbstractStringBuilder_append_I (l : Launch) (G : Gk) (Zd : Nat → Nat) (K : KE) (o : Nat) (a0 : Int32) (st : CS) (r0 : Option Nat) (st0 : CS) (hm : c_AbstractStringBuilder_append_I Zd K o a0 st = some (r0, st0)) : CT l y16_32 prog_16_method_32_code 4 (some (.object "java/lang/AbstractStringBuilder")) G Zd K (4) [.ref o, .int a0] st (hQ G Zd r0 st0) := by
  refine goH (d := 4) (y := y16_32) (cc := prog_16_method_32_code) (maxL := 4) (ret := (some (.object "java/lang/AbstractStringBuilder"))) (av := [.ref o, .int a0]) (Qc := hQ G Zd r0 st0) "java/lang/AbstractStringBuilder" rfl (by decide) (c1_c rfl (c1_c rfl c1_n)) (Nat.le_of_ble_eq_true rfl) ?_
  intro p e s m below meth c ls A args Q hQ hx hb hr hlk hml hown hts hin hl hE hw
  have hl : lw ls 4 [(0, .ref o), (1, .int a0)] := hl
  have hZ := hE.2.2.1
  have h := hm
  clear hm
  refine lv_aload_n hx hb d16_32_0 rfl (lv_at hl.1 0 rfl) ?_
  obtain ⟨x11, hr, h⟩ := ob h
  refine xg_i (ci := 2) (C := r_2) (T := f_2) (N := 4) (ref := "java/lang/AbstractStringBuilder") hx hb hts (fun w h => List.mem_cons_of_mem _ (ly_2 w h)) hown hE hw rfl 3 (by decide) (hts _ (List.mem_cons_of_mem _ k63)) (fun _ h9 => h9) hr d16_32_1 ?_
  clear hr
  refine xt_istore_n (x := x11) (lv' := [(2, .int x11), (0, .ref o), (1, .int a0)]) hx hb d16_32_4 rfl hl (by decide) rfl (fun ls hl => ?_)
  refine lv_iload_n hx hb d16_32_5 rfl (lv_at hl.1 0 rfl) ?_
  refine lv_iload_n hx hb d16_32_6 rfl (lv_at hl.1 2 rfl) ?_
  obtain ⟨x12, hc, h⟩ := ob h
  refine hS_i (As := [.int a0]) (rest := [.int x11]) ⟨hx, hb, hml, hown, hts⟩ (cc_Integer_stringSize l G Zd K a0 st x12 hc) (kw_S (n := 1) hts k1062 k1060 k26 k1061 (by decide +kernel) ⟨Nat.le_of_ble_eq_true rfl, Nat.le_of_ble_eq_true rfl⟩) hE hw rfl hl.1.1 rfl (c1_8 (c1_c rfl c1_n) (Nat.le_of_ble_eq_true rfl)) d16_32_7 (fun H locs cells slots hw => ?_)
  clear hc
  refine W.eq (g2 := F0 m 10 ls [.int x12, .int x11]) rfl ?_
  refine lv_iadd hx hb d16_32_10 ?_
  obtain ⟨y15, hr, h⟩ := ob h
  refine lv_topi (fun y9 ey => ?_)
  have e9 := ey.trans (Option.some.inj hr)
  clear ey
  subst y9
  clear hr
  refine xt_istore_n (x := y15) (lv' := [(3, .int y15), (2, .int x11), (0, .ref o), (1, .int a0)]) hx hb d16_32_11 rfl hl (by decide) rfl (fun ls hl => ?_)
  refine lv_aload_n hx hb d16_32_12 rfl (lv_at hl.1 2 rfl) ?_
  refine lv_iload_n hx hb d16_32_13 rfl (lv_at hl.1 0 rfl) ?_
  obtain ⟨u9, ho, h⟩ := ob h
  obtain ⟨st17, hc, h⟩ := ob h
  refine hU_v (ci := 2) (As := [.int y15]) (rest := []) ⟨hx, hb, hml, hown, hts⟩ (cc_AbstractStringBuilder_ensureCapacityInternal l G Zd K o y15 st st17 hc) (kw_U (n := 1) (C := "java/lang/StringBuilder") (owner := "java/lang/AbstractStringBuilder") (x0 := y16_9) hts k405 k402 k3 k404 k1655 (sel_priv (hts _ (List.mem_cons_of_mem _ k440)) rfl (hZ.2.2.2 _ (List.mem_of_getElem? (i := 0) rfl)) (hts _ (List.mem_cons_of_mem _ k404)) (by decide)) (va_Decl.of (hts _ (List.mem_cons_of_mem _ k404)) (hts _ (List.mem_cons_of_mem _ k405))) (by decide +kernel) ⟨Nat.le_of_ble_eq_true rfl, Nat.le_of_ble_eq_true rfl⟩) hE hw rfl rfl ho rfl hl.1.1 rfl (c1_8 c1_n (Nat.le_of_ble_eq_true rfl)) d16_32_14 (fun H locs cells slots hw => ?_)
  clear hc ho u9
  refine W.eq (g2 := F0 m 17 ls []) rfl ?_
  refine lv_aload_n hx hb d16_32_17 rfl (lv_at hl.1 2 rfl) ?_
  obtain ⟨u9, ho, h⟩ := ob h
  obtain ⟨x19, hc, h⟩ := ob h
  refine hU_i (ci := 2) (As := []) (rest := []) ⟨hx, hb, hml, hown, hts⟩ (cc_AbstractStringBuilder_isLatin1 l G Zd K o st17 x19 hc) (kw_U (n := 0) (C := "java/lang/StringBuilder") (owner := "java/lang/AbstractStringBuilder") (x0 := y16_68) hts k441 k437 k3 k438 k439 (hts _ (List.mem_cons_of_mem _ k440)) (va_Decl.of (hts _ (List.mem_cons_of_mem _ k438)) (hts _ (List.mem_cons_of_mem _ k441))) (by decide +kernel) ⟨Nat.le_of_ble_eq_true rfl, Nat.le_of_ble_eq_true rfl⟩) hE hw rfl rfl ho rfl hl.1.1 rfl (c1_8 c1_n (Nat.le_of_ble_eq_true rfl)) d16_32_18 (fun H locs cells slots hw => ?_)
  clear hc ho u9
  refine W.eq (g2 := F0 m 21 ls [.int x19]) rfl ?_
  refine lv_if_eq (tgt := 37) hx hb d16_32_21 rfl (fun c22 => ?_) (fun c22 => ?_)
  ·
    replace h := (if_pos c22).symm.trans h
    refine lv_iload_n hx hb d16_32_37 rfl (lv_at hl.1 3 rfl) ?_
    refine lv_iload_n hx hb d16_32_38 rfl (lv_at hl.1 1 rfl) ?_
    refine lv_iload_n hx hb d16_32_39 rfl (lv_at hl.1 0 rfl) ?_
    refine lv_aload_n hx hb d16_32_40 rfl (lv_at hl.1 2 rfl) ?_
    obtain ⟨x23, hr, h⟩ := ob h
    refine xg_q (ci := 2) (C := r_2) (T := f_2) (N := 4) (ref := "java/lang/AbstractStringBuilder") hx hb hts (fun w h => List.mem_cons_of_mem _ (ly_2 w h)) hown hE hw rfl 0 (by decide) (hts _ (List.mem_cons_of_mem _ k59)) (fun _ h9 => h9) hr d16_32_41 ?_
    clear hr
    cases h
  ·
    replace h := (if_neg c22).symm.trans h
    refine lv_iload_n hx hb d16_32_24 rfl (lv_at hl.1 3 rfl) ?_
    refine lv_iload_n hx hb d16_32_25 rfl (lv_at hl.1 0 rfl) ?_
    refine lv_aload_n hx hb d16_32_26 rfl (lv_at hl.1 2 rfl) ?_
    obtain ⟨x24, hr, h⟩ := ob h
    refine xg_q (ci := 2) (C := r_2) (T := f_2) (N := 4) (ref := "java/lang/AbstractStringBuilder") hx hb hts (fun w h => List.mem_cons_of_mem _ (ly_2 w h)) hown hE hw rfl 0 (by decide) (hts _ (List.mem_cons_of_mem _ k59)) (fun _ h9 => h9) hr d16_32_27 ?_
    clear hr
    obtain ⟨⟨x25, st26⟩, hc, h⟩ := ob h
    refine hS_i (As := [.int a0, .int y15, va_rf x24]) (rest := []) ⟨hx, hb, hml, hown, hts⟩ (cc_Integer_getChars l G Zd K a0 y15 x24 st17 x25 st26 hc) (kw_S (n := 3) hts k1065 k1063 k26 k1064 (by decide +kernel) ⟨Nat.le_of_ble_eq_true rfl, Nat.le_of_ble_eq_true rfl⟩) hE hw rfl hl.1.1 rfl (c1_8 c1_n (Nat.le_of_ble_eq_true rfl)) d16_32_30 (fun H locs cells slots hw => ?_)
    clear hc
    refine W.eq (g2 := F0 m 33 ls [.int x25]) rfl ?_
    refine lv_pop hx hb d16_32_33 rfl ?_
    refine lv_goto (tgt := 48) hx hb d16_32_34 rfl ?_
    refine lv_aload_n hx hb d16_32_48 rfl (lv_at hl.1 2 rfl) ?_
    refine lv_iload_n hx hb d16_32_49 rfl (lv_at hl.1 0 rfl) ?_
    obtain ⟨st28, hr, h⟩ := ob h
    refine xp (ci := 2) (ty := .int) (C := r_2) (T := f_2) (N := 4) (ref := "java/lang/AbstractStringBuilder") hx hb hts (fun w h => List.mem_cons_of_mem _ (ly_2 w h)) ft_2 ft_2_ok nm_2 hown hE hw rfl 3 (by decide) (hts _ (List.mem_cons_of_mem _ k63)) (fun _ h9 => h9) rfl hr (by decide +kernel) rfl rfl d16_32_50 (fun H locs hw => ?_)
    clear hr
    refine lv_aload_n hx hb d16_32_53 rfl (lv_at hl.1 2 rfl) ?_
    cases h
    exact finH_q hQ hx hb hr hlk rfl (Or.inl ⟨_, rfl⟩) hE hw d16_32_54
def c_StringBuilder_append_I (Zd : Nat → Nat) (K : KE) (o : Nat) (a0 : Int32) (st : CS) : Option (Option Nat × CS) := (isO K st o 2).bind fun _ => (c_AbstractStringBuilder_append_I Zd K o a0 st).bind fun r13 => some (some o, r13.2)
set_option maxHeartbeats 4000000 in
set_option maxRecDepth 100000 in
theorem cc_StringBuilder_append_I (l : Launch) (G : Gk) (Zd : Nat → Nat) (K : KE) (o : Nat) (a0 : Int32) (st : CS) (r0 : Option Nat) (st0 : CS) (hm : c_StringBuilder_append_I Zd K o a0 st = some (r0, st0)) : CT l y22_15 prog_22_method_15_code 2 (some (.object "java/lang/StringBuilder")) G Zd K (5) [.ref o, .int a0] st (hQ G Zd r0 st0) := by
  refine goH (d := 5) (y := y22_15) (cc := prog_22_method_15_code) (maxL := 2) (ret := (some (.object "java/lang/StringBuilder"))) (av := [.ref o, .int a0]) (Qc := hQ G Zd r0 st0) "java/lang/StringBuilder" rfl (by decide) (c1_c rfl (c1_c rfl c1_n)) (Nat.le_of_ble_eq_true rfl) ?_
  intro p e s m below meth c ls A args Q hQ hx hb hr hlk hml hown hts hin hl hE hw
  have hl : lw ls 2 [(0, .ref o), (1, .int a0)] := hl
  have hZ := hE.2.2.1
  have h := hm
  clear hm
  refine lv_aload_n hx hb d22_15_0 rfl (lv_at hl.1 0 rfl) ?_
  refine lv_iload_n hx hb d22_15_1 rfl (lv_at hl.1 1 rfl) ?_
  obtain ⟨u9, ho, h⟩ := ob h
  obtain ⟨⟨x11, st12⟩, hc, h⟩ := ob h
  refine hSU_q (ci := 2) (As := [.int a0]) (rest := []) ⟨hx, hb, hml, hown, hts⟩ (cc_AbstractStringBuilder_append_I l G Zd K o a0 st x11 st12 hc) (kw_SU (n := 1) hts k1059 k1057 k3 k1058 k1663 k72 (by decide +kernel) ⟨Nat.le_of_ble_eq_true rfl, Nat.le_of_ble_eq_true rfl⟩) hE hw rfl rfl ho rfl hl.1.1 rfl (c1_8 c1_n (Nat.le_of_ble_eq_true rfl)) d22_15_2 (fun H locs cells slots hw => ?_)
  clear hc ho u9
  refine W.eq (g2 := F0 m 5 ls [va_rf x11]) rfl ?_
  refine lv_pop hx hb d22_15_5 (rf_cat _) ?_
  refine lv_aload_n hx hb d22_15_6 rfl (lv_at hl.1 0 rfl) ?_
  cases h
  exact finH_q hQ hx hb hr hlk rfl (Or.inl ⟨_, rfl⟩) hE hw d22_15_7
theorem d22_42_0 : decode prog_22_method_42_code 0 = .ok (.new 18, 3) := by decide +kernel
theorem k461 : (Jvm.Cond.classLink "java/lang/StringBuilder" (18 : Nat) "java/lang/String") ∈ TB := tk_2 221 rfl rfl
theorem k462 : (Jvm.Cond.instantiable "java/lang/String" (4 : Nat)) ∈ TB := tk_2 222 rfl rfl
theorem d22_42_3 : decode prog_22_method_42_code 3 = .ok (.dup, 1) := by decide +kernel
theorem d22_42_4 : decode prog_22_method_42_code 4 = .ok (.aload_n 0, 1) := by decide +kernel
theorem d22_42_5 : decode prog_22_method_42_code 5 = .ok (.invokespecial 137, 3) := by decide +kernel
theorem d21_53_0 : decode prog_21_method_53_code 0 = .ok (.aload_n 0, 1) := by decide +kernel
theorem d21_53_1 : decode prog_21_method_53_code 1 = .ok (.aload_n 1, 1) := by decide +kernel
theorem d21_53_2 : decode prog_21_method_53_code 2 = .ok (.aconst_null, 1) := by decide +kernel
theorem d21_53_3 : decode prog_21_method_53_code 3 = .ok (.invokespecial 489, 3) := by decide +kernel
theorem d21_150_0 : decode prog_21_method_150_code 0 = .ok (.aload_n 0, 1) := by decide +kernel
theorem d21_150_1 : decode prog_21_method_150_code 1 = .ok (.invokespecial 1, 3) := by decide +kernel
theorem k469 : (Jvm.Cond.methodLink "java/lang/String" (1 : Nat) ({ cls := "java/lang/Object", name := "<init>", desc := "()V" } : Jvm.MethodName)) ∈ TB := tk_2 229 rfl rfl
theorem d21_150_4 : decode prog_21_method_150_code 4 = .ok (.aload_n 1, 1) := by decide +kernel
theorem d21_150_5 : decode prog_21_method_150_code 5 = .ok (.invokevirtual 552, 3) := by decide +kernel
theorem d16_64_0 : decode prog_16_method_64_code 0 = .ok (.aload_n 0, 1) := by decide +kernel
theorem d16_64_1 : decode prog_16_method_64_code 1 = .ok (.getfield 15, 3) := by decide +kernel
theorem d16_64_4 : decode prog_16_method_64_code 4 = .ok (.areturn, 1) := by decide +kernel
def y16_64 : MethodName := { cls := "java/lang/AbstractStringBuilder", name := "getValue", desc := "()[B" }
theorem k474 : (Jvm.Cond.code ({ cls := "java/lang/AbstractStringBuilder", name := "getValue", desc := "()[B" } : Jvm.MethodName) prog_16_method_64_code (1 : Nat) (Option.some (Jvm.ClassFile.FieldType.array Jvm.ClassFile.FieldType.byte))) ∈ TB := tk_2 234 rfl rfl
theorem k470 : (Jvm.Cond.methodLink "java/lang/String" (552 : Nat) ({ cls := "java/lang/AbstractStringBuilder", name := "getValue", desc := "()[B" } : Jvm.MethodName)) ∈ TB := tk_2 230 rfl rfl
theorem k473 : (Jvm.Cond.selects "java/lang/StringBuilder" ({ cls := "java/lang/AbstractStringBuilder", name := "getValue", desc := "()[B" } : Jvm.MethodName) ({ cls := "java/lang/AbstractStringBuilder", name := "getValue", desc := "()[B" } : Jvm.MethodName)) ∈ TB := tk_2 233 rfl rfl
theorem k471 : (Jvm.Cond.instanceMethod ({ cls := "java/lang/AbstractStringBuilder", name := "getValue", desc := "()[B" } : Jvm.MethodName)) ∈ TB := tk_2 231 rfl rfl
theorem k472 : (Jvm.Cond.sameMethod "java/lang/AbstractStringBuilder" "java/lang/AbstractStringBuilder" "getValue" "()[B") ∈ TB := tk_2 232 rfl rfl
theorem d21_150_8 : decode prog_21_method_150_code 8 = .ok (.astore_n 3, 1) := by decide +kernel
