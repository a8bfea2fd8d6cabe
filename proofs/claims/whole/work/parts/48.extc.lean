def y8_5 : MethodName := { cls := "PagedValues$Query", name := "bracket", desc := "(LPagedValues$Text;Z)V" }
theorem k929 : (Jvm.Cond.code ({ cls := "PagedValues$Query", name := "bracket", desc := "(LPagedValues$Text;Z)V" } : Jvm.MethodName) prog_8_method_5_code (4 : Nat) (Option.none : Option Jvm.ClassFile.FieldType)) ∈ TB := tk_4 209 rfl rfl
theorem k926 : (Jvm.Cond.methodLink "PagedValues$Query" (53 : Nat) ({ cls := "PagedValues$Query", name := "bracket", desc := "(LPagedValues$Text;Z)V" } : Jvm.MethodName)) ∈ TB := tk_4 206 rfl rfl
theorem k928 : (Jvm.Cond.instanceMethod ({ cls := "PagedValues$Query", name := "bracket", desc := "(LPagedValues$Text;Z)V" } : Jvm.MethodName)) ∈ TB := tk_4 208 rfl rfl
theorem ks25 : Cond.selects y8_5.cls y8_5 y8_5 ∈ TB := List.mem_filter.mpr ⟨List.mem_append_left _ (List.mem_of_getElem? (i := 25) (by decide +kernel)), rfl⟩
theorem d8_3_30 : decode prog_8_method_3_code 30 = .ok (.iload_n 3, 1) := by decide +kernel
theorem d8_3_31 : decode prog_8_method_3_code 31 = .ok (.ifCond .eq 12, 3) := by decide +kernel
theorem d8_3_43 : decode prog_8_method_3_code 43 = .ok (.aload_n 0, 1) := by decide +kernel
theorem d8_3_44 : decode prog_8_method_3_code 44 = .ok (.aload_n 1, 1) := by decide +kernel
theorem d8_3_45 : decode prog_8_method_3_code 45 = .ok (.iload_n 3, 1) := by decide +kernel
theorem d8_3_46 : decode prog_8_method_3_code 46 = .ok (.invokevirtual 49, 3) := by decide +kernel
theorem d8_4_0 : decode prog_8_method_4_code 0 = .ok (.aload_n 1, 1) := by decide +kernel
theorem d8_4_1 : decode prog_8_method_4_code 1 = .ok (.invokevirtual 45, 3) := by decide +kernel
theorem d8_4_4 : decode prog_8_method_4_code 4 = .ok (.istore_n 3, 1) := by decide +kernel
theorem d8_4_5 : decode prog_8_method_4_code 5 = .ok (.aload_n 0, 1) := by decide +kernel
theorem d8_4_6 : decode prog_8_method_4_code 6 = .ok (.getfield 18, 3) := by decide +kernel
theorem d8_4_9 : decode prog_8_method_4_code 9 = .ok (.bipush 8, 2) := by decide +kernel
theorem d8_4_11 : decode prog_8_method_4_code 11 = .ok (.if_icmp .ge 16, 3) := by decide +kernel
theorem d8_4_27 : decode prog_8_method_4_code 27 = .ok (.aload_n 1, 1) := by decide +kernel
theorem d8_4_28 : decode prog_8_method_4_code 28 = .ok (.invokevirtual 60, 3) := by decide +kernel
theorem d8_4_31 : decode prog_8_method_4_code 31 = .ok (.return_, 1) := by decide +kernel
theorem d8_4_14 : decode prog_8_method_4_code 14 = .ok (.iload_n 3, 1) := by decide +kernel
theorem d8_4_15 : decode prog_8_method_4_code 15 = .ok (.bipush 42, 2) := by decide +kernel
theorem d8_4_17 : decode prog_8_method_4_code 17 = .ok (.if_icmp .eq 15, 3) := by decide +kernel
theorem d8_4_32 : decode prog_8_method_4_code 32 = .ok (.aload_n 0, 1) := by decide +kernel
theorem d8_4_33 : decode prog_8_method_4_code 33 = .ok (.iconst 1, 1) := by decide +kernel
theorem d8_4_34 : decode prog_8_method_4_code 34 = .ok (.iload_n 2, 1) := by decide +kernel
theorem d8_4_35 : decode prog_8_method_4_code 35 = .ok (.invokevirtual 63, 3) := by decide +kernel
theorem d8_4_38 : decode prog_8_method_4_code 38 = .ok (.astore 4, 2) := by decide +kernel
theorem d8_4_40 : decode prog_8_method_4_code 40 = .ok (.aload_n 1, 1) := by decide +kernel
theorem d8_4_41 : decode prog_8_method_4_code 41 = .ok (.bipush 42, 2) := by decide +kernel
theorem d8_4_43 : decode prog_8_method_4_code 43 = .ok (.invokevirtual 42, 3) := by decide +kernel
theorem d8_4_46 : decode prog_8_method_4_code 46 = .ok (.ifCond .eq 12, 3) := by decide +kernel
theorem d8_4_58 : decode prog_8_method_4_code 58 = .ok (.aload 4, 2) := by decide +kernel
theorem d8_4_60 : decode prog_8_method_4_code 60 = .ok (.iconst 0, 1) := by decide +kernel
theorem d8_4_61 : decode prog_8_method_4_code 61 = .ok (.putfield 67, 3) := by decide +kernel
theorem d8_4_64 : decode prog_8_method_4_code 64 = .ok (.aload 4, 2) := by decide +kernel
theorem d8_4_66 : decode prog_8_method_4_code 66 = .ok (.aload_n 1, 1) := by decide +kernel
theorem d8_4_67 : decode prog_8_method_4_code 67 = .ok (.invokevirtual 70, 3) := by decide +kernel
theorem k921 : (Jvm.Cond.code ({ cls := "PagedValues$Text", name := "plainName", desc := "()Ljava/lang/String;" } : Jvm.MethodName) prog_11_method_14_code (2 : Nat) (Option.some (Jvm.ClassFile.FieldType.object "java/lang/String"))) ∈ TB := tk_4 201 rfl rfl
theorem k918 : (Jvm.Cond.methodLink "PagedValues$Query" (70 : Nat) ({ cls := "PagedValues$Text", name := "plainName", desc := "()Ljava/lang/String;" } : Jvm.MethodName)) ∈ TB := tk_4 198 rfl rfl
theorem k919 : (Jvm.Cond.instanceMethod ({ cls := "PagedValues$Text", name := "plainName", desc := "()Ljava/lang/String;" } : Jvm.MethodName)) ∈ TB := tk_4 199 rfl rfl
theorem k920 : (Jvm.Cond.selects "PagedValues$Text" ({ cls := "PagedValues$Text", name := "plainName", desc := "()Ljava/lang/String;" } : Jvm.MethodName) ({ cls := "PagedValues$Text", name := "plainName", desc := "()Ljava/lang/String;" } : Jvm.MethodName)) ∈ TB := tk_4 200 rfl rfl
theorem d8_4_70 : decode prog_8_method_4_code 70 = .ok (.putfield 74, 3) := by decide +kernel
theorem d8_4_49 : decode prog_8_method_4_code 49 = .ok (.aload 4, 2) := by decide +kernel
theorem d8_4_51 : decode prog_8_method_4_code 51 = .ok (.iconst 2, 1) := by decide +kernel
theorem d8_4_52 : decode prog_8_method_4_code 52 = .ok (.putfield 67, 3) := by decide +kernel
theorem d8_4_55 : decode prog_8_method_4_code 55 = .ok (.goto 18, 3) := by decide +kernel
theorem d8_4_73 : decode prog_8_method_4_code 73 = .ok (.return_, 1) := by decide +kernel
theorem d8_4_20 : decode prog_8_method_4_code 20 = .ok (.iload_n 3, 1) := by decide +kernel
theorem d8_4_21 : decode prog_8_method_4_code 21 = .ok (.invokestatic 56, 3) := by decide +kernel
theorem k910 : (Jvm.Cond.methodLink "PagedValues$Query" (56 : Nat) ({ cls := "PagedValues$Text", name := "isNameStart", desc := "(I)Z" } : Jvm.MethodName)) ∈ TB := tk_4 190 rfl rfl
theorem d8_4_24 : decode prog_8_method_4_code 24 = .ok (.ifCond .ne 8, 3) := by decide +kernel
def y8_4 : MethodName := { cls := "PagedValues$Query", name := "dottedSelector", desc := "(LPagedValues$Text;Z)V" }
theorem k909 : (Jvm.Cond.code ({ cls := "PagedValues$Query", name := "dottedSelector", desc := "(LPagedValues$Text;Z)V" } : Jvm.MethodName) prog_8_method_4_code (5 : Nat) (Option.none : Option Jvm.ClassFile.FieldType)) ∈ TB := tk_4 189 rfl rfl
theorem k906 : (Jvm.Cond.methodLink "PagedValues$Query" (49 : Nat) ({ cls := "PagedValues$Query", name := "dottedSelector", desc := "(LPagedValues$Text;Z)V" } : Jvm.MethodName)) ∈ TB := tk_4 186 rfl rfl
theorem k908 : (Jvm.Cond.instanceMethod ({ cls := "PagedValues$Query", name := "dottedSelector", desc := "(LPagedValues$Text;Z)V" } : Jvm.MethodName)) ∈ TB := tk_4 188 rfl rfl
theorem ks23 : Cond.selects y8_4.cls y8_4 y8_4 ∈ TB := List.mem_filter.mpr ⟨List.mem_append_left _ (List.mem_of_getElem? (i := 23) (by decide +kernel)), rfl⟩
theorem d8_3_49 : decode prog_8_method_3_code 49 = .ok (.goto 9, 3) := by decide +kernel
theorem d8_3_34 : decode prog_8_method_3_code 34 = .ok (.aload_n 1, 1) := by decide +kernel
theorem d8_3_35 : decode prog_8_method_3_code 35 = .ok (.invokevirtual 45, 3) := by decide +kernel
theorem d8_3_38 : decode prog_8_method_3_code 38 = .ok (.bipush 91, 2) := by decide +kernel
theorem d8_3_40 : decode prog_8_method_3_code 40 = .ok (.if_icmp .eq 12, 3) := by decide +kernel
theorem d8_3_58 : decode prog_8_method_3_code 58 = .ok (.return_, 1) := by decide +kernel
def y8_3 : MethodName := { cls := "PagedValues$Query", name := "segment", desc := "(LPagedValues$Text;)V" }
theorem k903 : (Jvm.Cond.code ({ cls := "PagedValues$Query", name := "segment", desc := "(LPagedValues$Text;)V" } : Jvm.MethodName) prog_8_method_3_code (4 : Nat) (Option.none : Option Jvm.ClassFile.FieldType)) ∈ TB := tk_4 183 rfl rfl
theorem k900 : (Jvm.Cond.methodLink "PagedValues$Query" (38 : Nat) ({ cls := "PagedValues$Query", name := "segment", desc := "(LPagedValues$Text;)V" } : Jvm.MethodName)) ∈ TB := tk_4 180 rfl rfl
theorem k902 : (Jvm.Cond.instanceMethod ({ cls := "PagedValues$Query", name := "segment", desc := "(LPagedValues$Text;)V" } : Jvm.MethodName)) ∈ TB := tk_4 182 rfl rfl
theorem ks22 : Cond.selects y8_3.cls y8_3 y8_3 ∈ TB := List.mem_filter.mpr ⟨List.mem_append_left _ (List.mem_of_getElem? (i := 22) (by decide +kernel)), rfl⟩
theorem d8_2_43 : decode prog_8_method_2_code 43 = .ok (.iinc 2 1, 3) := by decide +kernel
theorem d8_2_46 : decode prog_8_method_2_code 46 = .ok (.goto (-28), 3) := by decide +kernel
def y8_2 : MethodName := { cls := "PagedValues$Query", name := "parse", desc := "(LPagedValues$Text;)V" }
def c_Query_nextSelector (Zd : Nat → Nat) (K : KE) (o : Nat) (a0 : Int32) (a1 : Int32) (st : CS) : Option (Option Nat × CS) := (gQ K st o 6 0).bind fun x11 => (gI K st o 6 1).bind fun x12 => x11.bind fun a13z => (rQ K st a13z 7 x12).bind fun x14 => (gI K st o 6 1).bind fun x15 => (some (x15 + (1 : Int32))).bind fun y16 => (sF st o 6 1 (.int y16)).bind fun st17 => x14.bind fun a18z => (bz a0).bind fun _ => (sF st17 a18z 7 0 (.int a0)).bind fun st19 => (bz a1).bind fun _ => (sF st19 a18z 7 1 (.int a1)).bind fun st20 => some (x14, st20)
set_option maxHeartbeats 4000000 in
set_option maxRecDepth 100000 in
theorem cc_Query_nextSelector (l : Launch) (G : Gk) (Zd : Nat → Nat) (K : KE) (o : Nat) (a0 : Int32) (a1 : Int32) (st : CS) (r0 : Option Nat) (st0 : CS) (hm : c_Query_nextSelector Zd K o a0 a1 st = some (r0, st0)) : CT l y8_8 prog_8_method_8_code 4 (some (.object "PagedValues$Selector")) G Zd K (0) [.ref o, .int a0, .int a1] st (hQ G Zd r0 st0) := by
  refine goH (d := 0) (y := y8_8) (cc := prog_8_method_8_code) (maxL := 4) (ret := (some (.object "PagedValues$Selector"))) (av := [.ref o, .int a0, .int a1]) (Qc := hQ G Zd r0 st0) "PagedValues$Query" rfl (by decide) (c1_c rfl (c1_c rfl (c1_c rfl c1_n))) (Nat.le_of_ble_eq_true rfl) ?_
  intro p e s m below meth c ls A args Q hQ hx hb hr hlk hml hown hts hin hl hE hw
  have hl : lw ls 4 [(0, .ref o), (1, .int a0), (2, .int a1)] := hl
  have hZ := hE.2.2.1
  have h := hm
  clear hm
  refine lv_aload_n hx hb d8_8_0 rfl (lv_at hl.1 0 rfl) ?_
  obtain ⟨x11, hr, h⟩ := ob h
  refine xg_q (ci := 6) (C := r_6) (T := f_6) (N := 2) (ref := "PagedValues$Query") hx hb hts (fun w h => List.mem_cons_of_mem _ (ly_6 w h)) hown hE hw rfl 0 (by decide) (hts _ (List.mem_cons_of_mem _ k166)) (fun _ h9 => h9) hr d8_8_1 ?_
  clear hr
  refine lv_aload_n hx hb d8_8_4 rfl (lv_at hl.1 0 rfl) ?_
  obtain ⟨x12, hr, h⟩ := ob h
  refine xg_i (ci := 6) (C := r_6) (T := f_6) (N := 2) (ref := "PagedValues$Query") hx hb hts (fun w h => List.mem_cons_of_mem _ (ly_6 w h)) hown hE hw rfl 1 (by decide) (hts _ (List.mem_cons_of_mem _ k168)) (fun _ h9 => h9) hr d8_8_5 ?_
  clear hr
  obtain ⟨a13z, hn13, h⟩ := ob h
  have hn13 : x11 = some a13z := hn13
  refine W.eq (g2 := F0 m 8 ls [.int x12, .ref a13z]) (by rw [hn13]; rfl) ?_
  obtain ⟨x14, hr, h⟩ := ob h
  refine xa_q hx hb hE hw (t := 7) rfl (i := x12) hr d8_8_8 ?_
  clear hr
  refine xt_astore_n (r := x14) (lv' := [(3, va_rf x14), (0, .ref o), (1, .int a0), (2, .int a1)]) hx hb d8_8_9 rfl hl (by decide) rfl (fun ls hl => ?_)
  refine lv_aload_n hx hb d8_8_10 rfl (lv_at hl.1 1 rfl) ?_
  refine lv_dup hx hb d8_8_11 rfl ?_
  obtain ⟨x15, hr, h⟩ := ob h
  refine xg_i (ci := 6) (C := r_6) (T := f_6) (N := 2) (ref := "PagedValues$Query") hx hb hts (fun w h => List.mem_cons_of_mem _ (ly_6 w h)) hown hE hw rfl 1 (by decide) (hts _ (List.mem_cons_of_mem _ k168)) (fun _ h9 => h9) hr d8_8_12 ?_
  clear hr
  refine lv_iconst (v := 1) hx hb d8_8_15 (by decide) ?_
  refine lv_iadd hx hb d8_8_16 ?_
  obtain ⟨y16, hr, h⟩ := ob h
  refine lv_topi (fun y9 ey => ?_)
  have e9 := ey.trans (Option.some.inj hr)
  clear ey
  subst y9
  clear hr
  obtain ⟨st17, hr, h⟩ := ob h
  refine xp (ci := 6) (ty := .int) (C := r_6) (T := f_6) (N := 2) (ref := "PagedValues$Query") hx hb hts (fun w h => List.mem_cons_of_mem _ (ly_6 w h)) ft_6 ft_6_ok nm_6 hown hE hw rfl 1 (by decide) (hts _ (List.mem_cons_of_mem _ k168)) (fun _ h9 => h9) rfl hr (by decide +kernel) rfl rfl d8_8_17 (fun H locs hw => ?_)
  clear hr
  refine xq_aload_n (r := x14) hx hb d8_8_20 rfl (lv_at hl.1 0 rfl) ?_
  refine lv_iload_n hx hb d8_8_21 rfl (lv_at hl.1 2 rfl) ?_
  obtain ⟨a18z, hn18, h⟩ := ob h
  have hn18 : x14 = some a18z := hn18
  refine W.eq (g2 := F0 m 22 ls [.int a0, .ref a18z]) (by rw [hn18]; rfl) ?_
  obtain ⟨u9, hr, h⟩ := ob h
  have hi := bz_some hr
  clear hr u9
  obtain ⟨st19, hr, h⟩ := ob h
  refine xpN (ci := 7) (ty := .boolean) (C := r_7) (T := f_7) (N := 5) (ref := "PagedValues$Selector") hx hb hts (fun w h => List.mem_cons_of_mem _ (ly_7 w h)) ft_7 ft_7_ok nm_7 hown hE hw rfl 0 (by decide) (va_Nw.use rfl (hZ.1.1 _ kn145)) (fun _ h9 => h9) rfl hr (by decide +kernel) (nar01 hi) (fit01 hi) d8_8_22 (fun H locs hw => ?_)
  clear hr
  refine xq_aload_n (r := x14) hx hb d8_8_25 rfl (lv_at hl.1 0 rfl) ?_
  refine lv_iload_n hx hb d8_8_26 rfl (lv_at hl.1 3 rfl) ?_
  refine W.eq (g2 := F0 m 27 ls [.int a1, .ref a18z]) (by rw [hn18]; rfl) ?_
  obtain ⟨u9, hr, h⟩ := ob h
  have hi := bz_some hr
  clear hr u9
  obtain ⟨st20, hr, h⟩ := ob h
  refine xpN (ci := 7) (ty := .boolean) (C := r_7) (T := f_7) (N := 5) (ref := "PagedValues$Selector") hx hb hts (fun w h => List.mem_cons_of_mem _ (ly_7 w h)) ft_7 ft_7_ok nm_7 hown hE hw rfl 1 (by decide) (va_Nw.use rfl (hZ.1.1 _ kn147)) (fun _ h9 => h9) rfl hr (by decide +kernel) (nar01 hi) (fit01 hi) d8_8_27 (fun H locs hw => ?_)
  clear hr
  refine xq_aload_n (r := x14) hx hb d8_8_30 rfl (lv_at hl.1 0 rfl) ?_
  cases h
  exact finH_q hQ hx hb hr hlk rfl (Or.inl ⟨_, rfl⟩) hE hw d8_8_31
def c_Query_number (Zd : Nat → Nat) (K : KE) (a0 : Option Nat) (st : CS) : Option (Int32 × CS) := a0.bind fun a11z => (isO K st a11z 1).bind fun _ => (c_Text_take Zd K a11z (45 : Int32) st).bind fun r14 => (if r14.1 = (0 : Int32) then (some r14.2) else ((isO K r14.2 a11z 1).bind fun _ => (c_Text_ahead Zd K a11z r14.2).bind fun x25 => if x25 = (48 : Int32) then ((isO K r14.2 a11z 1).bind fun _ => (c_Text_fail Zd K a11z r14.2).bind fun st30 => some st30) else (some r14.2))).bind fun e15 => (isO K e15 a11z 1).bind fun _ => (c_Text_digits Zd K a11z (3 : Int32) e15).bind fun r19 => (if r14.1 = (0 : Int32) then (some r19.1) else ((some (-r19.1)).bind fun y23 => some y23)).bind fun e20 => some (e20, r19.2)
set_option maxHeartbeats 4000000 in
set_option maxRecDepth 100000 in
theorem cc_Query_number (l : Launch) (G : Gk) (Zd : Nat → Nat) (K : KE) (a0 : Option Nat) (st : CS) (r0 : Int32) (st0 : CS) (hm : c_Query_number Zd K a0 st = some (r0, st0)) : CT l y8_7 prog_8_method_7_code 3 (some .int) G Zd K (2) [va_rf a0] st (hI G Zd r0 st0) := by
  refine goH (d := 2) (y := y8_7) (cc := prog_8_method_7_code) (maxL := 3) (ret := (some .int)) (av := [va_rf a0]) (Qc := hI G Zd r0 st0) "PagedValues$Query" rfl (by decide) (c1_c (rf_cat _) c1_n) (Nat.le_of_ble_eq_true rfl) ?_
  intro p e s m below meth c ls A args Q hQ hx hb hr hlk hml hown hts hin hl hE hw
  have hl : lw ls 3 [(0, va_rf a0)] := hl
  have hZ := hE.2.2.1
  have h := hm
  clear hm
  refine xq_aload_n (r := a0) hx hb d8_7_0 rfl (lv_at hl.1 0 rfl) ?_
  refine lv_bipush (v := 45) hx hb d8_7_1 (by decide) ?_
  obtain ⟨a11z, hn11, h⟩ := ob h
  have hn11 : a0 = some a11z := hn11
  refine W.eq (g2 := F0 m 3 ls [.int 45, .ref a11z]) (by rw [hn11]; rfl) ?_
  obtain ⟨u9, ho, h⟩ := ob h
  obtain ⟨⟨x12, st13⟩, hc, h⟩ := ob h
  refine hV_i (ci := 1) (As := [.int 45]) (rest := []) ⟨hx, hb, hml, hown, hts⟩ (cc_Text_take l G Zd K a11z (45 : Int32) st x12 st13 hc) (kw_V (n := 1) hts k384 k904 k2 k382 k383 (by decide +kernel) ⟨Nat.le_of_ble_eq_true rfl, Nat.le_of_ble_eq_true rfl⟩) hE hw rfl rfl ho rfl hl.1.1 rfl (c1_8 c1_n (Nat.le_of_ble_eq_true rfl)) d8_7_3 (fun H locs cells slots hw => ?_)
  clear hc ho u9
  refine W.eq (g2 := F0 m 6 ls [.int x12]) rfl ?_
  refine xt_istore_n (x := x12) (lv' := [(1, .int x12), (0, va_rf a0)]) hx hb d8_7_6 rfl hl (by decide) rfl (fun ls hl => ?_)
  refine lv_iload_n hx hb d8_7_7 rfl (lv_at hl.1 0 rfl) ?_
  obtain ⟨e15, hX, h⟩ := ob h
  have hj : ∀ (H : Heap) (locs : List Loc) (cells slots : Nat) (ls : Array Slot), lw ls 3 [(0, va_rf a0), (1, .int x12)] → wsH G Zd A s e15 H locs → W p l e (rmH Zd (2) st.1) s m args below meth c H locs cells slots Q (F0 m 24 ls []) := by
    intro H locs cells slots ls hl hw
    refine xq_aload_n (r := a0) hx hb d8_7_24 rfl (lv_at hl.1 0 rfl) ?_
    refine lv_iconst (v := 3) hx hb d8_7_25 (by decide) ?_
    refine W.eq (g2 := F0 m 26 ls [.int 3, .ref a11z]) (by rw [hn11]; rfl) ?_
    obtain ⟨u9, ho, h⟩ := ob h
    obtain ⟨⟨x17, st18⟩, hc, h⟩ := ob h
    refine hV_i (ci := 1) (As := [.int 3]) (rest := []) ⟨hx, hb, hml, hown, hts⟩ (cc_Text_digits l G Zd K a11z (3 : Int32) e15 x17 st18 hc) (kw_V (n := 1) hts k661 k938 k2 k659 k660 (by decide +kernel) ⟨Nat.le_of_ble_eq_true rfl, Nat.le_of_ble_eq_true rfl⟩) hE hw rfl rfl ho rfl hl.1.1 rfl (c1_8 c1_n (Nat.le_of_ble_eq_true rfl)) d8_7_26 (fun H locs cells slots hw => ?_)
    clear hc ho u9
    refine W.eq (g2 := F0 m 29 ls [.int x17]) rfl ?_
    refine xt_istore_n (x := x17) (lv' := [(2, .int x17), (0, va_rf a0), (1, .int x12)]) hx hb d8_7_29 rfl hl (by decide) rfl (fun ls hl => ?_)
    refine lv_iload_n hx hb d8_7_30 rfl (lv_at hl.1 2 rfl) ?_
    obtain ⟨e20, hX, h⟩ := ob h
    have hj : ∀ (H : Heap) (locs : List Loc) (cells slots : Nat) (ls : Array Slot), lw ls 3 [(0, va_rf a0), (1, .int x12), (2, .int x17)] → wsH G Zd A s st18 H locs → W p l e (rmH Zd (2) st.1) s m args below meth c H locs cells slots Q (F0 m 40 ls [.int e20]) := by
      intro H locs cells slots ls hl hw
      cases h
      exact finH_i hQ hx hb hr hlk hE hw d8_7_40
    clear h
    refine lv_if_eq (tgt := 39) hx hb d8_7_31 rfl (fun c22 => ?_) (fun c22 => ?_)
    ·
      replace h := (if_pos c22).symm.trans hX
      refine lv_iload_n hx hb d8_7_39 rfl (lv_at hl.1 0 rfl) ?_
      have e9 := Option.some.inj h
      subst e20
      have hl := lw_sub hl (l' := [(0, va_rf a0), (1, .int x12), (2, .int x17)]) [1, 2, 0] rfl
      exact hj _ _ _ _ _ hl hw
    ·
      replace h := (if_neg c22).symm.trans hX
      refine lv_iload_n hx hb d8_7_34 rfl (lv_at hl.1 0 rfl) ?_
      refine lv_ineg hx hb d8_7_35 ?_
      obtain ⟨y23, hr, h⟩ := ob h
      refine lv_topi (fun y9 ey => ?_)
      have e9 := ey.trans (Option.some.inj hr)
      clear ey
      subst y9
      clear hr
      refine lv_goto (tgt := 40) hx hb d8_7_36 rfl ?_
      have e9 := Option.some.inj h
      subst e20
      have hl := lw_sub hl (l' := [(0, va_rf a0), (1, .int x12), (2, .int x17)]) [1, 2, 0] rfl
      exact hj _ _ _ _ _ hl hw
  clear h
  refine lv_if_eq (tgt := 24) hx hb d8_7_8 rfl (fun c24 => ?_) (fun c24 => ?_)
  ·
    replace h := (if_pos c24).symm.trans hX
    have e9 := Option.some.inj h
    subst e15
    have hl := lw_sub hl (l' := [(0, va_rf a0), (1, .int x12)]) [1, 0] rfl
    exact hj _ _ _ _ _ hl hw
  ·
    replace h := (if_neg c24).symm.trans hX
    refine xq_aload_n (r := a0) hx hb d8_7_11 rfl (lv_at hl.1 1 rfl) ?_
    refine W.eq (g2 := F0 m 12 ls [.ref a11z]) (by rw [hn11]; rfl) ?_
    obtain ⟨u9, ho, h⟩ := ob h
    obtain ⟨x25, hc, h⟩ := ob h
    refine hV_i (ci := 1) (As := []) (rest := []) ⟨hx, hb, hml, hown, hts⟩ (cc_Text_ahead l G Zd K a11z st13 x25 hc) (kw_V (n := 0) hts k326 k905 k2 k324 k325 (by decide +kernel) ⟨Nat.le_of_ble_eq_true rfl, Nat.le_of_ble_eq_true rfl⟩) hE hw rfl rfl ho rfl hl.1.1 rfl (c1_8 c1_n (Nat.le_of_ble_eq_true rfl)) d8_7_12 (fun H locs cells slots hw => ?_)
    clear hc ho u9
    refine W.eq (g2 := F0 m 15 ls [.int x25]) rfl ?_
    refine lv_bipush (v := 48) hx hb d8_7_15 (by decide) ?_
    refine lv_icmp_ne (tgt := 24) hx hb d8_7_17 rfl (fun c28 => ?_) (fun c28 => ?_)
    ·
      replace h := (if_neg c28).symm.trans h
      have e9 := Option.some.inj h
      subst e15
      have hl := lw_sub hl (l' := [(0, va_rf a0), (1, .int x12)]) [1, 0] rfl
      exact hj _ _ _ _ _ hl hw
    ·
      replace h := (if_pos c28).symm.trans h
      refine xq_aload_n (r := a0) hx hb d8_7_20 rfl (lv_at hl.1 1 rfl) ?_
      refine W.eq (g2 := F0 m 21 ls [.ref a11z]) (by rw [hn11]; rfl) ?_
      obtain ⟨u9, ho, h⟩ := ob h
      obtain ⟨st30, hc, h⟩ := ob h
      refine hV_v (ci := 1) (As := []) (rest := []) ⟨hx, hb, hml, hown, hts⟩ (cc_Text_fail l G Zd K a11z st13 st30 hc) (kw_V (n := 0) hts k333 k913 k2 k331 k332 (by decide +kernel) ⟨Nat.le_of_ble_eq_true rfl, Nat.le_of_ble_eq_true rfl⟩) hE hw rfl rfl ho rfl hl.1.1 rfl (c1_8 c1_n (Nat.le_of_ble_eq_true rfl)) d8_7_21 (fun H locs cells slots hw => ?_)
      clear hc ho u9
      refine W.eq (g2 := F0 m 24 ls []) rfl ?_
      have e9 := Option.some.inj h
      subst e15
      have hl := lw_sub hl (l' := [(0, va_rf a0), (1, .int x12)]) [1, 0] rfl
      exact hj _ _ _ _ _ hl hw
def c_Query_bracketSelector (Zd : Nat → Nat) (K : KE) (o : Nat) (a0 : Option Nat) (a1 : Int32) (a2 : Int32) (st : CS) : Option (CS) := (gI K st o 6 1).bind fun x11 => if x11 < (8 : Int32) then ((isO K st o 6).bind fun _ => (c_Query_nextSelector Zd K o a1 a2 st).bind fun r15 => a0.bind fun a16z => (isO K r15.2 a16z 1).bind fun _ => (c_Text_take Zd K a16z (42 : Int32) r15.2).bind fun r19 => (if r19.1 = (0 : Int32) then ((isO K r19.2 a16z 1).bind fun _ => (c_Text_ahead Zd K a16z r19.2).bind fun x23 => if x23 = (39 : Int32) then (r15.1.bind fun a33z => (sF r19.2 a33z 7 2 (.int 0)).bind fun st34 => (isO K st34 a16z 1).bind fun _ => (c_Text_quoted Zd K a16z (39 : Int32) (0 : Int32) st34).bind fun r37 => (sF r37.2 a33z 7 3 (va_rf r37.1)).bind fun st38 => some st38) else (r15.1.bind fun a27z => (sF r19.2 a27z 7 2 (.int 1)).bind fun st28 => (c_Query_number Zd K a0 st28).bind fun r31 => (sF r31.2 a27z 7 4 (.int r31.1)).bind fun st32 => some st32)) else (r15.1.bind fun a39z => (sF r19.2 a39z 7 2 (.int 2)).bind fun st40 => some st40)).bind fun e20 => some e20) else (a0.bind fun a41z => (isO K st a41z 1).bind fun _ => (c_Text_fail Zd K a41z st).bind fun st43 => some st43)
set_option maxHeartbeats 4000000 in
set_option maxRecDepth 100000 in
theorem cc_Query_bracketSelector (l : Launch) (G : Gk) (Zd : Nat → Nat) (K : KE) (o : Nat) (a0 : Option Nat) (a1 : Int32) (a2 : Int32) (st : CS) (st0 : CS) (hm : c_Query_bracketSelector Zd K o a0 a1 a2 st = some st0) : CT l y8_6 prog_8_method_6_code 5 none G Zd K (8) [.ref o, va_rf a0, .int a1, .int a2] st (hV G Zd st0) := by
  refine goH (d := 8) (y := y8_6) (cc := prog_8_method_6_code) (maxL := 5) (ret := none) (av := [.ref o, va_rf a0, .int a1, .int a2]) (Qc := hV G Zd st0) "PagedValues$Query" rfl (by decide) (c1_c rfl (c1_c (rf_cat _) (c1_c rfl (c1_c rfl c1_n)))) (Nat.le_of_ble_eq_true rfl) ?_
  intro p e s m below meth c ls A args Q hQ hx hb hr hlk hml hown hts hin hl hE hw
  have hl : lw ls 5 [(0, .ref o), (1, va_rf a0), (2, .int a1), (3, .int a2)] := hl
  have hZ := hE.2.2.1
  have h := hm
  clear hm
  refine lv_aload_n hx hb d8_6_0 rfl (lv_at hl.1 0 rfl) ?_
  obtain ⟨x11, hr, h⟩ := ob h
  refine xg_i (ci := 6) (C := r_6) (T := f_6) (N := 2) (ref := "PagedValues$Query") hx hb hts (fun w h => List.mem_cons_of_mem _ (ly_6 w h)) hown hE hw rfl 1 (by decide) (hts _ (List.mem_cons_of_mem _ k168)) (fun _ h9 => h9) hr d8_6_1 ?_
  clear hr
  refine lv_bipush (v := 8) hx hb d8_6_4 (by decide) ?_
  refine lv_icmp_lt (tgt := 14) hx hb d8_6_6 rfl (fun c12 => ?_) (fun c12 => ?_)
  ·
    replace h := (if_pos c12).symm.trans h
    refine lv_aload_n hx hb d8_6_14 rfl (lv_at hl.1 0 rfl) ?_
    refine lv_iload_n hx hb d8_6_15 rfl (lv_at hl.1 2 rfl) ?_
    refine lv_iload_n hx hb d8_6_16 rfl (lv_at hl.1 3 rfl) ?_
    obtain ⟨u9, ho, h⟩ := ob h
    obtain ⟨⟨x13, st14⟩, hc, h⟩ := ob h
    refine hV_q (ci := 6) (As := [.int a1, .int a2]) (rest := []) ⟨hx, hb, hml, hown, hts⟩ (cc_Query_nextSelector l G Zd K o a1 a2 st x13 st14 hc) (kw_V (n := 2) hts k917 k914 k10 k916 ks24 (by decide +kernel) ⟨Nat.le_of_ble_eq_true rfl, Nat.le_of_ble_eq_true rfl⟩) hE hw rfl rfl ho rfl hl.1.1 rfl (c1_8 c1_n (Nat.le_of_ble_eq_true rfl)) d8_6_17 (fun H locs cells slots hw => ?_)
    clear hc ho u9
    refine W.eq (g2 := F0 m 20 ls [va_rf x13]) rfl ?_
    refine xt_astore (r := x13) (lv' := [(4, va_rf x13), (0, .ref o), (1, va_rf a0), (2, .int a1), (3, .int a2)]) hx hb d8_6_20 hl (by decide) rfl (fun ls hl => ?_)
    refine xq_aload_n (r := a0) hx hb d8_6_22 rfl (lv_at hl.1 2 rfl) ?_
    refine lv_bipush (v := 42) hx hb d8_6_23 (by decide) ?_
    obtain ⟨a16z, hn16, h⟩ := ob h
    have hn16 : a0 = some a16z := hn16
    refine W.eq (g2 := F0 m 25 ls [.int 42, .ref a16z]) (by rw [hn16]; rfl) ?_
    obtain ⟨u9, ho, h⟩ := ob h
    obtain ⟨⟨x17, st18⟩, hc, h⟩ := ob h
    refine hV_i (ci := 1) (As := [.int 42]) (rest := []) ⟨hx, hb, hml, hown, hts⟩ (cc_Text_take l G Zd K a16z (42 : Int32) st14 x17 st18 hc) (kw_V (n := 1) hts k384 k904 k2 k382 k383 (by decide +kernel) ⟨Nat.le_of_ble_eq_true rfl, Nat.le_of_ble_eq_true rfl⟩) hE hw rfl rfl ho rfl hl.1.1 rfl (c1_8 c1_n (Nat.le_of_ble_eq_true rfl)) d8_6_25 (fun H locs cells slots hw => ?_)
    clear hc ho u9
    refine W.eq (g2 := F0 m 28 ls [.int x17]) rfl ?_
    obtain ⟨e20, hX, h⟩ := ob h
    have hj : ∀ (H : Heap) (locs : List Loc) (cells slots : Nat) (ls : Array Slot), lw ls 5 [(0, .ref o), (1, va_rf a0), (2, .int a1), (3, .int a2), (4, va_rf x13)] → wsH G Zd A s e20 H locs → W p l e (rmH Zd (8) st.1) s m args below meth c H locs cells slots Q (F0 m 85 ls []) := by
      intro H locs cells slots ls hl hw
      cases h
      exact finH_v hQ hx hb hr hlk hE hw d8_6_85
    clear h
    refine lv_if_eq (tgt := 40) hx hb d8_6_28 rfl (fun c22 => ?_) (fun c22 => ?_)
    ·
      replace h := (if_pos c22).symm.trans hX
      refine xq_aload_n (r := a0) hx hb d8_6_40 rfl (lv_at hl.1 2 rfl) ?_
      refine W.eq (g2 := F0 m 41 ls [.ref a16z]) (by rw [hn16]; rfl) ?_
      obtain ⟨u9, ho, h⟩ := ob h
      obtain ⟨x23, hc, h⟩ := ob h
      refine hV_i (ci := 1) (As := []) (rest := []) ⟨hx, hb, hml, hown, hts⟩ (cc_Text_ahead l G Zd K a16z st18 x23 hc) (kw_V (n := 0) hts k326 k905 k2 k324 k325 (by decide +kernel) ⟨Nat.le_of_ble_eq_true rfl, Nat.le_of_ble_eq_true rfl⟩) hE hw rfl rfl ho rfl hl.1.1 rfl (c1_8 c1_n (Nat.le_of_ble_eq_true rfl)) d8_6_41 (fun H locs cells slots hw => ?_)
      clear hc ho u9
      refine W.eq (g2 := F0 m 44 ls [.int x23]) rfl ?_
      refine lv_bipush (v := 39) hx hb d8_6_44 (by decide) ?_
      refine lv_icmp_ne (tgt := 70) hx hb d8_6_46 rfl (fun c26 => ?_) (fun c26 => ?_)
      ·
        replace h := (if_neg c26).symm.trans h
        refine xq_aload (r := x13) hx hb d8_6_70 (lv_at hl.1 0 rfl) ?_
        refine lv_iconst (v := 1) hx hb d8_6_72 (by decide) ?_
        obtain ⟨a27z, hn27, h⟩ := ob h
        have hn27 : x13 = some a27z := hn27
        refine W.eq (g2 := F0 m 73 ls [.int 1, .ref a27z]) (by rw [hn27]; rfl) ?_
        obtain ⟨st28, hr, h⟩ := ob h
        refine xpN (ci := 7) (ty := .int) (C := r_7) (T := f_7) (N := 5) (ref := "PagedValues$Selector") hx hb hts (fun w h => List.mem_cons_of_mem _ (ly_7 w h)) ft_7 ft_7_ok nm_7 hown hE hw rfl 2 (by decide) (va_Nw.use rfl (hZ.1.1 _ kn148)) (fun _ h9 => h9) rfl hr (by decide +kernel) rfl rfl d8_6_73 (fun H locs hw => ?_)
        clear hr
        refine xq_aload (r := x13) hx hb d8_6_76 (lv_at hl.1 0 rfl) ?_
        refine xq_aload_n (r := a0) hx hb d8_6_78 rfl (lv_at hl.1 2 rfl) ?_
        obtain ⟨⟨x29, st30⟩, hc, h⟩ := ob h
        refine hS_i (As := [va_rf a0]) (rest := [va_rf x13]) ⟨hx, hb, hml, hown, hts⟩ (cc_Query_number l G Zd K a0 st28 x29 st30 hc) (kw_S (n := 1) hts k937 k935 k10 k936 (by decide +kernel) ⟨Nat.le_of_ble_eq_true rfl, Nat.le_of_ble_eq_true rfl⟩) hE hw rfl hl.1.1 rfl (c1_8 (c1_c (rf_cat _) c1_n) (Nat.le_of_ble_eq_true rfl)) d8_6_79 (fun H locs cells slots hw => ?_)
        clear hc
        refine W.eq (g2 := F0 m 82 ls [.int x29, va_rf x13]) rfl ?_
        refine W.eq (g2 := F0 m 82 ls [.int x29, .ref a27z]) (by rw [hn27]; rfl) ?_
        obtain ⟨st32, hr, h⟩ := ob h
        refine xpN (ci := 7) (ty := .int) (C := r_7) (T := f_7) (N := 5) (ref := "PagedValues$Selector") hx hb hts (fun w h => List.mem_cons_of_mem _ (ly_7 w h)) ft_7 ft_7_ok nm_7 hown hE hw rfl 4 (by decide) (va_Nw.use rfl (hZ.1.1 _ kn153)) (fun _ h9 => h9) rfl hr (by decide +kernel) rfl rfl d8_6_82 (fun H locs hw => ?_)
        clear hr
        have e9 := Option.some.inj h
        subst e20
        have hl := lw_sub hl (l' := [(0, .ref o), (1, va_rf a0), (2, .int a1), (3, .int a2), (4, va_rf x13)]) [1, 2, 3, 4, 0] rfl
        exact hj _ _ _ _ _ hl hw
      ·
        replace h := (if_pos c26).symm.trans h
        refine xq_aload (r := x13) hx hb d8_6_49 (lv_at hl.1 0 rfl) ?_
        refine lv_iconst (v := 0) hx hb d8_6_51 (by decide) ?_
        obtain ⟨a33z, hn33, h⟩ := ob h
        have hn33 : x13 = some a33z := hn33
        refine W.eq (g2 := F0 m 52 ls [.int 0, .ref a33z]) (by rw [hn33]; rfl) ?_
        obtain ⟨st34, hr, h⟩ := ob h
        refine xpN (ci := 7) (ty := .int) (C := r_7) (T := f_7) (N := 5) (ref := "PagedValues$Selector") hx hb hts (fun w h => List.mem_cons_of_mem _ (ly_7 w h)) ft_7 ft_7_ok nm_7 hown hE hw rfl 2 (by decide) (va_Nw.use rfl (hZ.1.1 _ kn148)) (fun _ h9 => h9) rfl hr (by decide +kernel) rfl rfl d8_6_52 (fun H locs hw => ?_)
        clear hr
        refine xq_aload (r := x13) hx hb d8_6_55 (lv_at hl.1 0 rfl) ?_
        refine xq_aload_n (r := a0) hx hb d8_6_57 rfl (lv_at hl.1 2 rfl) ?_
        refine lv_bipush (v := 39) hx hb d8_6_58 (by decide) ?_
        refine lv_iconst (v := 0) hx hb d8_6_60 (by decide) ?_
        refine W.eq (g2 := F0 m 61 ls [.int 0, .int 39, .ref a16z, va_rf x13]) (by rw [hn16]; rfl) ?_
        obtain ⟨u9, ho, h⟩ := ob h
        obtain ⟨⟨x35, st36⟩, hc, h⟩ := ob h
        refine hV_q (ci := 1) (As := [.int 39, .int 0]) (rest := [va_rf x13]) ⟨hx, hb, hml, hown, hts⟩ (cc_Text_quoted l G Zd K a16z (39 : Int32) (0 : Int32) st34 x35 st36 hc) (kw_V (n := 2) hts k394 k934 k2 k392 k393 (by decide +kernel) ⟨Nat.le_of_ble_eq_true rfl, Nat.le_of_ble_eq_true rfl⟩) hE hw rfl rfl ho rfl hl.1.1 rfl (c1_8 (c1_c (rf_cat _) c1_n) (Nat.le_of_ble_eq_true rfl)) d8_6_61 (fun H locs cells slots hw => ?_)
        clear hc ho u9
        refine W.eq (g2 := F0 m 64 ls [va_rf x35, va_rf x13]) rfl ?_
        refine W.eq (g2 := F0 m 64 ls [va_rf x35, .ref a33z]) (by rw [hn33]; rfl) ?_
        obtain ⟨st38, hr, h⟩ := ob h
        refine xpN (ci := 7) (ty := (ft_7 3)) (C := r_7) (T := f_7) (N := 5) (ref := "PagedValues$Selector") hx hb hts (fun w h => List.mem_cons_of_mem _ (ly_7 w h)) ft_7 ft_7_ok nm_7 hown hE hw rfl 3 (by decide) (va_Nw.use rfl (hZ.1.1 _ kn151)) (fun _ h9 => h9) rfl hr (by decide +kernel) (rf_narO _) (rf_fitO _) d8_6_64 (fun H locs hw => ?_)
        clear hr
        refine lv_goto (tgt := 85) hx hb d8_6_67 rfl ?_
        have e9 := Option.some.inj h
        subst e20
        have hl := lw_sub hl (l' := [(0, .ref o), (1, va_rf a0), (2, .int a1), (3, .int a2), (4, va_rf x13)]) [1, 2, 3, 4, 0] rfl
        exact hj _ _ _ _ _ hl hw
    ·
      replace h := (if_neg c22).symm.trans hX
      refine xq_aload (r := x13) hx hb d8_6_31 (lv_at hl.1 0 rfl) ?_
      refine lv_iconst (v := 2) hx hb d8_6_33 (by decide) ?_
      obtain ⟨a39z, hn39, h⟩ := ob h
      have hn39 : x13 = some a39z := hn39
      refine W.eq (g2 := F0 m 34 ls [.int 2, .ref a39z]) (by rw [hn39]; rfl) ?_
      obtain ⟨st40, hr, h⟩ := ob h
      refine xpN (ci := 7) (ty := .int) (C := r_7) (T := f_7) (N := 5) (ref := "PagedValues$Selector") hx hb hts (fun w h => List.mem_cons_of_mem _ (ly_7 w h)) ft_7 ft_7_ok nm_7 hown hE hw rfl 2 (by decide) (va_Nw.use rfl (hZ.1.1 _ kn148)) (fun _ h9 => h9) rfl hr (by decide +kernel) rfl rfl d8_6_34 (fun H locs hw => ?_)
      clear hr
      refine lv_goto (tgt := 85) hx hb d8_6_37 rfl ?_
      have e9 := Option.some.inj h
      subst e20
      have hl := lw_sub hl (l' := [(0, .ref o), (1, va_rf a0), (2, .int a1), (3, .int a2), (4, va_rf x13)]) [1, 2, 3, 4, 0] rfl
      exact hj _ _ _ _ _ hl hw
  ·
    replace h := (if_neg c12).symm.trans h
    refine xq_aload_n (r := a0) hx hb d8_6_9 rfl (lv_at hl.1 1 rfl) ?_
    obtain ⟨a41z, hn41, h⟩ := ob h
    have hn41 : a0 = some a41z := hn41
    refine W.eq (g2 := F0 m 10 ls [.ref a41z]) (by rw [hn41]; rfl) ?_
    obtain ⟨u9, ho, h⟩ := ob h
    obtain ⟨st43, hc, h⟩ := ob h
    refine hV_v (ci := 1) (As := []) (rest := []) ⟨hx, hb, hml, hown, hts⟩ (cc_Text_fail l G Zd K a41z st st43 hc) (kw_V (n := 0) hts k333 k913 k2 k331 k332 (by decide +kernel) ⟨Nat.le_of_ble_eq_true rfl, Nat.le_of_ble_eq_true rfl⟩) hE hw rfl rfl ho rfl hl.1.1 rfl (c1_8 c1_n (Nat.le_of_ble_eq_true rfl)) d8_6_10 (fun H locs cells slots hw => ?_)
    clear hc ho u9
    refine W.eq (g2 := F0 m 13 ls []) rfl ?_
    cases h
    exact finH_v hQ hx hb hr hlk hE hw d8_6_13
def c_Query_bracket_l1 (Zd : Nat → Nat) (K : KE) (o : Nat) (a0 : Option Nat) (a1 : Int32) (a11z : Nat) : Nat → (Int32 × CS) → Option ((CS) ⊕ (Int32 × CS))
  | 0, _ => none
  | n9 + 1, e9 => if (8 : Int32) < e9.1 then (some (.inr (e9.1, e9.2))) else ((isO K e9.2 a11z 1).bind fun _ => (c_Text_isRight Zd K a11z e9.2).bind fun x21 => if x21 = (0 : Int32) then (some (.inr (e9.1, e9.2))) else ((if e9.1 = (0 : Int32) then (some (1 : Int32)) else (some (0 : Int32))).bind fun e25 => (isO K e9.2 o 6).bind fun _ => (c_Query_bracketSelector Zd K o a0 e25 a1 e9.2).bind fun st28 => (isO K st28 a11z 1).bind fun _ => (c_Text_isRight Zd K a11z st28).bind fun x30 => if x30 = (0 : Int32) then (some (.inl st28)) else ((isO K st28 a11z 1).bind fun _ => (c_Text_take Zd K a11z (93 : Int32) st28).bind fun r36 => if r36.1 = (0 : Int32) then ((isO K r36.2 a11z 1).bind fun _ => (c_Text_need Zd K a11z (44 : Int32) r36.2).bind fun r40 => (some (e9.1 + 1)).bind fun y41 => c_Query_bracket_l1 Zd K o a0 a1 a11z n9 (y41, r40.2)) else (some (.inl r36.2)))))
theorem c_Query_bracket_l1_s (Zd : Nat → Nat) (K : KE) (o : Nat) (a0 : Option Nat) (a1 : Int32) (a11z : Nat) (n9 : Nat) (e9 : Int32 × CS) : c_Query_bracket_l1 Zd K o a0 a1 a11z (n9 + 1) e9 = (if (8 : Int32) < e9.1 then (some (.inr (e9.1, e9.2))) else ((isO K e9.2 a11z 1).bind fun _ => (c_Text_isRight Zd K a11z e9.2).bind fun x21 => if x21 = (0 : Int32) then (some (.inr (e9.1, e9.2))) else ((if e9.1 = (0 : Int32) then (some (1 : Int32)) else (some (0 : Int32))).bind fun e25 => (isO K e9.2 o 6).bind fun _ => (c_Query_bracketSelector Zd K o a0 e25 a1 e9.2).bind fun st28 => (isO K st28 a11z 1).bind fun _ => (c_Text_isRight Zd K a11z st28).bind fun x30 => if x30 = (0 : Int32) then (some (.inl st28)) else ((isO K st28 a11z 1).bind fun _ => (c_Text_take Zd K a11z (93 : Int32) st28).bind fun r36 => if r36.1 = (0 : Int32) then ((isO K r36.2 a11z 1).bind fun _ => (c_Text_need Zd K a11z (44 : Int32) r36.2).bind fun r40 => (some (e9.1 + 1)).bind fun y41 => c_Query_bracket_l1 Zd K o a0 a1 a11z n9 (y41, r40.2)) else (some (.inl r36.2)))))) := rfl
def c_Query_bracket (Zd : Nat → Nat) (K : KE) (o : Nat) (a0 : Option Nat) (a1 : Int32) (st : CS) : Option (CS) := a0.bind fun a11z => (isO K st a11z 1).bind fun _ => (c_Text_need Zd K a11z (91 : Int32) st).bind fun r14 => (c_Query_bracket_l1 Zd K o a0 a1 a11z 4096 ((0 : Int32), r14.2)).bind fun e15 => match e15 with | .inl o9 => some o9 | .inr e8 => some e8.2
set_option maxHeartbeats 4000000 in
set_option maxRecDepth 100000 in
theorem cc_Query_bracket (l : Launch) (G : Gk) (Zd : Nat → Nat) (K : KE) (o : Nat) (a0 : Option Nat) (a1 : Int32) (st : CS) (st0 : CS) (hm : c_Query_bracket Zd K o a0 a1 st = some st0) : CT l y8_5 prog_8_method_5_code 4 none G Zd K (9) [.ref o, va_rf a0, .int a1] st (hV G Zd st0) := by
  refine goH (d := 9) (y := y8_5) (cc := prog_8_method_5_code) (maxL := 4) (ret := none) (av := [.ref o, va_rf a0, .int a1]) (Qc := hV G Zd st0) "PagedValues$Query" rfl (by decide) (c1_c rfl (c1_c (rf_cat _) (c1_c rfl c1_n))) (Nat.le_of_ble_eq_true rfl) ?_
  intro p e s m below meth c ls A args Q hQ hx hb hr hlk hml hown hts hin hl hE hw
  have hl : lw ls 4 [(0, .ref o), (1, va_rf a0), (2, .int a1)] := hl
  have hZ := hE.2.2.1
  have h := hm
  clear hm
  refine xq_aload_n (r := a0) hx hb d8_5_0 rfl (lv_at hl.1 1 rfl) ?_
  refine lv_bipush (v := 91) hx hb d8_5_1 (by decide) ?_
  obtain ⟨a11z, hn11, h⟩ := ob h
  have hn11 : a0 = some a11z := hn11
  refine W.eq (g2 := F0 m 3 ls [.int 91, .ref a11z]) (by rw [hn11]; rfl) ?_
  obtain ⟨u9, ho, h⟩ := ob h
  obtain ⟨⟨x12, st13⟩, hc, h⟩ := ob h
  refine hV_i (ci := 1) (As := [.int 91]) (rest := []) ⟨hx, hb, hml, hown, hts⟩ (cc_Text_need l G Zd K a11z (91 : Int32) st x12 st13 hc) (kw_V (n := 1) hts k380 k897 k2 k378 k379 (by decide +kernel) ⟨Nat.le_of_ble_eq_true rfl, Nat.le_of_ble_eq_true rfl⟩) hE hw rfl rfl ho rfl hl.1.1 rfl (c1_8 c1_n (Nat.le_of_ble_eq_true rfl)) d8_5_3 (fun H locs cells slots hw => ?_)
  clear hc ho u9
  refine W.eq (g2 := F0 m 6 ls [.int x12]) rfl ?_
  refine lv_pop hx hb d8_5_6 rfl ?_
  refine lv_iconst (v := 0) hx hb d8_5_7 (by decide) ?_
  refine xt_istore_n (x := 0) (lv' := [(3, .int 0), (0, .ref o), (1, va_rf a0), (2, .int a1)]) hx hb d8_5_8 rfl hl (by decide) rfl (fun ls hl => ?_)
  obtain ⟨e15, hX, hrest⟩ := ob h
  clear h
  have hj : ∀ (v18 : Int32) (v19 : CS), e15 = .inr (v18, v19) → ∀ (H : Heap) (locs : List Loc) (cells slots : Nat) (ls : Array Slot), lw ls 4 [(0, .ref o), (1, va_rf a0), (2, .int a1), (3, .int v18)] → wsH G Zd A s v19 H locs → W p l e (rmH Zd (9) st.1) s m args below meth c H locs cells slots Q (F0 m 67 ls []) := by
    intro v18 v19 he H locs cells slots ls hl hw
    subst e15
    have h := hrest
    clear hrest
    cases h
    exact finH_v hQ hx hb hr hlk hE hw d8_5_67
  have hloop : ∀ (n9 : Nat) (v16 : Int32) (v17 : CS), c_Query_bracket_l1 Zd K o a0 a1 a11z n9 (v16, v17) = some e15 → ∀ (H : Heap) (locs : List Loc) (cells slots : Nat) (ls : Array Slot), lw ls 4 [(0, .ref o), (1, va_rf a0), (2, .int a1), (3, .int v16)] → wsH G Zd A s v17 H locs → W p l e (rmH Zd (9) st.1) s m args below meth c H locs cells slots Q (F0 m 9 ls []) := by
    intro n9
    induction n9 with
    | zero =>
      intro v16 v17 h
      cases h
    | succ n9 ih =>
      intro v16 v17 h H locs cells slots ls hl hw
      replace h := (c_Query_bracket_l1_s Zd K o a0 a1 a11z n9 (v16, v17)).symm.trans h
      refine lv_iload_n hx hb d8_5_9 rfl (lv_at hl.1 3 rfl) ?_
      refine lv_bipush (v := 8) hx hb d8_5_10 (by decide) ?_
      refine lv_icmp_gt (tgt := 67) hx hb d8_5_12 rfl (fun c20 => ?_) (fun c20 => ?_)
      ·
        replace h := (if_pos c20).symm.trans h
        have e9 := Option.some.inj h
        subst e15
        have hl := lw_sub hl (l' := [(0, .ref o), (1, va_rf a0), (2, .int a1), (3, .int v16)]) [0, 1, 2, 3] rfl
        exact hj _ _ rfl _ _ _ _ _ hl hw
      ·
        replace h := (if_neg c20).symm.trans h
        refine xq_aload_n (r := a0) hx hb d8_5_15 rfl (lv_at hl.1 1 rfl) ?_
        refine W.eq (g2 := F0 m 16 ls [.ref a11z]) (by rw [hn11]; rfl) ?_
        obtain ⟨u9, ho, h⟩ := ob h
        obtain ⟨x21, hc, h⟩ := ob h
        refine hV_i (ci := 1) (As := []) (rest := []) ⟨hx, hb, hml, hown, hts⟩ (cc_Text_isRight l G Zd K a11z v17 x21 hc) (kw_V (n := 0) hts k580 k898 k2 k578 k579 (by decide +kernel) ⟨Nat.le_of_ble_eq_true rfl, Nat.le_of_ble_eq_true rfl⟩) hE hw rfl rfl ho rfl hl.1.1 rfl (c1_8 c1_n (Nat.le_of_ble_eq_true rfl)) d8_5_16 (fun H locs cells slots hw => ?_)
        clear hc ho u9
        refine W.eq (g2 := F0 m 19 ls [.int x21]) rfl ?_
        refine lv_if_eq (tgt := 67) hx hb d8_5_19 rfl (fun c24 => ?_) (fun c24 => ?_)
        ·
          replace h := (if_pos c24).symm.trans h
          have e9 := Option.some.inj h
          subst e15
          have hl := lw_sub hl (l' := [(0, .ref o), (1, va_rf a0), (2, .int a1), (3, .int v16)]) [0, 1, 2, 3] rfl
          exact hj _ _ rfl _ _ _ _ _ hl hw
        ·
          replace h := (if_neg c24).symm.trans h
          refine lv_aload_n hx hb d8_5_22 rfl (lv_at hl.1 0 rfl) ?_
          refine xq_aload_n (r := a0) hx hb d8_5_23 rfl (lv_at hl.1 1 rfl) ?_
          refine lv_iload_n hx hb d8_5_24 rfl (lv_at hl.1 3 rfl) ?_
          obtain ⟨e25, hX, h⟩ := ob h
          have hj : ∀ (H : Heap) (locs : List Loc) (cells slots : Nat) (ls : Array Slot), lw ls 4 [(0, .ref o), (1, va_rf a0), (2, .int a1), (3, .int v16)] → wsH G Zd A s v17 H locs → W p l e (rmH Zd (9) st.1) s m args below meth c H locs cells slots Q (F0 m 33 ls [.int e25, va_rf a0, .ref o]) := by
            intro H locs cells slots ls hl hw
            refine lv_iload_n hx hb d8_5_33 rfl (lv_at hl.1 2 rfl) ?_
            obtain ⟨u9, ho, h⟩ := ob h
            obtain ⟨st28, hc, h⟩ := ob h
            refine hV_v (ci := 6) (As := [va_rf a0, .int e25, .int a1]) (rest := []) ⟨hx, hb, hml, hown, hts⟩ (cc_Query_bracketSelector l G Zd K o a0 e25 a1 v17 st28 hc) (kw_V (n := 3) hts k933 k930 k10 k932 ks26 (by decide +kernel) ⟨Nat.le_of_ble_eq_true rfl, Nat.le_of_ble_eq_true rfl⟩) hE hw rfl rfl ho rfl hl.1.1 rfl (c1_8 c1_n (Nat.le_of_ble_eq_true rfl)) d8_5_34 (fun H locs cells slots hw => ?_)
            clear hc ho u9
            refine W.eq (g2 := F0 m 37 ls []) rfl ?_
            refine xq_aload_n (r := a0) hx hb d8_5_37 rfl (lv_at hl.1 1 rfl) ?_
            refine W.eq (g2 := F0 m 38 ls [.ref a11z]) (by rw [hn11]; rfl) ?_
            obtain ⟨u9, ho, h⟩ := ob h
            obtain ⟨x30, hc, h⟩ := ob h
            refine hV_i (ci := 1) (As := []) (rest := []) ⟨hx, hb, hml, hown, hts⟩ (cc_Text_isRight l G Zd K a11z st28 x30 hc) (kw_V (n := 0) hts k580 k898 k2 k578 k579 (by decide +kernel) ⟨Nat.le_of_ble_eq_true rfl, Nat.le_of_ble_eq_true rfl⟩) hE hw rfl rfl ho rfl hl.1.1 rfl (c1_8 c1_n (Nat.le_of_ble_eq_true rfl)) d8_5_38 (fun H locs cells slots hw => ?_)
            clear hc ho u9
            refine W.eq (g2 := F0 m 41 ls [.int x30]) rfl ?_
            refine lv_if_eq (tgt := 53) hx hb d8_5_41 rfl (fun c33 => ?_) (fun c33 => ?_)
            ·
              replace h := (if_pos c33).symm.trans h
              cases h
              cases hrest
              exact finH_v hQ hx hb hr hlk hE hw d8_5_53
            ·
              replace h := (if_neg c33).symm.trans h
              refine xq_aload_n (r := a0) hx hb d8_5_44 rfl (lv_at hl.1 1 rfl) ?_
              refine lv_bipush (v := 93) hx hb d8_5_45 (by decide) ?_
              refine W.eq (g2 := F0 m 47 ls [.int 93, .ref a11z]) (by rw [hn11]; rfl) ?_
              obtain ⟨u9, ho, h⟩ := ob h
              obtain ⟨⟨x34, st35⟩, hc, h⟩ := ob h
              refine hV_i (ci := 1) (As := [.int 93]) (rest := []) ⟨hx, hb, hml, hown, hts⟩ (cc_Text_take l G Zd K a11z (93 : Int32) st28 x34 st35 hc) (kw_V (n := 1) hts k384 k904 k2 k382 k383 (by decide +kernel) ⟨Nat.le_of_ble_eq_true rfl, Nat.le_of_ble_eq_true rfl⟩) hE hw rfl rfl ho rfl hl.1.1 rfl (c1_8 c1_n (Nat.le_of_ble_eq_true rfl)) d8_5_47 (fun H locs cells slots hw => ?_)
              clear hc ho u9
              refine W.eq (g2 := F0 m 50 ls [.int x34]) rfl ?_
              refine lv_if_eq (tgt := 54) hx hb d8_5_50 rfl (fun c37 => ?_) (fun c37 => ?_)
              ·
                replace h := (if_pos c37).symm.trans h
                refine xq_aload_n (r := a0) hx hb d8_5_54 rfl (lv_at hl.1 1 rfl) ?_
                refine lv_bipush (v := 44) hx hb d8_5_55 (by decide) ?_
                refine W.eq (g2 := F0 m 57 ls [.int 44, .ref a11z]) (by rw [hn11]; rfl) ?_
                obtain ⟨u9, ho, h⟩ := ob h
                obtain ⟨⟨x38, st39⟩, hc, h⟩ := ob h
                refine hV_i (ci := 1) (As := [.int 44]) (rest := []) ⟨hx, hb, hml, hown, hts⟩ (cc_Text_need l G Zd K a11z (44 : Int32) st35 x38 st39 hc) (kw_V (n := 1) hts k380 k897 k2 k378 k379 (by decide +kernel) ⟨Nat.le_of_ble_eq_true rfl, Nat.le_of_ble_eq_true rfl⟩) hE hw rfl rfl ho rfl hl.1.1 rfl (c1_8 c1_n (Nat.le_of_ble_eq_true rfl)) d8_5_57 (fun H locs cells slots hw => ?_)
                clear hc ho u9
                refine W.eq (g2 := F0 m 60 ls [.int x38]) rfl ?_
                refine lv_pop hx hb d8_5_60 rfl ?_
                obtain ⟨y41, hr, h⟩ := ob h
                refine xt_iinc (k := 3) (v := y41) (lv' := [(3, .int y41), (0, .ref o), (1, va_rf a0), (2, .int a1)]) hx hb d8_5_61 hl rfl hr (by decide) rfl (fun ls hl => ?_)
                clear hr
                refine lv_goto (tgt := 9) hx hb d8_5_64 rfl ?_
                have hl := lw_sub hl (l' := [(0, .ref o), (1, va_rf a0), (2, .int a1), (3, .int y41)]) [1, 2, 3, 0] rfl
                exact ih _ _ h _ _ _ _ _ hl hw
              ·
                replace h := (if_neg c37).symm.trans h
                cases h
                cases hrest
                exact finH_v hQ hx hb hr hlk hE hw d8_5_53
          clear h
          refine lv_if_ne (tgt := 32) hx hb d8_5_25 rfl (fun c42 => ?_) (fun c42 => ?_)
          ·
            replace h := (if_neg c42).symm.trans hX
            refine lv_iconst (v := 0) hx hb d8_5_32 (by decide) ?_
            have e9 := Option.some.inj h
            subst e25
            have hl := lw_sub hl (l' := [(0, .ref o), (1, va_rf a0), (2, .int a1), (3, .int v16)]) [0, 1, 2, 3] rfl
            exact hj _ _ _ _ _ hl hw
          ·
            replace h := (if_pos c42).symm.trans hX
            refine lv_iconst (v := 1) hx hb d8_5_28 (by decide) ?_
            refine lv_goto (tgt := 33) hx hb d8_5_29 rfl ?_
            have e9 := Option.some.inj h
            subst e25
            have hl := lw_sub hl (l' := [(0, .ref o), (1, va_rf a0), (2, .int a1), (3, .int v16)]) [0, 1, 2, 3] rfl
            exact hj _ _ _ _ _ hl hw
  have hl := lw_sub hl (l' := [(0, .ref o), (1, va_rf a0), (2, .int a1), (3, .int 0)]) [1, 2, 3, 0] rfl
  exact hloop _ _ _ hX _ _ _ _ _ hl hw
def c_Query_dottedSelector (Zd : Nat → Nat) (K : KE) (o : Nat) (a0 : Option Nat) (a1 : Int32) (st : CS) : Option (CS) := a0.bind fun a11z => (isO K st a11z 1).bind fun _ => (c_Text_ahead Zd K a11z st).bind fun x12 => (gI K st o 6 1).bind fun x15 => if (8 : Int32) ≤ x15 then ((isO K st a11z 1).bind fun _ => (c_Text_fail Zd K a11z st).bind fun st18 => some st18) else (if x12 = (42 : Int32) then ((isO K st o 6).bind fun _ => (c_Query_nextSelector Zd K o (1 : Int32) a1 st).bind fun r23 => (isO K r23.2 a11z 1).bind fun _ => (c_Text_take Zd K a11z (42 : Int32) r23.2).bind fun r26 => (if r26.1 = (0 : Int32) then (r23.1.bind fun a30z => (sF r26.2 a30z 7 2 (.int 0)).bind fun st31 => (isO K st31 a11z 1).bind fun _ => (c_Text_plainName Zd K a11z st31).bind fun r34 => (sF r34.2 a30z 7 3 (va_rf r34.1)).bind fun st35 => some st35) else (r23.1.bind fun a36z => (sF r26.2 a36z 7 2 (.int 2)).bind fun st37 => some st37)).bind fun e27 => some e27) else ((c_Text_isNameStart Zd K x12 st).bind fun x38 => if x38 = (0 : Int32) then ((isO K st a11z 1).bind fun _ => (c_Text_fail Zd K a11z st).bind fun st60 => some st60) else ((isO K st o 6).bind fun _ => (c_Query_nextSelector Zd K o (1 : Int32) a1 st).bind fun r44 => (isO K r44.2 a11z 1).bind fun _ => (c_Text_take Zd K a11z (42 : Int32) r44.2).bind fun r47 => (if r47.1 = (0 : Int32) then (r44.1.bind fun a51z => (sF r47.2 a51z 7 2 (.int 0)).bind fun st52 => (isO K st52 a11z 1).bind fun _ => (c_Text_plainName Zd K a11z st52).bind fun r55 => (sF r55.2 a51z 7 3 (va_rf r55.1)).bind fun st56 => some st56) else (r44.1.bind fun a57z => (sF r47.2 a57z 7 2 (.int 2)).bind fun st58 => some st58)).bind fun e48 => some e48)))
set_option maxHeartbeats 4000000 in
set_option maxRecDepth 100000 in
theorem cc_Query_dottedSelector (l : Launch) (G : Gk) (Zd : Nat → Nat) (K : KE) (o : Nat) (a0 : Option Nat) (a1 : Int32) (st : CS) (st0 : CS) (hm : c_Query_dottedSelector Zd K o a0 a1 st = some st0) : CT l y8_4 prog_8_method_4_code 5 none G Zd K (7) [.ref o, va_rf a0, .int a1] st (hV G Zd st0) := by
  refine goH (d := 7) (y := y8_4) (cc := prog_8_method_4_code) (maxL := 5) (ret := none) (av := [.ref o, va_rf a0, .int a1]) (Qc := hV G Zd st0) "PagedValues$Query" rfl (by decide) (c1_c rfl (c1_c (rf_cat _) (c1_c rfl c1_n))) (Nat.le_of_ble_eq_true rfl) ?_
  intro p e s m below meth c ls A args Q hQ hx hb hr hlk hml hown hts hin hl hE hw
  have hl : lw ls 5 [(0, .ref o), (1, va_rf a0), (2, .int a1)] := hl
  have hZ := hE.2.2.1
  have h := hm
  clear hm
  refine xq_aload_n (r := a0) hx hb d8_4_0 rfl (lv_at hl.1 1 rfl) ?_
  obtain ⟨a11z, hn11, h⟩ := ob h
  have hn11 : a0 = some a11z := hn11
  refine W.eq (g2 := F0 m 1 ls [.ref a11z]) (by rw [hn11]; rfl) ?_
  obtain ⟨u9, ho, h⟩ := ob h
  obtain ⟨x12, hc, h⟩ := ob h
  refine hV_i (ci := 1) (As := []) (rest := []) ⟨hx, hb, hml, hown, hts⟩ (cc_Text_ahead l G Zd K a11z st x12 hc) (kw_V (n := 0) hts k326 k905 k2 k324 k325 (by decide +kernel) ⟨Nat.le_of_ble_eq_true rfl, Nat.le_of_ble_eq_true rfl⟩) hE hw rfl rfl ho rfl hl.1.1 rfl (c1_8 c1_n (Nat.le_of_ble_eq_true rfl)) d8_4_1 (fun H locs cells slots hw => ?_)
  clear hc ho u9
  refine W.eq (g2 := F0 m 4 ls [.int x12]) rfl ?_
  refine xt_istore_n (x := x12) (lv' := [(3, .int x12), (0, .ref o), (1, va_rf a0), (2, .int a1)]) hx hb d8_4_4 rfl hl (by decide) rfl (fun ls hl => ?_)
  refine lv_aload_n hx hb d8_4_5 rfl (lv_at hl.1 1 rfl) ?_
  obtain ⟨x15, hr, h⟩ := ob h
  refine xg_i (ci := 6) (C := r_6) (T := f_6) (N := 2) (ref := "PagedValues$Query") hx hb hts (fun w h => List.mem_cons_of_mem _ (ly_6 w h)) hown hE hw rfl 1 (by decide) (hts _ (List.mem_cons_of_mem _ k168)) (fun _ h9 => h9) hr d8_4_6 ?_
  clear hr
  refine lv_bipush (v := 8) hx hb d8_4_9 (by decide) ?_
  refine lv_icmp_ge (tgt := 27) hx hb d8_4_11 rfl (fun c16 => ?_) (fun c16 => ?_)
  ·
    replace h := (if_pos c16).symm.trans h
    refine xq_aload_n (r := a0) hx hb d8_4_27 rfl (lv_at hl.1 2 rfl) ?_
    refine W.eq (g2 := F0 m 28 ls [.ref a11z]) (by rw [hn11]; rfl) ?_
    obtain ⟨u9, ho, h⟩ := ob h
    obtain ⟨st18, hc, h⟩ := ob h
    refine hV_v (ci := 1) (As := []) (rest := []) ⟨hx, hb, hml, hown, hts⟩ (cc_Text_fail l G Zd K a11z st st18 hc) (kw_V (n := 0) hts k333 k913 k2 k331 k332 (by decide +kernel) ⟨Nat.le_of_ble_eq_true rfl, Nat.le_of_ble_eq_true rfl⟩) hE hw rfl rfl ho rfl hl.1.1 rfl (c1_8 c1_n (Nat.le_of_ble_eq_true rfl)) d8_4_28 (fun H locs cells slots hw => ?_)
    clear hc ho u9
    refine W.eq (g2 := F0 m 31 ls []) rfl ?_
    cases h
    exact finH_v hQ hx hb hr hlk hE hw d8_4_31
  ·
    replace h := (if_neg c16).symm.trans h
    refine lv_iload_n hx hb d8_4_14 rfl (lv_at hl.1 0 rfl) ?_
    refine lv_bipush (v := 42) hx hb d8_4_15 (by decide) ?_
    refine lv_icmp_eq (tgt := 32) hx hb d8_4_17 rfl (fun c20 => ?_) (fun c20 => ?_)
    ·
      replace h := (if_pos c20).symm.trans h
      refine lv_aload_n hx hb d8_4_32 rfl (lv_at hl.1 1 rfl) ?_
      refine lv_iconst (v := 1) hx hb d8_4_33 (by decide) ?_
      refine lv_iload_n hx hb d8_4_34 rfl (lv_at hl.1 3 rfl) ?_
      obtain ⟨u9, ho, h⟩ := ob h
      obtain ⟨⟨x21, st22⟩, hc, h⟩ := ob h
      refine hV_q (ci := 6) (As := [.int 1, .int a1]) (rest := []) ⟨hx, hb, hml, hown, hts⟩ (cc_Query_nextSelector l G Zd K o (1 : Int32) a1 st x21 st22 hc) (kw_V (n := 2) hts k917 k914 k10 k916 ks24 (by decide +kernel) ⟨Nat.le_of_ble_eq_true rfl, Nat.le_of_ble_eq_true rfl⟩) hE hw rfl rfl ho rfl hl.1.1 rfl (c1_8 c1_n (Nat.le_of_ble_eq_true rfl)) d8_4_35 (fun H locs cells slots hw => ?_)
      clear hc ho u9
      refine W.eq (g2 := F0 m 38 ls [va_rf x21]) rfl ?_
      refine xt_astore (r := x21) (lv' := [(4, va_rf x21), (3, .int x12), (0, .ref o), (1, va_rf a0), (2, .int a1)]) hx hb d8_4_38 hl (by decide) rfl (fun ls hl => ?_)
      refine xq_aload_n (r := a0) hx hb d8_4_40 rfl (lv_at hl.1 3 rfl) ?_
      refine lv_bipush (v := 42) hx hb d8_4_41 (by decide) ?_
      refine W.eq (g2 := F0 m 43 ls [.int 42, .ref a11z]) (by rw [hn11]; rfl) ?_
      obtain ⟨u9, ho, h⟩ := ob h
      obtain ⟨⟨x24, st25⟩, hc, h⟩ := ob h
      refine hV_i (ci := 1) (As := [.int 42]) (rest := []) ⟨hx, hb, hml, hown, hts⟩ (cc_Text_take l G Zd K a11z (42 : Int32) st22 x24 st25 hc) (kw_V (n := 1) hts k384 k904 k2 k382 k383 (by decide +kernel) ⟨Nat.le_of_ble_eq_true rfl, Nat.le_of_ble_eq_true rfl⟩) hE hw rfl rfl ho rfl hl.1.1 rfl (c1_8 c1_n (Nat.le_of_ble_eq_true rfl)) d8_4_43 (fun H locs cells slots hw => ?_)
      clear hc ho u9
      refine W.eq (g2 := F0 m 46 ls [.int x24]) rfl ?_
      obtain ⟨e27, hX, h⟩ := ob h
      have hj : ∀ (H : Heap) (locs : List Loc) (cells slots : Nat) (ls : Array Slot), lw ls 5 [(0, .ref o), (1, va_rf a0), (2, .int a1), (3, .int x12), (4, va_rf x21)] → wsH G Zd A s e27 H locs → W p l e (rmH Zd (7) st.1) s m args below meth c H locs cells slots Q (F0 m 73 ls []) := by
        intro H locs cells slots ls hl hw
        cases h
        exact finH_v hQ hx hb hr hlk hE hw d8_4_73
      clear h
      refine lv_if_eq (tgt := 58) hx hb d8_4_46 rfl (fun c29 => ?_) (fun c29 => ?_)
      ·
        replace h := (if_pos c29).symm.trans hX
        refine xq_aload (r := x21) hx hb d8_4_58 (lv_at hl.1 0 rfl) ?_
        refine lv_iconst (v := 0) hx hb d8_4_60 (by decide) ?_
        obtain ⟨a30z, hn30, h⟩ := ob h
        have hn30 : x21 = some a30z := hn30
        refine W.eq (g2 := F0 m 61 ls [.int 0, .ref a30z]) (by rw [hn30]; rfl) ?_
        obtain ⟨st31, hr, h⟩ := ob h
        refine xpN (ci := 7) (ty := .int) (C := r_7) (T := f_7) (N := 5) (ref := "PagedValues$Selector") hx hb hts (fun w h => List.mem_cons_of_mem _ (ly_7 w h)) ft_7 ft_7_ok nm_7 hown hE hw rfl 2 (by decide) (va_Nw.use rfl (hZ.1.1 _ kn148)) (fun _ h9 => h9) rfl hr (by decide +kernel) rfl rfl d8_4_61 (fun H locs hw => ?_)
        clear hr
        refine xq_aload (r := x21) hx hb d8_4_64 (lv_at hl.1 0 rfl) ?_
        refine xq_aload_n (r := a0) hx hb d8_4_66 rfl (lv_at hl.1 3 rfl) ?_
        refine W.eq (g2 := F0 m 67 ls [.ref a11z, va_rf x21]) (by rw [hn11]; rfl) ?_
        obtain ⟨u9, ho, h⟩ := ob h
        obtain ⟨⟨x32, st33⟩, hc, h⟩ := ob h
        refine hV_q (ci := 1) (As := []) (rest := [va_rf x21]) ⟨hx, hb, hml, hown, hts⟩ (cc_Text_plainName l G Zd K a11z st31 x32 st33 hc) (kw_V (n := 0) hts k921 k918 k2 k919 k920 (by decide +kernel) ⟨Nat.le_of_ble_eq_true rfl, Nat.le_of_ble_eq_true rfl⟩) hE hw rfl rfl ho rfl hl.1.1 rfl (c1_8 (c1_c (rf_cat _) c1_n) (Nat.le_of_ble_eq_true rfl)) d8_4_67 (fun H locs cells slots hw => ?_)
        clear hc ho u9
        refine W.eq (g2 := F0 m 70 ls [va_rf x32, va_rf x21]) rfl ?_
        refine W.eq (g2 := F0 m 70 ls [va_rf x32, .ref a30z]) (by rw [hn30]; rfl) ?_
        obtain ⟨st35, hr, h⟩ := ob h
        refine xpN (ci := 7) (ty := (ft_7 3)) (C := r_7) (T := f_7) (N := 5) (ref := "PagedValues$Selector") hx hb hts (fun w h => List.mem_cons_of_mem _ (ly_7 w h)) ft_7 ft_7_ok nm_7 hown hE hw rfl 3 (by decide) (va_Nw.use rfl (hZ.1.1 _ kn151)) (fun _ h9 => h9) rfl hr (by decide +kernel) (rf_narO _) (rf_fitO _) d8_4_70 (fun H locs hw => ?_)
        clear hr
        have e9 := Option.some.inj h
        subst e27
        have hl := lw_sub hl (l' := [(0, .ref o), (1, va_rf a0), (2, .int a1), (3, .int x12), (4, va_rf x21)]) [2, 3, 4, 1, 0] rfl
        exact hj _ _ _ _ _ hl hw
      ·
        replace h := (if_neg c29).symm.trans hX
        refine xq_aload (r := x21) hx hb d8_4_49 (lv_at hl.1 0 rfl) ?_
        refine lv_iconst (v := 2) hx hb d8_4_51 (by decide) ?_
        obtain ⟨a36z, hn36, h⟩ := ob h
        have hn36 : x21 = some a36z := hn36
        refine W.eq (g2 := F0 m 52 ls [.int 2, .ref a36z]) (by rw [hn36]; rfl) ?_
        obtain ⟨st37, hr, h⟩ := ob h
        refine xpN (ci := 7) (ty := .int) (C := r_7) (T := f_7) (N := 5) (ref := "PagedValues$Selector") hx hb hts (fun w h => List.mem_cons_of_mem _ (ly_7 w h)) ft_7 ft_7_ok nm_7 hown hE hw rfl 2 (by decide) (va_Nw.use rfl (hZ.1.1 _ kn148)) (fun _ h9 => h9) rfl hr (by decide +kernel) rfl rfl d8_4_52 (fun H locs hw => ?_)
        clear hr
        refine lv_goto (tgt := 73) hx hb d8_4_55 rfl ?_
        have e9 := Option.some.inj h
        subst e27
        have hl := lw_sub hl (l' := [(0, .ref o), (1, va_rf a0), (2, .int a1), (3, .int x12), (4, va_rf x21)]) [2, 3, 4, 1, 0] rfl
        exact hj _ _ _ _ _ hl hw
    ·
      replace h := (if_neg c20).symm.trans h
      refine lv_iload_n hx hb d8_4_20 rfl (lv_at hl.1 0 rfl) ?_
      obtain ⟨x38, hc, h⟩ := ob h
      refine hS_i (As := [.int x12]) (rest := []) ⟨hx, hb, hml, hown, hts⟩ (cc_Text_isNameStart l G Zd K x12 st x38 hc) (kw_S (n := 1) hts k912 k910 k2 k911 (by decide +kernel) ⟨Nat.le_of_ble_eq_true rfl, Nat.le_of_ble_eq_true rfl⟩) hE hw rfl hl.1.1 rfl (c1_8 c1_n (Nat.le_of_ble_eq_true rfl)) d8_4_21 (fun H locs cells slots hw => ?_)
      clear hc
      refine W.eq (g2 := F0 m 24 ls [.int x38]) rfl ?_
      refine lv_if_ne (tgt := 32) hx hb d8_4_24 rfl (fun c41 => ?_) (fun c41 => ?_)
      ·
        replace h := (if_neg c41).symm.trans h
        refine lv_aload_n hx hb d8_4_32 rfl (lv_at hl.1 1 rfl) ?_
        refine lv_iconst (v := 1) hx hb d8_4_33 (by decide) ?_
        refine lv_iload_n hx hb d8_4_34 rfl (lv_at hl.1 3 rfl) ?_
        obtain ⟨u9, ho, h⟩ := ob h
        obtain ⟨⟨x42, st43⟩, hc, h⟩ := ob h
        refine hV_q (ci := 6) (As := [.int 1, .int a1]) (rest := []) ⟨hx, hb, hml, hown, hts⟩ (cc_Query_nextSelector l G Zd K o (1 : Int32) a1 st x42 st43 hc) (kw_V (n := 2) hts k917 k914 k10 k916 ks24 (by decide +kernel) ⟨Nat.le_of_ble_eq_true rfl, Nat.le_of_ble_eq_true rfl⟩) hE hw rfl rfl ho rfl hl.1.1 rfl (c1_8 c1_n (Nat.le_of_ble_eq_true rfl)) d8_4_35 (fun H locs cells slots hw => ?_)
        clear hc ho u9
        refine W.eq (g2 := F0 m 38 ls [va_rf x42]) rfl ?_
        refine xt_astore (r := x42) (lv' := [(4, va_rf x42), (3, .int x12), (0, .ref o), (1, va_rf a0), (2, .int a1)]) hx hb d8_4_38 hl (by decide) rfl (fun ls hl => ?_)
        refine xq_aload_n (r := a0) hx hb d8_4_40 rfl (lv_at hl.1 3 rfl) ?_
        refine lv_bipush (v := 42) hx hb d8_4_41 (by decide) ?_
        refine W.eq (g2 := F0 m 43 ls [.int 42, .ref a11z]) (by rw [hn11]; rfl) ?_
        obtain ⟨u9, ho, h⟩ := ob h
        obtain ⟨⟨x45, st46⟩, hc, h⟩ := ob h
        refine hV_i (ci := 1) (As := [.int 42]) (rest := []) ⟨hx, hb, hml, hown, hts⟩ (cc_Text_take l G Zd K a11z (42 : Int32) st43 x45 st46 hc) (kw_V (n := 1) hts k384 k904 k2 k382 k383 (by decide +kernel) ⟨Nat.le_of_ble_eq_true rfl, Nat.le_of_ble_eq_true rfl⟩) hE hw rfl rfl ho rfl hl.1.1 rfl (c1_8 c1_n (Nat.le_of_ble_eq_true rfl)) d8_4_43 (fun H locs cells slots hw => ?_)
        clear hc ho u9
        refine W.eq (g2 := F0 m 46 ls [.int x45]) rfl ?_
        obtain ⟨e48, hX, h⟩ := ob h
        have hj : ∀ (H : Heap) (locs : List Loc) (cells slots : Nat) (ls : Array Slot), lw ls 5 [(0, .ref o), (1, va_rf a0), (2, .int a1), (3, .int x12), (4, va_rf x42)] → wsH G Zd A s e48 H locs → W p l e (rmH Zd (7) st.1) s m args below meth c H locs cells slots Q (F0 m 73 ls []) := by
          intro H locs cells slots ls hl hw
          cases h
          exact finH_v hQ hx hb hr hlk hE hw d8_4_73
        clear h
        refine lv_if_eq (tgt := 58) hx hb d8_4_46 rfl (fun c50 => ?_) (fun c50 => ?_)
        ·
          replace h := (if_pos c50).symm.trans hX
          refine xq_aload (r := x42) hx hb d8_4_58 (lv_at hl.1 0 rfl) ?_
          refine lv_iconst (v := 0) hx hb d8_4_60 (by decide) ?_
          obtain ⟨a51z, hn51, h⟩ := ob h
          have hn51 : x42 = some a51z := hn51
          refine W.eq (g2 := F0 m 61 ls [.int 0, .ref a51z]) (by rw [hn51]; rfl) ?_
          obtain ⟨st52, hr, h⟩ := ob h
          refine xpN (ci := 7) (ty := .int) (C := r_7) (T := f_7) (N := 5) (ref := "PagedValues$Selector") hx hb hts (fun w h => List.mem_cons_of_mem _ (ly_7 w h)) ft_7 ft_7_ok nm_7 hown hE hw rfl 2 (by decide) (va_Nw.use rfl (hZ.1.1 _ kn148)) (fun _ h9 => h9) rfl hr (by decide +kernel) rfl rfl d8_4_61 (fun H locs hw => ?_)
          clear hr
          refine xq_aload (r := x42) hx hb d8_4_64 (lv_at hl.1 0 rfl) ?_
          refine xq_aload_n (r := a0) hx hb d8_4_66 rfl (lv_at hl.1 3 rfl) ?_
          refine W.eq (g2 := F0 m 67 ls [.ref a11z, va_rf x42]) (by rw [hn11]; rfl) ?_
          obtain ⟨u9, ho, h⟩ := ob h
          obtain ⟨⟨x53, st54⟩, hc, h⟩ := ob h
          refine hV_q (ci := 1) (As := []) (rest := [va_rf x42]) ⟨hx, hb, hml, hown, hts⟩ (cc_Text_plainName l G Zd K a11z st52 x53 st54 hc) (kw_V (n := 0) hts k921 k918 k2 k919 k920 (by decide +kernel) ⟨Nat.le_of_ble_eq_true rfl, Nat.le_of_ble_eq_true rfl⟩) hE hw rfl rfl ho rfl hl.1.1 rfl (c1_8 (c1_c (rf_cat _) c1_n) (Nat.le_of_ble_eq_true rfl)) d8_4_67 (fun H locs cells slots hw => ?_)
          clear hc ho u9
          refine W.eq (g2 := F0 m 70 ls [va_rf x53, va_rf x42]) rfl ?_
          refine W.eq (g2 := F0 m 70 ls [va_rf x53, .ref a51z]) (by rw [hn51]; rfl) ?_
          obtain ⟨st56, hr, h⟩ := ob h
          refine xpN (ci := 7) (ty := (ft_7 3)) (C := r_7) (T := f_7) (N := 5) (ref := "PagedValues$Selector") hx hb hts (fun w h => List.mem_cons_of_mem _ (ly_7 w h)) ft_7 ft_7_ok nm_7 hown hE hw rfl 3 (by decide) (va_Nw.use rfl (hZ.1.1 _ kn151)) (fun _ h9 => h9) rfl hr (by decide +kernel) (rf_narO _) (rf_fitO _) d8_4_70 (fun H locs hw => ?_)
          clear hr
          have e9 := Option.some.inj h
          subst e48
          have hl := lw_sub hl (l' := [(0, .ref o), (1, va_rf a0), (2, .int a1), (3, .int x12), (4, va_rf x42)]) [2, 3, 4, 1, 0] rfl
          exact hj _ _ _ _ _ hl hw
        ·
          replace h := (if_neg c50).symm.trans hX
          refine xq_aload (r := x42) hx hb d8_4_49 (lv_at hl.1 0 rfl) ?_
          refine lv_iconst (v := 2) hx hb d8_4_51 (by decide) ?_
          obtain ⟨a57z, hn57, h⟩ := ob h
          have hn57 : x42 = some a57z := hn57
          refine W.eq (g2 := F0 m 52 ls [.int 2, .ref a57z]) (by rw [hn57]; rfl) ?_
          obtain ⟨st58, hr, h⟩ := ob h
          refine xpN (ci := 7) (ty := .int) (C := r_7) (T := f_7) (N := 5) (ref := "PagedValues$Selector") hx hb hts (fun w h => List.mem_cons_of_mem _ (ly_7 w h)) ft_7 ft_7_ok nm_7 hown hE hw rfl 2 (by decide) (va_Nw.use rfl (hZ.1.1 _ kn148)) (fun _ h9 => h9) rfl hr (by decide +kernel) rfl rfl d8_4_52 (fun H locs hw => ?_)
          clear hr
          refine lv_goto (tgt := 73) hx hb d8_4_55 rfl ?_
          have e9 := Option.some.inj h
          subst e48
          have hl := lw_sub hl (l' := [(0, .ref o), (1, va_rf a0), (2, .int a1), (3, .int x12), (4, va_rf x42)]) [2, 3, 4, 1, 0] rfl
          exact hj _ _ _ _ _ hl hw
      ·
        replace h := (if_pos c41).symm.trans h
        refine xq_aload_n (r := a0) hx hb d8_4_27 rfl (lv_at hl.1 2 rfl) ?_
        refine W.eq (g2 := F0 m 28 ls [.ref a11z]) (by rw [hn11]; rfl) ?_
        obtain ⟨u9, ho, h⟩ := ob h
        obtain ⟨st60, hc, h⟩ := ob h
        refine hV_v (ci := 1) (As := []) (rest := []) ⟨hx, hb, hml, hown, hts⟩ (cc_Text_fail l G Zd K a11z st st60 hc) (kw_V (n := 0) hts k333 k913 k2 k331 k332 (by decide +kernel) ⟨Nat.le_of_ble_eq_true rfl, Nat.le_of_ble_eq_true rfl⟩) hE hw rfl rfl ho rfl hl.1.1 rfl (c1_8 c1_n (Nat.le_of_ble_eq_true rfl)) d8_4_28 (fun H locs cells slots hw => ?_)
        clear hc ho u9
        refine W.eq (g2 := F0 m 31 ls []) rfl ?_
        cases h
        exact finH_v hQ hx hb hr hlk hE hw d8_4_31
def c_Query_segment (Zd : Nat → Nat) (K : KE) (o : Nat) (a0 : Option Nat) (st : CS) : Option (CS) := a0.bind fun a11z => (isO K st a11z 1).bind fun _ => (c_Text_take Zd K a11z (46 : Int32) st).bind fun r14 => (if r14.1 = (0 : Int32) then (some ((0 : Int32), r14.2)) else ((isO K r14.2 a11z 1).bind fun _ => (c_Text_take Zd K a11z (46 : Int32) r14.2).bind fun r41 => if r41.1 = (0 : Int32) then (some ((0 : Int32), r41.2)) else (some ((1 : Int32), r41.2)))).bind fun e15 => (if r14.1 = (0 : Int32) then ((isO K e15.2 o 6).bind fun _ => (c_Query_bracket Zd K o a0 e15.1 e15.2).bind fun st22 => some st22) else (if e15.1 = (0 : Int32) then ((isO K e15.2 o 6).bind fun _ => (c_Query_dottedSelector Zd K o a0 e15.1 e15.2).bind fun st26 => some st26) else ((isO K e15.2 a11z 1).bind fun _ => (c_Text_ahead Zd K a11z e15.2).bind fun x28 => if x28 = (91 : Int32) then ((isO K e15.2 o 6).bind fun _ => (c_Query_bracket Zd K o a0 e15.1 e15.2).bind fun st33 => some st33) else ((isO K e15.2 o 6).bind fun _ => (c_Query_dottedSelector Zd K o a0 e15.1 e15.2).bind fun st36 => some st36)))).bind fun e18 => some e18
set_option maxHeartbeats 4000000 in
set_option maxRecDepth 100000 in
theorem cc_Query_segment (l : Launch) (G : Gk) (Zd : Nat → Nat) (K : KE) (o : Nat) (a0 : Option Nat) (st : CS) (st0 : CS) (hm : c_Query_segment Zd K o a0 st = some st0) : CT l y8_3 prog_8_method_3_code 4 none G Zd K (10) [.ref o, va_rf a0] st (hV G Zd st0) := by
  refine goH (d := 10) (y := y8_3) (cc := prog_8_method_3_code) (maxL := 4) (ret := none) (av := [.ref o, va_rf a0]) (Qc := hV G Zd st0) "PagedValues$Query" rfl (by decide) (c1_c rfl (c1_c (rf_cat _) c1_n)) (Nat.le_of_ble_eq_true rfl) ?_
  intro p e s m below meth c ls A args Q hQ hx hb hr hlk hml hown hts hin hl hE hw
  have hl : lw ls 4 [(0, .ref o), (1, va_rf a0)] := hl
  have hZ := hE.2.2.1
  have h := hm
  clear hm
  refine xq_aload_n (r := a0) hx hb d8_3_0 rfl (lv_at hl.1 1 rfl) ?_
  refine lv_bipush (v := 46) hx hb d8_3_1 (by decide) ?_
  obtain ⟨a11z, hn11, h⟩ := ob h
  have hn11 : a0 = some a11z := hn11
  refine W.eq (g2 := F0 m 3 ls [.int 46, .ref a11z]) (by rw [hn11]; rfl) ?_
  obtain ⟨u9, ho, h⟩ := ob h
  obtain ⟨⟨x12, st13⟩, hc, h⟩ := ob h
  refine hV_i (ci := 1) (As := [.int 46]) (rest := []) ⟨hx, hb, hml, hown, hts⟩ (cc_Text_take l G Zd K a11z (46 : Int32) st x12 st13 hc) (kw_V (n := 1) hts k384 k904 k2 k382 k383 (by decide +kernel) ⟨Nat.le_of_ble_eq_true rfl, Nat.le_of_ble_eq_true rfl⟩) hE hw rfl rfl ho rfl hl.1.1 rfl (c1_8 c1_n (Nat.le_of_ble_eq_true rfl)) d8_3_3 (fun H locs cells slots hw => ?_)
  clear hc ho u9
  refine W.eq (g2 := F0 m 6 ls [.int x12]) rfl ?_
  refine xt_istore_n (x := x12) (lv' := [(2, .int x12), (0, .ref o), (1, va_rf a0)]) hx hb d8_3_6 rfl hl (by decide) rfl (fun ls hl => ?_)
  refine lv_iload_n hx hb d8_3_7 rfl (lv_at hl.1 0 rfl) ?_
  obtain ⟨e15, hX, h⟩ := ob h
  obtain ⟨v16, v17⟩ := e15
  have hj : ∀ (H : Heap) (locs : List Loc) (cells slots : Nat) (ls : Array Slot), lw ls 4 [(0, .ref o), (1, va_rf a0), (2, .int x12)] → wsH G Zd A s v17 H locs → W p l e (rmH Zd (10) st.1) s m args below meth c H locs cells slots Q (F0 m 25 ls [.int v16]) := by
    intro H locs cells slots ls hl hw
    refine xt_istore_n (x := v16) (lv' := [(3, .int v16), (0, .ref o), (1, va_rf a0), (2, .int x12)]) hx hb d8_3_25 rfl hl (by decide) rfl (fun ls hl => ?_)
    refine lv_iload_n hx hb d8_3_26 rfl (lv_at hl.1 3 rfl) ?_
    obtain ⟨e18, hX, h⟩ := ob h
    have hj : ∀ (H : Heap) (locs : List Loc) (cells slots : Nat) (ls : Array Slot), lw ls 4 [(0, .ref o), (1, va_rf a0), (2, .int x12), (3, .int v16)] → wsH G Zd A s e18 H locs → W p l e (rmH Zd (10) st.1) s m args below meth c H locs cells slots Q (F0 m 58 ls []) := by
      intro H locs cells slots ls hl hw
      cases h
      exact finH_v hQ hx hb hr hlk hE hw d8_3_58
    clear h
    refine lv_if_eq (tgt := 52) hx hb d8_3_27 rfl (fun c20 => ?_) (fun c20 => ?_)
    ·
      replace h := (if_pos c20).symm.trans hX
      refine lv_aload_n hx hb d8_3_52 rfl (lv_at hl.1 1 rfl) ?_
      refine xq_aload_n (r := a0) hx hb d8_3_53 rfl (lv_at hl.1 2 rfl) ?_
      refine lv_iload_n hx hb d8_3_54 rfl (lv_at hl.1 0 rfl) ?_
      obtain ⟨u9, ho, h⟩ := ob h
      obtain ⟨st22, hc, h⟩ := ob h
      refine hV_v (ci := 6) (As := [va_rf a0, .int v16]) (rest := []) ⟨hx, hb, hml, hown, hts⟩ (cc_Query_bracket l G Zd K o a0 v16 v17 st22 hc) (kw_V (n := 2) hts k929 k926 k10 k928 ks25 (by decide +kernel) ⟨Nat.le_of_ble_eq_true rfl, Nat.le_of_ble_eq_true rfl⟩) hE hw rfl rfl ho rfl hl.1.1 rfl (c1_8 c1_n (Nat.le_of_ble_eq_true rfl)) d8_3_55 (fun H locs cells slots hw => ?_)
      clear hc ho u9
      refine W.eq (g2 := F0 m 58 ls []) rfl ?_
      have e9 := Option.some.inj h
      subst e18
      have hl := lw_sub hl (l' := [(0, .ref o), (1, va_rf a0), (2, .int x12), (3, .int v16)]) [1, 2, 3, 0] rfl
      exact hj _ _ _ _ _ hl hw
    ·
      replace h := (if_neg c20).symm.trans hX
      refine lv_iload_n hx hb d8_3_30 rfl (lv_at hl.1 0 rfl) ?_
      refine lv_if_eq (tgt := 43) hx hb d8_3_31 rfl (fun c24 => ?_) (fun c24 => ?_)
      ·
        replace h := (if_pos c24).symm.trans h
        refine lv_aload_n hx hb d8_3_43 rfl (lv_at hl.1 1 rfl) ?_
        refine xq_aload_n (r := a0) hx hb d8_3_44 rfl (lv_at hl.1 2 rfl) ?_
        refine lv_iload_n hx hb d8_3_45 rfl (lv_at hl.1 0 rfl) ?_
        obtain ⟨u9, ho, h⟩ := ob h
        obtain ⟨st26, hc, h⟩ := ob h
        refine hV_v (ci := 6) (As := [va_rf a0, .int v16]) (rest := []) ⟨hx, hb, hml, hown, hts⟩ (cc_Query_dottedSelector l G Zd K o a0 v16 v17 st26 hc) (kw_V (n := 2) hts k909 k906 k10 k908 ks23 (by decide +kernel) ⟨Nat.le_of_ble_eq_true rfl, Nat.le_of_ble_eq_true rfl⟩) hE hw rfl rfl ho rfl hl.1.1 rfl (c1_8 c1_n (Nat.le_of_ble_eq_true rfl)) d8_3_46 (fun H locs cells slots hw => ?_)
        clear hc ho u9
        refine W.eq (g2 := F0 m 49 ls []) rfl ?_
        refine lv_goto (tgt := 58) hx hb d8_3_49 rfl ?_
        have e9 := Option.some.inj h
        subst e18
        have hl := lw_sub hl (l' := [(0, .ref o), (1, va_rf a0), (2, .int x12), (3, .int v16)]) [1, 2, 3, 0] rfl
        exact hj _ _ _ _ _ hl hw
      ·
        replace h := (if_neg c24).symm.trans h
        refine xq_aload_n (r := a0) hx hb d8_3_34 rfl (lv_at hl.1 2 rfl) ?_
        refine W.eq (g2 := F0 m 35 ls [.ref a11z]) (by rw [hn11]; rfl) ?_
        obtain ⟨u9, ho, h⟩ := ob h
        obtain ⟨x28, hc, h⟩ := ob h
        refine hV_i (ci := 1) (As := []) (rest := []) ⟨hx, hb, hml, hown, hts⟩ (cc_Text_ahead l G Zd K a11z v17 x28 hc) (kw_V (n := 0) hts k326 k905 k2 k324 k325 (by decide +kernel) ⟨Nat.le_of_ble_eq_true rfl, Nat.le_of_ble_eq_true rfl⟩) hE hw rfl rfl ho rfl hl.1.1 rfl (c1_8 c1_n (Nat.le_of_ble_eq_true rfl)) d8_3_35 (fun H locs cells slots hw => ?_)
        clear hc ho u9
        refine W.eq (g2 := F0 m 38 ls [.int x28]) rfl ?_
        refine lv_bipush (v := 91) hx hb d8_3_38 (by decide) ?_
        refine lv_icmp_eq (tgt := 52) hx hb d8_3_40 rfl (fun c31 => ?_) (fun c31 => ?_)
        ·
          replace h := (if_pos c31).symm.trans h
          refine lv_aload_n hx hb d8_3_52 rfl (lv_at hl.1 1 rfl) ?_
          refine xq_aload_n (r := a0) hx hb d8_3_53 rfl (lv_at hl.1 2 rfl) ?_
          refine lv_iload_n hx hb d8_3_54 rfl (lv_at hl.1 0 rfl) ?_
          obtain ⟨u9, ho, h⟩ := ob h
          obtain ⟨st33, hc, h⟩ := ob h
          refine hV_v (ci := 6) (As := [va_rf a0, .int v16]) (rest := []) ⟨hx, hb, hml, hown, hts⟩ (cc_Query_bracket l G Zd K o a0 v16 v17 st33 hc) (kw_V (n := 2) hts k929 k926 k10 k928 ks25 (by decide +kernel) ⟨Nat.le_of_ble_eq_true rfl, Nat.le_of_ble_eq_true rfl⟩) hE hw rfl rfl ho rfl hl.1.1 rfl (c1_8 c1_n (Nat.le_of_ble_eq_true rfl)) d8_3_55 (fun H locs cells slots hw => ?_)
          clear hc ho u9
          refine W.eq (g2 := F0 m 58 ls []) rfl ?_
          have e9 := Option.some.inj h
          subst e18
          have hl := lw_sub hl (l' := [(0, .ref o), (1, va_rf a0), (2, .int x12), (3, .int v16)]) [1, 2, 3, 0] rfl
          exact hj _ _ _ _ _ hl hw
        ·
          replace h := (if_neg c31).symm.trans h
          refine lv_aload_n hx hb d8_3_43 rfl (lv_at hl.1 1 rfl) ?_
          refine xq_aload_n (r := a0) hx hb d8_3_44 rfl (lv_at hl.1 2 rfl) ?_
          refine lv_iload_n hx hb d8_3_45 rfl (lv_at hl.1 0 rfl) ?_
          obtain ⟨u9, ho, h⟩ := ob h
          obtain ⟨st36, hc, h⟩ := ob h
          refine hV_v (ci := 6) (As := [va_rf a0, .int v16]) (rest := []) ⟨hx, hb, hml, hown, hts⟩ (cc_Query_dottedSelector l G Zd K o a0 v16 v17 st36 hc) (kw_V (n := 2) hts k909 k906 k10 k908 ks23 (by decide +kernel) ⟨Nat.le_of_ble_eq_true rfl, Nat.le_of_ble_eq_true rfl⟩) hE hw rfl rfl ho rfl hl.1.1 rfl (c1_8 c1_n (Nat.le_of_ble_eq_true rfl)) d8_3_46 (fun H locs cells slots hw => ?_)
          clear hc ho u9
          refine W.eq (g2 := F0 m 49 ls []) rfl ?_
          refine lv_goto (tgt := 58) hx hb d8_3_49 rfl ?_
          have e9 := Option.some.inj h
          subst e18
          have hl := lw_sub hl (l' := [(0, .ref o), (1, va_rf a0), (2, .int x12), (3, .int v16)]) [1, 2, 3, 0] rfl
          exact hj _ _ _ _ _ hl hw
  clear h
  refine lv_if_eq (tgt := 24) hx hb d8_3_8 rfl (fun c38 => ?_) (fun c38 => ?_)
  ·
    replace h := (if_pos c38).symm.trans hX
    refine lv_iconst (v := 0) hx hb d8_3_24 (by decide) ?_
    have e9_0 := Option.some.inj h
    obtain ⟨q9, e9_1⟩ := Prod.mk.inj e9_0
    clear e9_0
    subst v16
    subst v17
    have hl := lw_sub hl (l' := [(0, .ref o), (1, va_rf a0), (2, .int x12)]) [1, 2, 0] rfl
    exact hj _ _ _ _ _ hl hw
  ·
    replace h := (if_neg c38).symm.trans hX
    refine xq_aload_n (r := a0) hx hb d8_3_11 rfl (lv_at hl.1 2 rfl) ?_
    refine lv_bipush (v := 46) hx hb d8_3_12 (by decide) ?_
    refine W.eq (g2 := F0 m 14 ls [.int 46, .ref a11z]) (by rw [hn11]; rfl) ?_
    obtain ⟨u9, ho, h⟩ := ob h
    obtain ⟨⟨x39, st40⟩, hc, h⟩ := ob h
    refine hV_i (ci := 1) (As := [.int 46]) (rest := []) ⟨hx, hb, hml, hown, hts⟩ (cc_Text_take l G Zd K a11z (46 : Int32) st13 x39 st40 hc) (kw_V (n := 1) hts k384 k904 k2 k382 k383 (by decide +kernel) ⟨Nat.le_of_ble_eq_true rfl, Nat.le_of_ble_eq_true rfl⟩) hE hw rfl rfl ho rfl hl.1.1 rfl (c1_8 c1_n (Nat.le_of_ble_eq_true rfl)) d8_3_14 (fun H locs cells slots hw => ?_)
    clear hc ho u9
    refine W.eq (g2 := F0 m 17 ls [.int x39]) rfl ?_
    refine lv_if_eq (tgt := 24) hx hb d8_3_17 rfl (fun c42 => ?_) (fun c42 => ?_)
    ·
      replace h := (if_pos c42).symm.trans h
      refine lv_iconst (v := 0) hx hb d8_3_24 (by decide) ?_
      have e9_0 := Option.some.inj h
      obtain ⟨q9, e9_1⟩ := Prod.mk.inj e9_0
      clear e9_0
      subst v16
      subst v17
      have hl := lw_sub hl (l' := [(0, .ref o), (1, va_rf a0), (2, .int x12)]) [1, 2, 0] rfl
      exact hj _ _ _ _ _ hl hw
    ·
      replace h := (if_neg c42).symm.trans h
      refine lv_iconst (v := 1) hx hb d8_3_20 (by decide) ?_
      refine lv_goto (tgt := 25) hx hb d8_3_21 rfl ?_
      have e9_0 := Option.some.inj h
      obtain ⟨q9, e9_1⟩ := Prod.mk.inj e9_0
      clear e9_0
      subst v16
      subst v17
      have hl := lw_sub hl (l' := [(0, .ref o), (1, va_rf a0), (2, .int x12)]) [1, 2, 0] rfl
      exact hj _ _ _ _ _ hl hw
def c_Query_parse_l1 (Zd : Nat → Nat) (K : KE) (o : Nat) (a0 : Option Nat) (a12z : Nat) : Nat → (Int32 × CS) → Option (Int32 × CS)
  | 0, _ => none
  | n9 + 1, e9 => if (8 : Int32) < e9.1 then (some (e9.1, e9.2)) else ((isO K e9.2 a12z 1).bind fun _ => (c_Text_isRight Zd K a12z e9.2).bind fun x25 => if x25 = (0 : Int32) then (some (e9.1, e9.2)) else ((isO K e9.2 a12z 1).bind fun _ => (c_Text_atEnd Zd K a12z e9.2).bind fun x29 => if x29 = (0 : Int32) then ((isO K e9.2 o 6).bind fun _ => (c_Query_segment Zd K o a0 e9.2).bind fun st34 => (some (e9.1 + 1)).bind fun y36 => c_Query_parse_l1 Zd K o a0 a12z n9 (y36, st34)) else (some (e9.1, e9.2))))
theorem c_Query_parse_l1_s (Zd : Nat → Nat) (K : KE) (o : Nat) (a0 : Option Nat) (a12z : Nat) (n9 : Nat) (e9 : Int32 × CS) : c_Query_parse_l1 Zd K o a0 a12z (n9 + 1) e9 = (if (8 : Int32) < e9.1 then (some (e9.1, e9.2)) else ((isO K e9.2 a12z 1).bind fun _ => (c_Text_isRight Zd K a12z e9.2).bind fun x25 => if x25 = (0 : Int32) then (some (e9.1, e9.2)) else ((isO K e9.2 a12z 1).bind fun _ => (c_Text_atEnd Zd K a12z e9.2).bind fun x29 => if x29 = (0 : Int32) then ((isO K e9.2 o 6).bind fun _ => (c_Query_segment Zd K o a0 e9.2).bind fun st34 => (some (e9.1 + 1)).bind fun y36 => c_Query_parse_l1 Zd K o a0 a12z n9 (y36, st34)) else (some (e9.1, e9.2))))) := rfl
def c_Query_parse (Zd : Nat → Nat) (K : KE) (o : Nat) (a0 : Option Nat) (st : CS) : Option (CS) := (sF st o 6 1 (.int 0)).bind fun st11 => a0.bind fun a12z => (isO K st11 a12z 1).bind fun _ => (c_Text_begin Zd K a12z st11).bind fun st14 => (isO K st14 a12z 1).bind fun _ => (c_Text_need Zd K a12z (36 : Int32) st14).bind fun r18 => (c_Query_parse_l1 Zd K o a0 a12z 4096 ((0 : Int32), r18.2)).bind fun e19 => some e19.2
set_option maxHeartbeats 4000000 in
set_option maxRecDepth 100000 in
theorem cc_Query_parse (l : Launch) (G : Gk) (Zd : Nat → Nat) (K : KE) (o : Nat) (a0 : Option Nat) (st : CS) (st0 : CS) (hm : c_Query_parse Zd K o a0 st = some st0) : CT l y8_2 prog_8_method_2_code 3 none G Zd K (11) [.ref o, va_rf a0] st (hV G Zd st0) := by
  refine goH (d := 11) (y := y8_2) (cc := prog_8_method_2_code) (maxL := 3) (ret := none) (av := [.ref o, va_rf a0]) (Qc := hV G Zd st0) "PagedValues$Query" rfl (by decide) (c1_c rfl (c1_c (rf_cat _) c1_n)) (Nat.le_of_ble_eq_true rfl) ?_
  intro p e s m below meth c ls A args Q hQ hx hb hr hlk hml hown hts hin hl hE hw
  have hl : lw ls 3 [(0, .ref o), (1, va_rf a0)] := hl
  have hZ := hE.2.2.1
  have h := hm
  clear hm
  refine lv_aload_n hx hb d8_2_0 rfl (lv_at hl.1 0 rfl) ?_
  refine lv_iconst (v := 0) hx hb d8_2_1 (by decide) ?_
  obtain ⟨st11, hr, h⟩ := ob h
  refine xp (ci := 6) (ty := .int) (C := r_6) (T := f_6) (N := 2) (ref := "PagedValues$Query") hx hb hts (fun w h => List.mem_cons_of_mem _ (ly_6 w h)) ft_6 ft_6_ok nm_6 hown hE hw rfl 1 (by decide) (hts _ (List.mem_cons_of_mem _ k168)) (fun _ h9 => h9) rfl hr (by decide +kernel) rfl rfl d8_2_2 (fun H locs hw => ?_)
  clear hr
  refine xq_aload_n (r := a0) hx hb d8_2_5 rfl (lv_at hl.1 1 rfl) ?_
  obtain ⟨a12z, hn12, h⟩ := ob h
  have hn12 : a0 = some a12z := hn12
  refine W.eq (g2 := F0 m 6 ls [.ref a12z]) (by rw [hn12]; rfl) ?_
  obtain ⟨u9, ho, h⟩ := ob h
  obtain ⟨st14, hc, h⟩ := ob h
  refine hV_v (ci := 1) (As := []) (rest := []) ⟨hx, hb, hml, hown, hts⟩ (cc_Text_begin l G Zd K a12z st11 st14 hc) (kw_V (n := 0) hts k314 k896 k2 k312 k313 (by decide +kernel) ⟨Nat.le_of_ble_eq_true rfl, Nat.le_of_ble_eq_true rfl⟩) hE hw rfl rfl ho rfl hl.1.1 rfl (c1_8 c1_n (Nat.le_of_ble_eq_true rfl)) d8_2_6 (fun H locs cells slots hw => ?_)
  clear hc ho u9
  refine W.eq (g2 := F0 m 9 ls []) rfl ?_
  refine xq_aload_n (r := a0) hx hb d8_2_9 rfl (lv_at hl.1 1 rfl) ?_
  refine lv_bipush (v := 36) hx hb d8_2_10 (by decide) ?_
  refine W.eq (g2 := F0 m 12 ls [.int 36, .ref a12z]) (by rw [hn12]; rfl) ?_
  obtain ⟨u9, ho, h⟩ := ob h
  obtain ⟨⟨x16, st17⟩, hc, h⟩ := ob h
  refine hV_i (ci := 1) (As := [.int 36]) (rest := []) ⟨hx, hb, hml, hown, hts⟩ (cc_Text_need l G Zd K a12z (36 : Int32) st14 x16 st17 hc) (kw_V (n := 1) hts k380 k897 k2 k378 k379 (by decide +kernel) ⟨Nat.le_of_ble_eq_true rfl, Nat.le_of_ble_eq_true rfl⟩) hE hw rfl rfl ho rfl hl.1.1 rfl (c1_8 c1_n (Nat.le_of_ble_eq_true rfl)) d8_2_12 (fun H locs cells slots hw => ?_)
  clear hc ho u9
  refine W.eq (g2 := F0 m 15 ls [.int x16]) rfl ?_
  refine lv_pop hx hb d8_2_15 rfl ?_
  refine lv_iconst (v := 0) hx hb d8_2_16 (by decide) ?_
  refine xt_istore_n (x := 0) (lv' := [(2, .int 0), (0, .ref o), (1, va_rf a0)]) hx hb d8_2_17 rfl hl (by decide) rfl (fun ls hl => ?_)
  obtain ⟨e19, hX, hrest⟩ := ob h
  clear h
  have hj : ∀ (v22 : Int32) (v23 : CS), e19 = (v22, v23) → ∀ (H : Heap) (locs : List Loc) (cells slots : Nat) (ls : Array Slot), lw ls 3 [(0, .ref o), (1, va_rf a0), (2, .int v22)] → wsH G Zd A s v23 H locs → W p l e (rmH Zd (11) st.1) s m args below meth c H locs cells slots Q (F0 m 49 ls []) := by
    intro v22 v23 he H locs cells slots ls hl hw
    subst e19
    have h := hrest
    clear hrest
    cases h
    exact finH_v hQ hx hb hr hlk hE hw d8_2_49
  have hloop : ∀ (n9 : Nat) (v20 : Int32) (v21 : CS), c_Query_parse_l1 Zd K o a0 a12z n9 (v20, v21) = some e19 → ∀ (H : Heap) (locs : List Loc) (cells slots : Nat) (ls : Array Slot), lw ls 3 [(0, .ref o), (1, va_rf a0), (2, .int v20)] → wsH G Zd A s v21 H locs → W p l e (rmH Zd (11) st.1) s m args below meth c H locs cells slots Q (F0 m 18 ls []) := by
    intro n9
    induction n9 with
    | zero =>
      intro v20 v21 h
      cases h
    | succ n9 ih =>
      intro v20 v21 h H locs cells slots ls hl hw
      replace h := (c_Query_parse_l1_s Zd K o a0 a12z n9 (v20, v21)).symm.trans h
      refine lv_iload_n hx hb d8_2_18 rfl (lv_at hl.1 2 rfl) ?_
      refine lv_bipush (v := 8) hx hb d8_2_19 (by decide) ?_
      refine lv_icmp_gt (tgt := 49) hx hb d8_2_21 rfl (fun c24 => ?_) (fun c24 => ?_)
      ·
        replace h := (if_pos c24).symm.trans h
        have e9 := Option.some.inj h
        subst e19
        have hl := lw_sub hl (l' := [(0, .ref o), (1, va_rf a0), (2, .int v20)]) [0, 1, 2] rfl
        exact hj _ _ rfl _ _ _ _ _ hl hw
      ·
        replace h := (if_neg c24).symm.trans h
        refine xq_aload_n (r := a0) hx hb d8_2_24 rfl (lv_at hl.1 1 rfl) ?_
        refine W.eq (g2 := F0 m 25 ls [.ref a12z]) (by rw [hn12]; rfl) ?_
        obtain ⟨u9, ho, h⟩ := ob h
        obtain ⟨x25, hc, h⟩ := ob h
        refine hV_i (ci := 1) (As := []) (rest := []) ⟨hx, hb, hml, hown, hts⟩ (cc_Text_isRight l G Zd K a12z v21 x25 hc) (kw_V (n := 0) hts k580 k898 k2 k578 k579 (by decide +kernel) ⟨Nat.le_of_ble_eq_true rfl, Nat.le_of_ble_eq_true rfl⟩) hE hw rfl rfl ho rfl hl.1.1 rfl (c1_8 c1_n (Nat.le_of_ble_eq_true rfl)) d8_2_25 (fun H locs cells slots hw => ?_)
        clear hc ho u9
        refine W.eq (g2 := F0 m 28 ls [.int x25]) rfl ?_
        refine lv_if_eq (tgt := 49) hx hb d8_2_28 rfl (fun c28 => ?_) (fun c28 => ?_)
        ·
          replace h := (if_pos c28).symm.trans h
          have e9 := Option.some.inj h
          subst e19
          have hl := lw_sub hl (l' := [(0, .ref o), (1, va_rf a0), (2, .int v20)]) [0, 1, 2] rfl
          exact hj _ _ rfl _ _ _ _ _ hl hw
        ·
          replace h := (if_neg c28).symm.trans h
          refine xq_aload_n (r := a0) hx hb d8_2_31 rfl (lv_at hl.1 1 rfl) ?_
          refine W.eq (g2 := F0 m 32 ls [.ref a12z]) (by rw [hn12]; rfl) ?_
          obtain ⟨u9, ho, h⟩ := ob h
          obtain ⟨x29, hc, h⟩ := ob h
          refine hV_i (ci := 1) (As := []) (rest := []) ⟨hx, hb, hml, hown, hts⟩ (cc_Text_atEnd l G Zd K a12z v21 x29 hc) (kw_V (n := 0) hts k670 k899 k2 k668 k669 (by decide +kernel) ⟨Nat.le_of_ble_eq_true rfl, Nat.le_of_ble_eq_true rfl⟩) hE hw rfl rfl ho rfl hl.1.1 rfl (c1_8 c1_n (Nat.le_of_ble_eq_true rfl)) d8_2_32 (fun H locs cells slots hw => ?_)
          clear hc ho u9
          refine W.eq (g2 := F0 m 35 ls [.int x29]) rfl ?_
          refine lv_if_ne (tgt := 49) hx hb d8_2_35 rfl (fun c32 => ?_) (fun c32 => ?_)
          ·
            replace h := (if_neg c32).symm.trans h
            have e9 := Option.some.inj h
            subst e19
            have hl := lw_sub hl (l' := [(0, .ref o), (1, va_rf a0), (2, .int v20)]) [0, 1, 2] rfl
            exact hj _ _ rfl _ _ _ _ _ hl hw
          ·
            replace h := (if_pos c32).symm.trans h
            refine lv_aload_n hx hb d8_2_38 rfl (lv_at hl.1 0 rfl) ?_
            refine xq_aload_n (r := a0) hx hb d8_2_39 rfl (lv_at hl.1 1 rfl) ?_
            obtain ⟨u9, ho, h⟩ := ob h
            obtain ⟨st34, hc, h⟩ := ob h
            refine hV_v (ci := 6) (As := [va_rf a0]) (rest := []) ⟨hx, hb, hml, hown, hts⟩ (cc_Query_segment l G Zd K o a0 v21 st34 hc) (kw_V (n := 1) hts k903 k900 k10 k902 ks22 (by decide +kernel) ⟨Nat.le_of_ble_eq_true rfl, Nat.le_of_ble_eq_true rfl⟩) hE hw rfl rfl ho rfl hl.1.1 rfl (c1_8 c1_n (Nat.le_of_ble_eq_true rfl)) d8_2_40 (fun H locs cells slots hw => ?_)
            clear hc ho u9
            refine W.eq (g2 := F0 m 43 ls []) rfl ?_
            obtain ⟨y36, hr, h⟩ := ob h
            refine xt_iinc (k := 2) (v := y36) (lv' := [(2, .int y36), (0, .ref o), (1, va_rf a0)]) hx hb d8_2_43 hl rfl hr (by decide) rfl (fun ls hl => ?_)
            clear hr
            refine lv_goto (tgt := 18) hx hb d8_2_46 rfl ?_
            have hl := lw_sub hl (l' := [(0, .ref o), (1, va_rf a0), (2, .int y36)]) [1, 2, 0] rfl
            exact ih _ _ h _ _ _ _ _ hl hw
  have hl := lw_sub hl (l' := [(0, .ref o), (1, va_rf a0), (2, .int 0)]) [1, 2, 0] rfl
  exact hloop _ _ _ hX _ _ _ _ _ hl hw
theorem d3_5_0 : decode prog_3_method_5_code 0 = .ok (.aload_n 2, 1) := by decide +kernel
theorem d3_5_1 : decode prog_3_method_5_code 1 = .ok (.ifnonnull 4, 3) := by decide +kernel
theorem d3_5_4 : decode prog_3_method_5_code 4 = .ok (.return_, 1) := by decide +kernel
theorem d3_5_5 : decode prog_3_method_5_code 5 = .ok (.aload_n 0, 1) := by decide +kernel
theorem d3_5_6 : decode prog_3_method_5_code 6 = .ok (.getfield 21, 3) := by decide +kernel
theorem d3_5_9 : decode prog_3_method_5_code 9 = .ok (.iconst 0, 1) := by decide +kernel
theorem d3_5_10 : decode prog_3_method_5_code 10 = .ok (.aload_n 2, 1) := by decide +kernel
theorem d3_5_11 : decode prog_3_method_5_code 11 = .ok (.aastore, 1) := by decide +kernel
theorem d3_5_12 : decode prog_3_method_5_code 12 = .ok (.aload_n 0, 1) := by decide +kernel
theorem d3_5_13 : decode prog_3_method_5_code 13 = .ok (.iconst 1, 1) := by decide +kernel
theorem d3_5_14 : decode prog_3_method_5_code 14 = .ok (.putfield 35, 3) := by decide +kernel
theorem k190 : (Jvm.Cond.fieldLink "PagedValues$Finder" (35 : Nat) "PagedValues$Finder" "rowCount" "I") ∈ TB := tk_1 190 rfl rfl
theorem d3_5_17 : decode prog_3_method_5_code 17 = .ok (.iconst 0, 1) := by decide +kernel
theorem d3_5_18 : decode prog_3_method_5_code 18 = .ok (.istore 4, 2) := by decide +kernel
theorem d3_5_68 : decode prog_3_method_5_code 68 = .ok (.iconst 0, 1) := by decide +kernel
theorem d3_5_69 : decode prog_3_method_5_code 69 = .ok (.istore 4, 2) := by decide +kernel
theorem d3_5_105 : decode prog_3_method_5_code 105 = .ok (.return_, 1) := by decide +kernel
theorem d3_5_71 : decode prog_3_method_5_code 71 = .ok (.iload 4, 2) := by decide +kernel
theorem d3_5_73 : decode prog_3_method_5_code 73 = .ok (.aload_n 0, 1) := by decide +kernel
theorem d3_5_74 : decode prog_3_method_5_code 74 = .ok (.getfield 35, 3) := by decide +kernel
theorem d3_5_77 : decode prog_3_method_5_code 77 = .ok (.if_icmp .ge 28, 3) := by decide +kernel
theorem d3_5_80 : decode prog_3_method_5_code 80 = .ok (.aload_n 0, 1) := by decide +kernel
theorem d3_5_81 : decode prog_3_method_5_code 81 = .ok (.getfield 31, 3) := by decide +kernel
theorem k192 : (Jvm.Cond.fieldLink "PagedValues$Finder" (31 : Nat) "PagedValues$Finder" "tooMany" "Z") ∈ TB := tk_1 192 rfl rfl
theorem d3_5_84 : decode prog_3_method_5_code 84 = .ok (.ifCond .ne 21, 3) := by decide +kernel
theorem d3_5_87 : decode prog_3_method_5_code 87 = .ok (.aload_n 0, 1) := by decide +kernel
theorem d3_5_88 : decode prog_3_method_5_code 88 = .ok (.aload_n 0, 1) := by decide +kernel
theorem d3_5_89 : decode prog_3_method_5_code 89 = .ok (.getfield 21, 3) := by decide +kernel
theorem d3_5_92 : decode prog_3_method_5_code 92 = .ok (.iload 4, 2) := by decide +kernel
theorem d3_5_94 : decode prog_3_method_5_code 94 = .ok (.aaload, 1) := by decide +kernel
theorem d3_5_95 : decode prog_3_method_5_code 95 = .ok (.iload_n 3, 1) := by decide +kernel
theorem d3_5_96 : decode prog_3_method_5_code 96 = .ok (.invokevirtual 58, 3) := by decide +kernel
theorem d3_6_0 : decode prog_3_method_6_code 0 = .ok (.aload_n 0, 1) := by decide +kernel
theorem d3_6_1 : decode prog_3_method_6_code 1 = .ok (.getfield 27, 3) := by decide +kernel
theorem k189 : (Jvm.Cond.fieldLink "PagedValues$Finder" (27 : Nat) "PagedValues$Finder" "count" "I") ∈ TB := tk_1 189 rfl rfl
theorem d3_6_4 : decode prog_3_method_6_code 4 = .ok (.bipush 32, 2) := by decide +kernel
theorem d3_6_6 : decode prog_3_method_6_code 6 = .ok (.if_icmp .lt 9, 3) := by decide +kernel
theorem d3_6_15 : decode prog_3_method_6_code 15 = .ok (.aload_n 0, 1) := by decide +kernel
theorem d3_6_16 : decode prog_3_method_6_code 16 = .ok (.getfield 11, 3) := by decide +kernel
theorem d3_6_19 : decode prog_3_method_6_code 19 = .ok (.aload_n 0, 1) := by decide +kernel
theorem d3_6_20 : decode prog_3_method_6_code 20 = .ok (.getfield 27, 3) := by decide +kernel
theorem d3_6_23 : decode prog_3_method_6_code 23 = .ok (.aload_n 1, 1) := by decide +kernel
theorem d3_6_24 : decode prog_3_method_6_code 24 = .ok (.aastore, 1) := by decide +kernel
theorem d3_6_25 : decode prog_3_method_6_code 25 = .ok (.aload_n 0, 1) := by decide +kernel
theorem d3_6_26 : decode prog_3_method_6_code 26 = .ok (.getfield 17, 3) := by decide +kernel
theorem d3_6_29 : decode prog_3_method_6_code 29 = .ok (.aload_n 0, 1) := by decide +kernel
theorem d3_6_30 : decode prog_3_method_6_code 30 = .ok (.getfield 27, 3) := by decide +kernel
theorem d3_6_33 : decode prog_3_method_6_code 33 = .ok (.iload_n 2, 1) := by decide +kernel
theorem d3_6_34 : decode prog_3_method_6_code 34 = .ok (.iastore, 1) := by decide +kernel
theorem d3_6_35 : decode prog_3_method_6_code 35 = .ok (.aload_n 0, 1) := by decide +kernel
theorem d3_6_36 : decode prog_3_method_6_code 36 = .ok (.dup, 1) := by decide +kernel
theorem d3_6_37 : decode prog_3_method_6_code 37 = .ok (.getfield 27, 3) := by decide +kernel
theorem d3_6_40 : decode prog_3_method_6_code 40 = .ok (.iconst 1, 1) := by decide +kernel
theorem d3_6_41 : decode prog_3_method_6_code 41 = .ok (.iadd, 1) := by decide +kernel
theorem d3_6_42 : decode prog_3_method_6_code 42 = .ok (.putfield 27, 3) := by decide +kernel
theorem d3_6_45 : decode prog_3_method_6_code 45 = .ok (.return_, 1) := by decide +kernel
theorem d3_6_9 : decode prog_3_method_6_code 9 = .ok (.aload_n 0, 1) := by decide +kernel
theorem d3_6_10 : decode prog_3_method_6_code 10 = .ok (.iconst 1, 1) := by decide +kernel
theorem d3_6_11 : decode prog_3_method_6_code 11 = .ok (.putfield 31, 3) := by decide +kernel
theorem d3_6_14 : decode prog_3_method_6_code 14 = .ok (.return_, 1) := by decide +kernel
def y3_6 : MethodName := { cls := "PagedValues$Finder", name := "keep", desc := "(LPagedValues$Value;I)V" }
theorem k978 : (Jvm.Cond.code ({ cls := "PagedValues$Finder", name := "keep", desc := "(LPagedValues$Value;I)V" } : Jvm.MethodName) prog_3_method_6_code (3 : Nat) (Option.none : Option Jvm.ClassFile.FieldType)) ∈ TB := tk_5 18 rfl rfl
theorem k975 : (Jvm.Cond.methodLink "PagedValues$Finder" (58 : Nat) ({ cls := "PagedValues$Finder", name := "keep", desc := "(LPagedValues$Value;I)V" } : Jvm.MethodName)) ∈ TB := tk_5 15 rfl rfl
theorem k977 : (Jvm.Cond.instanceMethod ({ cls := "PagedValues$Finder", name := "keep", desc := "(LPagedValues$Value;I)V" } : Jvm.MethodName)) ∈ TB := tk_5 17 rfl rfl
theorem ks32 : Cond.selects y3_6.cls y3_6 y3_6 ∈ TB := List.mem_filter.mpr ⟨List.mem_append_left _ (List.mem_of_getElem? (i := 32) (by decide +kernel)), rfl⟩
theorem d3_5_99 : decode prog_3_method_5_code 99 = .ok (.iinc 4 1, 3) := by decide +kernel
theorem d3_5_102 : decode prog_3_method_5_code 102 = .ok (.goto (-31), 3) := by decide +kernel
theorem d3_5_20 : decode prog_3_method_5_code 20 = .ok (.iload 4, 2) := by decide +kernel
theorem d3_5_22 : decode prog_3_method_5_code 22 = .ok (.aload_n 1, 1) := by decide +kernel
theorem d3_5_23 : decode prog_3_method_5_code 23 = .ok (.getfield 38, 3) := by decide +kernel
theorem kn169 : (Jvm.Cond.fieldLinkNest "PagedValues$Finder" (38 : Nat) "PagedValues$Query" "count" "I" "PagedValues") ∈ NW := tn_1 169 rfl rfl
theorem d3_5_26 : decode prog_3_method_5_code 26 = .ok (.if_icmp .ge 42, 3) := by decide +kernel
theorem d3_5_29 : decode prog_3_method_5_code 29 = .ok (.aload_n 0, 1) := by decide +kernel
theorem d3_5_30 : decode prog_3_method_5_code 30 = .ok (.getfield 31, 3) := by decide +kernel
theorem d3_5_33 : decode prog_3_method_5_code 33 = .ok (.ifCond .ne 35, 3) := by decide +kernel
theorem d3_5_36 : decode prog_3_method_5_code 36 = .ok (.aload_n 1, 1) := by decide +kernel
theorem d3_5_37 : decode prog_3_method_5_code 37 = .ok (.getfield 41, 3) := by decide +kernel
theorem kn167 : (Jvm.Cond.fieldLinkNest "PagedValues$Finder" (41 : Nat) "PagedValues$Query" "selectors" "[LPagedValues$Selector;" "PagedValues") ∈ NW := tn_1 167 rfl rfl
theorem d3_5_40 : decode prog_3_method_5_code 40 = .ok (.iload 4, 2) := by decide +kernel
theorem d3_5_42 : decode prog_3_method_5_code 42 = .ok (.aaload, 1) := by decide +kernel
theorem d3_5_43 : decode prog_3_method_5_code 43 = .ok (.getfield 45, 3) := by decide +kernel
theorem kn144 : (Jvm.Cond.fieldLinkNest "PagedValues$Finder" (45 : Nat) "PagedValues$Selector" "opens" "Z" "PagedValues") ∈ NW := tn_1 144 rfl rfl
theorem d3_5_46 : decode prog_3_method_5_code 46 = .ok (.ifCond .eq 16, 3) := by decide +kernel
theorem d3_5_49 : decode prog_3_method_5_code 49 = .ok (.aload_n 0, 1) := by decide +kernel
theorem d3_5_50 : decode prog_3_method_5_code 50 = .ok (.aload_n 1, 1) := by decide +kernel
theorem d3_5_51 : decode prog_3_method_5_code 51 = .ok (.iload 4, 2) := by decide +kernel
theorem d3_5_53 : decode prog_3_method_5_code 53 = .ok (.aload_n 1, 1) := by decide +kernel
theorem d3_5_54 : decode prog_3_method_5_code 54 = .ok (.iload 4, 2) := by decide +kernel
theorem d3_5_56 : decode prog_3_method_5_code 56 = .ok (.invokevirtual 50, 3) := by decide +kernel
theorem d8_9_0 : decode prog_8_method_9_code 0 = .ok (.iload_n 1, 1) := by decide +kernel
theorem d8_9_1 : decode prog_8_method_9_code 1 = .ok (.iconst 1, 1) := by decide +kernel
theorem d8_9_2 : decode prog_8_method_9_code 2 = .ok (.iadd, 1) := by decide +kernel
theorem d8_9_3 : decode prog_8_method_9_code 3 = .ok (.istore_n 2, 1) := by decide +kernel
theorem d8_9_30 : decode prog_8_method_9_code 30 = .ok (.iload_n 2, 1) := by decide +kernel
theorem d8_9_31 : decode prog_8_method_9_code 31 = .ok (.ireturn, 1) := by decide +kernel
theorem d8_9_4 : decode prog_8_method_9_code 4 = .ok (.iload_n 2, 1) := by decide +kernel
theorem d8_9_5 : decode prog_8_method_9_code 5 = .ok (.aload_n 0, 1) := by decide +kernel
theorem d8_9_6 : decode prog_8_method_9_code 6 = .ok (.getfield 18, 3) := by decide +kernel
theorem d8_9_9 : decode prog_8_method_9_code 9 = .ok (.if_icmp .ge 21, 3) := by decide +kernel
theorem d8_9_12 : decode prog_8_method_9_code 12 = .ok (.aload_n 0, 1) := by decide +kernel
theorem d8_9_13 : decode prog_8_method_9_code 13 = .ok (.getfield 11, 3) := by decide +kernel
theorem d8_9_16 : decode prog_8_method_9_code 16 = .ok (.iload_n 2, 1) := by decide +kernel
theorem d8_9_17 : decode prog_8_method_9_code 17 = .ok (.aaload, 1) := by decide +kernel
theorem d8_9_18 : decode prog_8_method_9_code 18 = .ok (.getfield 96, 3) := by decide +kernel
theorem d8_9_21 : decode prog_8_method_9_code 21 = .ok (.ifCond .ne 9, 3) := by decide +kernel
theorem d8_9_24 : decode prog_8_method_9_code 24 = .ok (.iinc 2 1, 3) := by decide +kernel
theorem d8_9_27 : decode prog_8_method_9_code 27 = .ok (.goto (-23), 3) := by decide +kernel
def y8_9 : MethodName := { cls := "PagedValues$Query", name := "segmentEnd", desc := "(I)I" }
theorem k951 : (Jvm.Cond.code ({ cls := "PagedValues$Query", name := "segmentEnd", desc := "(I)I" } : Jvm.MethodName) prog_8_method_9_code (3 : Nat) (Option.some Jvm.ClassFile.FieldType.int)) ∈ TB := tk_4 231 rfl rfl
theorem k948 : (Jvm.Cond.methodLink "PagedValues$Finder" (50 : Nat) ({ cls := "PagedValues$Query", name := "segmentEnd", desc := "(I)I" } : Jvm.MethodName)) ∈ TB := tk_4 228 rfl rfl
theorem k949 : (Jvm.Cond.instanceMethod ({ cls := "PagedValues$Query", name := "segmentEnd", desc := "(I)I" } : Jvm.MethodName)) ∈ TB := tk_4 229 rfl rfl
theorem k950 : (Jvm.Cond.selects "PagedValues$Query" ({ cls := "PagedValues$Query", name := "segmentEnd", desc := "(I)I" } : Jvm.MethodName) ({ cls := "PagedValues$Query", name := "segmentEnd", desc := "(I)I" } : Jvm.MethodName)) ∈ TB := tk_4 230 rfl rfl
theorem d3_5_59 : decode prog_3_method_5_code 59 = .ok (.invokevirtual 54, 3) := by decide +kernel
theorem d3_7_0 : decode prog_3_method_7_code 0 = .ok (.aload_n 1, 1) := by decide +kernel
theorem d3_7_1 : decode prog_3_method_7_code 1 = .ok (.getfield 41, 3) := by decide +kernel
theorem d3_7_4 : decode prog_3_method_7_code 4 = .ok (.iload_n 2, 1) := by decide +kernel
theorem d3_7_5 : decode prog_3_method_7_code 5 = .ok (.aaload, 1) := by decide +kernel
theorem d3_7_6 : decode prog_3_method_7_code 6 = .ok (.getfield 62, 3) := by decide +kernel
theorem kn146 : (Jvm.Cond.fieldLinkNest "PagedValues$Finder" (62 : Nat) "PagedValues$Selector" "deep" "Z" "PagedValues") ∈ NW := tn_1 146 rfl rfl
theorem d3_7_9 : decode prog_3_method_7_code 9 = .ok (.istore 4, 2) := by decide +kernel
theorem d3_7_11 : decode prog_3_method_7_code 11 = .ok (.aload_n 0, 1) := by decide +kernel
theorem d3_7_12 : decode prog_3_method_7_code 12 = .ok (.iconst 0, 1) := by decide +kernel
theorem d3_7_13 : decode prog_3_method_7_code 13 = .ok (.putfield 65, 3) := by decide +kernel
theorem k191 : (Jvm.Cond.fieldLink "PagedValues$Finder" (65 : Nat) "PagedValues$Finder" "nextCount" "I") ∈ TB := tk_1 191 rfl rfl
theorem d3_7_16 : decode prog_3_method_7_code 16 = .ok (.iconst 0, 1) := by decide +kernel
theorem d3_7_17 : decode prog_3_method_7_code 17 = .ok (.istore 5, 2) := by decide +kernel
theorem d3_7_75 : decode prog_3_method_7_code 75 = .ok (.iconst 0, 1) := by decide +kernel
theorem d3_7_76 : decode prog_3_method_7_code 76 = .ok (.istore 5, 2) := by decide +kernel
theorem d3_7_107 : decode prog_3_method_7_code 107 = .ok (.aload_n 0, 1) := by decide +kernel
theorem d3_7_108 : decode prog_3_method_7_code 108 = .ok (.aload_n 0, 1) := by decide +kernel
theorem d3_7_109 : decode prog_3_method_7_code 109 = .ok (.getfield 65, 3) := by decide +kernel
theorem d3_7_112 : decode prog_3_method_7_code 112 = .ok (.putfield 35, 3) := by decide +kernel
theorem d3_7_115 : decode prog_3_method_7_code 115 = .ok (.return_, 1) := by decide +kernel
theorem d3_7_78 : decode prog_3_method_7_code 78 = .ok (.iload 5, 2) := by decide +kernel
theorem d3_7_80 : decode prog_3_method_7_code 80 = .ok (.aload_n 0, 1) := by decide +kernel
theorem d3_7_81 : decode prog_3_method_7_code 81 = .ok (.getfield 65, 3) := by decide +kernel
theorem d3_7_84 : decode prog_3_method_7_code 84 = .ok (.if_icmp .ge 23, 3) := by decide +kernel
theorem d3_7_87 : decode prog_3_method_7_code 87 = .ok (.aload_n 0, 1) := by decide +kernel
theorem d3_7_88 : decode prog_3_method_7_code 88 = .ok (.getfield 21, 3) := by decide +kernel
theorem d3_7_91 : decode prog_3_method_7_code 91 = .ok (.iload 5, 2) := by decide +kernel
theorem d3_7_93 : decode prog_3_method_7_code 93 = .ok (.aload_n 0, 1) := by decide +kernel
theorem d3_7_94 : decode prog_3_method_7_code 94 = .ok (.getfield 24, 3) := by decide +kernel
theorem d3_7_97 : decode prog_3_method_7_code 97 = .ok (.iload 5, 2) := by decide +kernel
theorem d3_7_99 : decode prog_3_method_7_code 99 = .ok (.aaload, 1) := by decide +kernel
theorem d3_7_100 : decode prog_3_method_7_code 100 = .ok (.aastore, 1) := by decide +kernel
theorem d3_7_101 : decode prog_3_method_7_code 101 = .ok (.iinc 5 1, 3) := by decide +kernel
theorem d3_7_104 : decode prog_3_method_7_code 104 = .ok (.goto (-26), 3) := by decide +kernel
theorem d3_7_19 : decode prog_3_method_7_code 19 = .ok (.iload 5, 2) := by decide +kernel
theorem d3_7_21 : decode prog_3_method_7_code 21 = .ok (.aload_n 0, 1) := by decide +kernel
theorem d3_7_22 : decode prog_3_method_7_code 22 = .ok (.getfield 35, 3) := by decide +kernel
theorem d3_7_25 : decode prog_3_method_7_code 25 = .ok (.if_icmp .ge 50, 3) := by decide +kernel
theorem d3_7_28 : decode prog_3_method_7_code 28 = .ok (.aload_n 0, 1) := by decide +kernel
theorem d3_7_29 : decode prog_3_method_7_code 29 = .ok (.getfield 31, 3) := by decide +kernel
theorem d3_7_32 : decode prog_3_method_7_code 32 = .ok (.ifCond .ne 43, 3) := by decide +kernel
theorem d3_7_35 : decode prog_3_method_7_code 35 = .ok (.aload_n 0, 1) := by decide +kernel
theorem d3_7_36 : decode prog_3_method_7_code 36 = .ok (.aload_n 1, 1) := by decide +kernel
theorem d3_7_37 : decode prog_3_method_7_code 37 = .ok (.iload_n 2, 1) := by decide +kernel
theorem d3_7_38 : decode prog_3_method_7_code 38 = .ok (.iload_n 3, 1) := by decide +kernel
theorem d3_7_39 : decode prog_3_method_7_code 39 = .ok (.aload_n 0, 1) := by decide +kernel
theorem d3_7_40 : decode prog_3_method_7_code 40 = .ok (.getfield 21, 3) := by decide +kernel
theorem d3_7_43 : decode prog_3_method_7_code 43 = .ok (.iload 5, 2) := by decide +kernel
theorem d3_7_45 : decode prog_3_method_7_code 45 = .ok (.aaload, 1) := by decide +kernel
theorem d3_7_46 : decode prog_3_method_7_code 46 = .ok (.invokevirtual 68, 3) := by decide +kernel
theorem d3_8_0 : decode prog_3_method_8_code 0 = .ok (.iload_n 2, 1) := by decide +kernel
theorem d3_8_1 : decode prog_3_method_8_code 1 = .ok (.istore 5, 2) := by decide +kernel
theorem d3_8_28 : decode prog_3_method_8_code 28 = .ok (.return_, 1) := by decide +kernel
theorem d3_8_3 : decode prog_3_method_8_code 3 = .ok (.iload 5, 2) := by decide +kernel
theorem d3_8_5 : decode prog_3_method_8_code 5 = .ok (.iload_n 3, 1) := by decide +kernel
theorem d3_8_6 : decode prog_3_method_8_code 6 = .ok (.if_icmp .ge 22, 3) := by decide +kernel
theorem d3_8_9 : decode prog_3_method_8_code 9 = .ok (.aload_n 0, 1) := by decide +kernel
theorem d3_8_10 : decode prog_3_method_8_code 10 = .ok (.aload_n 1, 1) := by decide +kernel
theorem d3_8_11 : decode prog_3_method_8_code 11 = .ok (.getfield 41, 3) := by decide +kernel
theorem d3_8_14 : decode prog_3_method_8_code 14 = .ok (.iload 5, 2) := by decide +kernel
theorem d3_8_16 : decode prog_3_method_8_code 16 = .ok (.aaload, 1) := by decide +kernel
theorem d3_8_17 : decode prog_3_method_8_code 17 = .ok (.aload 4, 2) := by decide +kernel
theorem d3_8_19 : decode prog_3_method_8_code 19 = .ok (.invokevirtual 76, 3) := by decide +kernel
theorem d3_10_0 : decode prog_3_method_10_code 0 = .ok (.aload_n 1, 1) := by decide +kernel
theorem d3_10_1 : decode prog_3_method_10_code 1 = .ok (.getfield 87, 3) := by decide +kernel
theorem kn149 : (Jvm.Cond.fieldLinkNest "PagedValues$Finder" (87 : Nat) "PagedValues$Selector" "pick" "I" "PagedValues") ∈ NW := tn_1 149 rfl rfl
theorem d3_10_4 : decode prog_3_method_10_code 4 = .ok (.ifCond .ne 18, 3) := by decide +kernel
theorem d3_10_22 : decode prog_3_method_10_code 22 = .ok (.aload_n 1, 1) := by decide +kernel
theorem d3_10_23 : decode prog_3_method_10_code 23 = .ok (.getfield 87, 3) := by decide +kernel
theorem d3_10_26 : decode prog_3_method_10_code 26 = .ok (.iconst 1, 1) := by decide +kernel
theorem d3_10_27 : decode prog_3_method_10_code 27 = .ok (.if_icmp .ne 33, 3) := by decide +kernel
theorem d3_10_60 : decode prog_3_method_10_code 60 = .ok (.aload_n 2, 1) := by decide +kernel
theorem d3_10_61 : decode prog_3_method_10_code 61 = .ok (.getfield 80, 3) := by decide +kernel
theorem kn360 : (Jvm.Cond.fieldLinkNest "PagedValues$Finder" (80 : Nat) "PagedValues$Value" "first" "LPagedValues$Value;" "PagedValues") ∈ NW := tn_2 120 rfl rfl
theorem d3_10_64 : decode prog_3_method_10_code 64 = .ok (.astore_n 3, 1) := by decide +kernel
theorem d3_10_65 : decode prog_3_method_10_code 65 = .ok (.aload_n 3, 1) := by decide +kernel
theorem d3_10_66 : decode prog_3_method_10_code 66 = .ok (.ifnull 16, 3) := by decide +kernel
theorem d3_10_69 : decode prog_3_method_10_code 69 = .ok (.aload_n 0, 1) := by decide +kernel
theorem d3_10_70 : decode prog_3_method_10_code 70 = .ok (.aload_n 3, 1) := by decide +kernel
theorem d3_10_71 : decode prog_3_method_10_code 71 = .ok (.invokevirtual 98, 3) := by decide +kernel
theorem d3_11_0 : decode prog_3_method_11_code 0 = .ok (.aload_n 1, 1) := by decide +kernel
theorem d3_11_1 : decode prog_3_method_11_code 1 = .ok (.ifnonnull 4, 3) := by decide +kernel
theorem d3_11_4 : decode prog_3_method_11_code 4 = .ok (.return_, 1) := by decide +kernel
theorem d3_11_5 : decode prog_3_method_11_code 5 = .ok (.aload_n 0, 1) := by decide +kernel
theorem d3_11_6 : decode prog_3_method_11_code 6 = .ok (.getfield 65, 3) := by decide +kernel
theorem d3_11_9 : decode prog_3_method_11_code 9 = .ok (.bipush 32, 2) := by decide +kernel
theorem d3_11_11 : decode prog_3_method_11_code 11 = .ok (.if_icmp .lt 9, 3) := by decide +kernel
theorem d3_11_20 : decode prog_3_method_11_code 20 = .ok (.aload_n 0, 1) := by decide +kernel
theorem d3_11_21 : decode prog_3_method_11_code 21 = .ok (.getfield 24, 3) := by decide +kernel
theorem d3_11_24 : decode prog_3_method_11_code 24 = .ok (.aload_n 0, 1) := by decide +kernel
theorem d3_11_25 : decode prog_3_method_11_code 25 = .ok (.getfield 65, 3) := by decide +kernel
theorem d3_11_28 : decode prog_3_method_11_code 28 = .ok (.aload_n 1, 1) := by decide +kernel
theorem d3_11_29 : decode prog_3_method_11_code 29 = .ok (.aastore, 1) := by decide +kernel
theorem d3_11_30 : decode prog_3_method_11_code 30 = .ok (.aload_n 0, 1) := by decide +kernel
theorem d3_11_31 : decode prog_3_method_11_code 31 = .ok (.dup, 1) := by decide +kernel
theorem d3_11_32 : decode prog_3_method_11_code 32 = .ok (.getfield 65, 3) := by decide +kernel
theorem d3_11_35 : decode prog_3_method_11_code 35 = .ok (.iconst 1, 1) := by decide +kernel
theorem d3_11_36 : decode prog_3_method_11_code 36 = .ok (.iadd, 1) := by decide +kernel
theorem d3_11_37 : decode prog_3_method_11_code 37 = .ok (.putfield 65, 3) := by decide +kernel
theorem d3_11_40 : decode prog_3_method_11_code 40 = .ok (.return_, 1) := by decide +kernel
theorem d3_11_14 : decode prog_3_method_11_code 14 = .ok (.aload_n 0, 1) := by decide +kernel
theorem d3_11_15 : decode prog_3_method_11_code 15 = .ok (.iconst 1, 1) := by decide +kernel
theorem d3_11_16 : decode prog_3_method_11_code 16 = .ok (.putfield 31, 3) := by decide +kernel
theorem d3_11_19 : decode prog_3_method_11_code 19 = .ok (.return_, 1) := by decide +kernel
def y3_11 : MethodName := { cls := "PagedValues$Finder", name := "take", desc := "(LPagedValues$Value;)V" }
theorem k968 : (Jvm.Cond.code ({ cls := "PagedValues$Finder", name := "take", desc := "(LPagedValues$Value;)V" } : Jvm.MethodName) prog_3_method_11_code (2 : Nat) (Option.none : Option Jvm.ClassFile.FieldType)) ∈ TB := tk_5 8 rfl rfl
theorem k965 : (Jvm.Cond.methodLink "PagedValues$Finder" (98 : Nat) ({ cls := "PagedValues$Finder", name := "take", desc := "(LPagedValues$Value;)V" } : Jvm.MethodName)) ∈ TB := tk_5 5 rfl rfl
theorem k967 : (Jvm.Cond.instanceMethod ({ cls := "PagedValues$Finder", name := "take", desc := "(LPagedValues$Value;)V" } : Jvm.MethodName)) ∈ TB := tk_5 7 rfl rfl
theorem ks30 : Cond.selects y3_11.cls y3_11 y3_11 ∈ TB := List.mem_filter.mpr ⟨List.mem_append_left _ (List.mem_of_getElem? (i := 30) (by decide +kernel)), rfl⟩
theorem d3_10_74 : decode prog_3_method_10_code 74 = .ok (.aload_n 3, 1) := by decide +kernel
theorem d3_10_75 : decode prog_3_method_10_code 75 = .ok (.getfield 84, 3) := by decide +kernel
theorem kn363 : (Jvm.Cond.fieldLinkNest "PagedValues$Finder" (84 : Nat) "PagedValues$Value" "next" "LPagedValues$Value;" "PagedValues") ∈ NW := tn_2 123 rfl rfl
theorem d3_10_78 : decode prog_3_method_10_code 78 = .ok (.astore_n 3, 1) := by decide +kernel
theorem d3_10_79 : decode prog_3_method_10_code 79 = .ok (.goto (-14), 3) := by decide +kernel
theorem d3_10_30 : decode prog_3_method_10_code 30 = .ok (.aload_n 1, 1) := by decide +kernel
theorem d3_10_31 : decode prog_3_method_10_code 31 = .ok (.getfield 102, 3) := by decide +kernel
theorem kn154 : (Jvm.Cond.fieldLinkNest "PagedValues$Finder" (102 : Nat) "PagedValues$Selector" "number" "I" "PagedValues") ∈ NW := tn_1 154 rfl rfl
theorem d3_10_34 : decode prog_3_method_10_code 34 = .ok (.istore_n 3, 1) := by decide +kernel
theorem d3_10_35 : decode prog_3_method_10_code 35 = .ok (.aload_n 0, 1) := by decide +kernel
theorem d3_10_36 : decode prog_3_method_10_code 36 = .ok (.aload_n 2, 1) := by decide +kernel
theorem d3_10_37 : decode prog_3_method_10_code 37 = .ok (.iload_n 3, 1) := by decide +kernel
theorem d3_10_38 : decode prog_3_method_10_code 38 = .ok (.ifCond .ge 12, 3) := by decide +kernel
theorem d3_10_50 : decode prog_3_method_10_code 50 = .ok (.iload_n 3, 1) := by decide +kernel
theorem d3_10_41 : decode prog_3_method_10_code 41 = .ok (.iload_n 3, 1) := by decide +kernel
theorem d3_10_42 : decode prog_3_method_10_code 42 = .ok (.aload_n 2, 1) := by decide +kernel
theorem d3_10_43 : decode prog_3_method_10_code 43 = .ok (.invokevirtual 105, 3) := by decide +kernel
theorem k969 : (Jvm.Cond.methodLink "PagedValues$Finder" (105 : Nat) ({ cls := "PagedValues$Value", name := "partCount", desc := "()I" } : Jvm.MethodName)) ∈ TB := tk_5 9 rfl rfl
theorem d3_10_46 : decode prog_3_method_10_code 46 = .ok (.iadd, 1) := by decide +kernel
theorem d3_10_47 : decode prog_3_method_10_code 47 = .ok (.goto 4, 3) := by decide +kernel
theorem d3_10_51 : decode prog_3_method_10_code 51 = .ok (.invokevirtual 109, 3) := by decide +kernel
theorem k970 : (Jvm.Cond.methodLink "PagedValues$Finder" (109 : Nat) ({ cls := "PagedValues$Value", name := "element", desc := "(I)LPagedValues$Value;" } : Jvm.MethodName)) ∈ TB := tk_5 10 rfl rfl
theorem d3_10_54 : decode prog_3_method_10_code 54 = .ok (.invokevirtual 98, 3) := by decide +kernel
theorem d3_10_57 : decode prog_3_method_10_code 57 = .ok (.goto 25, 3) := by decide +kernel
theorem d3_10_7 : decode prog_3_method_10_code 7 = .ok (.aload_n 0, 1) := by decide +kernel
theorem d3_10_8 : decode prog_3_method_10_code 8 = .ok (.aload_n 2, 1) := by decide +kernel
theorem d3_10_9 : decode prog_3_method_10_code 9 = .ok (.aload_n 1, 1) := by decide +kernel
theorem d3_10_10 : decode prog_3_method_10_code 10 = .ok (.getfield 90, 3) := by decide +kernel
theorem kn152 : (Jvm.Cond.fieldLinkNest "PagedValues$Finder" (90 : Nat) "PagedValues$Selector" "name" "Ljava/lang/String;" "PagedValues") ∈ NW := tn_1 152 rfl rfl
theorem d3_10_13 : decode prog_3_method_10_code 13 = .ok (.invokevirtual 94, 3) := by decide +kernel
theorem k964 : (Jvm.Cond.methodLink "PagedValues$Finder" (94 : Nat) ({ cls := "PagedValues$Value", name := "member", desc := "(Ljava/lang/String;)LPagedValues$Value;" } : Jvm.MethodName)) ∈ TB := tk_5 4 rfl rfl
theorem d3_10_16 : decode prog_3_method_10_code 16 = .ok (.invokevirtual 98, 3) := by decide +kernel
theorem d3_10_19 : decode prog_3_method_10_code 19 = .ok (.goto 63, 3) := by decide +kernel
theorem d3_10_82 : decode prog_3_method_10_code 82 = .ok (.return_, 1) := by decide +kernel
def y3_10 : MethodName := { cls := "PagedValues$Finder", name := "select", desc := "(LPagedValues$Selector;LPagedValues$Value;)V" }
theorem k963 : (Jvm.Cond.code ({ cls := "PagedValues$Finder", name := "select", desc := "(LPagedValues$Selector;LPagedValues$Value;)V" } : Jvm.MethodName) prog_3_method_10_code (4 : Nat) (Option.none : Option Jvm.ClassFile.FieldType)) ∈ TB := tk_5 3 rfl rfl
theorem k960 : (Jvm.Cond.methodLink "PagedValues$Finder" (76 : Nat) ({ cls := "PagedValues$Finder", name := "select", desc := "(LPagedValues$Selector;LPagedValues$Value;)V" } : Jvm.MethodName)) ∈ TB := tk_5 0 rfl rfl
theorem k962 : (Jvm.Cond.instanceMethod ({ cls := "PagedValues$Finder", name := "select", desc := "(LPagedValues$Selector;LPagedValues$Value;)V" } : Jvm.MethodName)) ∈ TB := tk_5 2 rfl rfl
theorem ks29 : Cond.selects y3_10.cls y3_10 y3_10 ∈ TB := List.mem_filter.mpr ⟨List.mem_append_left _ (List.mem_of_getElem? (i := 29) (by decide +kernel)), rfl⟩
theorem d3_8_22 : decode prog_3_method_8_code 22 = .ok (.iinc 5 1, 3) := by decide +kernel
theorem d3_8_25 : decode prog_3_method_8_code 25 = .ok (.goto (-22), 3) := by decide +kernel
def y3_8 : MethodName := { cls := "PagedValues$Finder", name := "visit", desc := "(LPagedValues$Query;IILPagedValues$Value;)V" }
theorem k959 : (Jvm.Cond.code ({ cls := "PagedValues$Finder", name := "visit", desc := "(LPagedValues$Query;IILPagedValues$Value;)V" } : Jvm.MethodName) prog_3_method_8_code (6 : Nat) (Option.none : Option Jvm.ClassFile.FieldType)) ∈ TB := tk_4 239 rfl rfl
theorem k956 : (Jvm.Cond.methodLink "PagedValues$Finder" (68 : Nat) ({ cls := "PagedValues$Finder", name := "visit", desc := "(LPagedValues$Query;IILPagedValues$Value;)V" } : Jvm.MethodName)) ∈ TB := tk_4 236 rfl rfl
theorem k958 : (Jvm.Cond.instanceMethod ({ cls := "PagedValues$Finder", name := "visit", desc := "(LPagedValues$Query;IILPagedValues$Value;)V" } : Jvm.MethodName)) ∈ TB := tk_4 238 rfl rfl
theorem ks28 : Cond.selects y3_8.cls y3_8 y3_8 ∈ TB := List.mem_filter.mpr ⟨List.mem_append_left _ (List.mem_of_getElem? (i := 28) (by decide +kernel)), rfl⟩
theorem d3_7_49 : decode prog_3_method_7_code 49 = .ok (.iload 4, 2) := by decide +kernel
theorem d3_7_51 : decode prog_3_method_7_code 51 = .ok (.ifCond .eq 18, 3) := by decide +kernel
theorem d3_7_54 : decode prog_3_method_7_code 54 = .ok (.aload_n 0, 1) := by decide +kernel
theorem d3_7_55 : decode prog_3_method_7_code 55 = .ok (.aload_n 1, 1) := by decide +kernel
theorem d3_7_56 : decode prog_3_method_7_code 56 = .ok (.iload_n 2, 1) := by decide +kernel
theorem d3_7_57 : decode prog_3_method_7_code 57 = .ok (.iload_n 3, 1) := by decide +kernel
theorem d3_7_58 : decode prog_3_method_7_code 58 = .ok (.aload_n 0, 1) := by decide +kernel
theorem d3_7_59 : decode prog_3_method_7_code 59 = .ok (.getfield 21, 3) := by decide +kernel
theorem d3_7_62 : decode prog_3_method_7_code 62 = .ok (.iload 5, 2) := by decide +kernel
theorem d3_7_64 : decode prog_3_method_7_code 64 = .ok (.aaload, 1) := by decide +kernel
theorem d3_7_65 : decode prog_3_method_7_code 65 = .ok (.iconst 0, 1) := by decide +kernel
theorem d3_7_66 : decode prog_3_method_7_code 66 = .ok (.invokevirtual 72, 3) := by decide +kernel
theorem d3_9_0 : decode prog_3_method_9_code 0 = .ok (.iload 5, 2) := by decide +kernel
theorem d3_9_2 : decode prog_3_method_9_code 2 = .ok (.iconst 4, 1) := by decide +kernel
theorem d3_9_3 : decode prog_3_method_9_code 3 = .ok (.if_icmp .lt 4, 3) := by decide +kernel
theorem d3_9_7 : decode prog_3_method_9_code 7 = .ok (.aload 4, 2) := by decide +kernel
theorem d3_9_9 : decode prog_3_method_9_code 9 = .ok (.getfield 80, 3) := by decide +kernel
theorem d3_9_12 : decode prog_3_method_9_code 12 = .ok (.astore 6, 2) := by decide +kernel
theorem d3_9_58 : decode prog_3_method_9_code 58 = .ok (.return_, 1) := by decide +kernel
theorem d3_9_14 : decode prog_3_method_9_code 14 = .ok (.aload 6, 2) := by decide +kernel
theorem d3_9_16 : decode prog_3_method_9_code 16 = .ok (.ifnull 42, 3) := by decide +kernel
theorem d3_9_19 : decode prog_3_method_9_code 19 = .ok (.aload_n 0, 1) := by decide +kernel
theorem d3_9_20 : decode prog_3_method_9_code 20 = .ok (.getfield 31, 3) := by decide +kernel
theorem d3_9_23 : decode prog_3_method_9_code 23 = .ok (.ifCond .ne 35, 3) := by decide +kernel
theorem d3_9_26 : decode prog_3_method_9_code 26 = .ok (.aload_n 0, 1) := by decide +kernel
theorem d3_9_27 : decode prog_3_method_9_code 27 = .ok (.aload_n 1, 1) := by decide +kernel
theorem d3_9_28 : decode prog_3_method_9_code 28 = .ok (.iload_n 2, 1) := by decide +kernel
theorem d3_9_29 : decode prog_3_method_9_code 29 = .ok (.iload_n 3, 1) := by decide +kernel
theorem d3_9_30 : decode prog_3_method_9_code 30 = .ok (.aload 6, 2) := by decide +kernel
theorem d3_9_32 : decode prog_3_method_9_code 32 = .ok (.invokevirtual 68, 3) := by decide +kernel
theorem d3_9_35 : decode prog_3_method_9_code 35 = .ok (.aload_n 0, 1) := by decide +kernel
theorem d3_9_36 : decode prog_3_method_9_code 36 = .ok (.aload_n 1, 1) := by decide +kernel
theorem d3_9_37 : decode prog_3_method_9_code 37 = .ok (.iload_n 2, 1) := by decide +kernel
theorem d3_9_38 : decode prog_3_method_9_code 38 = .ok (.iload_n 3, 1) := by decide +kernel
theorem d3_9_39 : decode prog_3_method_9_code 39 = .ok (.aload 6, 2) := by decide +kernel
theorem d3_9_41 : decode prog_3_method_9_code 41 = .ok (.iload 5, 2) := by decide +kernel
theorem d3_9_43 : decode prog_3_method_9_code 43 = .ok (.iconst 1, 1) := by decide +kernel
theorem d3_9_44 : decode prog_3_method_9_code 44 = .ok (.iadd, 1) := by decide +kernel
theorem d3_9_45 : decode prog_3_method_9_code 45 = .ok (.invokevirtual 72, 3) := by decide +kernel
theorem k974 : (Jvm.Cond.code ({ cls := "PagedValues$Finder", name := "visitParts", desc := "(LPagedValues$Query;IILPagedValues$Value;I)V" } : Jvm.MethodName) prog_3_method_9_code (7 : Nat) (Option.none : Option Jvm.ClassFile.FieldType)) ∈ TB := tk_5 14 rfl rfl
def y3_9 : MethodName := { cls := "PagedValues$Finder", name := "visitParts", desc := "(LPagedValues$Query;IILPagedValues$Value;I)V" }
theorem k971 : (Jvm.Cond.methodLink "PagedValues$Finder" (72 : Nat) ({ cls := "PagedValues$Finder", name := "visitParts", desc := "(LPagedValues$Query;IILPagedValues$Value;I)V" } : Jvm.MethodName)) ∈ TB := tk_5 11 rfl rfl
theorem k973 : (Jvm.Cond.instanceMethod ({ cls := "PagedValues$Finder", name := "visitParts", desc := "(LPagedValues$Query;IILPagedValues$Value;I)V" } : Jvm.MethodName)) ∈ TB := tk_5 13 rfl rfl
theorem ks31 : Cond.selects y3_9.cls y3_9 y3_9 ∈ TB := List.mem_filter.mpr ⟨List.mem_append_left _ (List.mem_of_getElem? (i := 31) (by decide +kernel)), rfl⟩
theorem d3_9_48 : decode prog_3_method_9_code 48 = .ok (.aload 6, 2) := by decide +kernel
theorem d3_9_50 : decode prog_3_method_9_code 50 = .ok (.getfield 84, 3) := by decide +kernel
theorem d3_9_53 : decode prog_3_method_9_code 53 = .ok (.astore 6, 2) := by decide +kernel
theorem d3_9_55 : decode prog_3_method_9_code 55 = .ok (.goto (-41), 3) := by decide +kernel
theorem d3_9_6 : decode prog_3_method_9_code 6 = .ok (.return_, 1) := by decide +kernel
theorem d3_7_69 : decode prog_3_method_7_code 69 = .ok (.iinc 5 1, 3) := by decide +kernel
theorem d3_7_72 : decode prog_3_method_7_code 72 = .ok (.goto (-53), 3) := by decide +kernel
def y3_7 : MethodName := { cls := "PagedValues$Finder", name := "walk", desc := "(LPagedValues$Query;II)V" }
theorem k955 : (Jvm.Cond.code ({ cls := "PagedValues$Finder", name := "walk", desc := "(LPagedValues$Query;II)V" } : Jvm.MethodName) prog_3_method_7_code (6 : Nat) (Option.none : Option Jvm.ClassFile.FieldType)) ∈ TB := tk_4 235 rfl rfl
theorem k952 : (Jvm.Cond.methodLink "PagedValues$Finder" (54 : Nat) ({ cls := "PagedValues$Finder", name := "walk", desc := "(LPagedValues$Query;II)V" } : Jvm.MethodName)) ∈ TB := tk_4 232 rfl rfl
theorem k954 : (Jvm.Cond.instanceMethod ({ cls := "PagedValues$Finder", name := "walk", desc := "(LPagedValues$Query;II)V" } : Jvm.MethodName)) ∈ TB := tk_4 234 rfl rfl
theorem ks27 : Cond.selects y3_7.cls y3_7 y3_7 ∈ TB := List.mem_filter.mpr ⟨List.mem_append_left _ (List.mem_of_getElem? (i := 27) (by decide +kernel)), rfl⟩
theorem d3_5_62 : decode prog_3_method_5_code 62 = .ok (.iinc 4 1, 3) := by decide +kernel
theorem d3_5_65 : decode prog_3_method_5_code 65 = .ok (.goto (-45), 3) := by decide +kernel
def y3_5 : MethodName := { cls := "PagedValues$Finder", name := "ask", desc := "(LPagedValues$Query;LPagedValues$Value;I)V" }
def c_Finder_keep (Zd : Nat → Nat) (K : KE) (o : Nat) (a0 : Option Nat) (a1 : Int32) (st : CS) : Option (CS) := (gI K st o 8 4).bind fun x11 => if x11 < (32 : Int32) then ((gQ K st o 8 0).bind fun x13 => (gI K st o 8 4).bind fun x14 => x13.bind fun a15z => (wQ st a15z 5 11 x14 a0).bind fun st16 => (gQ K st16 o 8 1).bind fun x17 => (gI K st16 o 8 4).bind fun x18 => x17.bind fun a19z => (wA st16 a19z 1 x18 (a1)).bind fun st20 => (gI K st20 o 8 4).bind fun x21 => (some (x21 + (1 : Int32))).bind fun y22 => (sF st20 o 8 4 (.int y22)).bind fun st23 => some st23) else ((sF st o 8 7 (.int 1)).bind fun st24 => some st24)
set_option maxHeartbeats 4000000 in
set_option maxRecDepth 100000 in
theorem cc_Finder_keep (l : Launch) (G : Gk) (Zd : Nat → Nat) (K : KE) (o : Nat) (a0 : Option Nat) (a1 : Int32) (st : CS) (st0 : CS) (hm : c_Finder_keep Zd K o a0 a1 st = some st0) : CT l y3_6 prog_3_method_6_code 3 none G Zd K (0) [.ref o, va_rf a0, .int a1] st (hV G Zd st0) := by
  refine goH (d := 0) (y := y3_6) (cc := prog_3_method_6_code) (maxL := 3) (ret := none) (av := [.ref o, va_rf a0, .int a1]) (Qc := hV G Zd st0) "PagedValues$Finder" rfl (by decide) (c1_c rfl (c1_c (rf_cat _) (c1_c rfl c1_n))) (Nat.le_of_ble_eq_true rfl) ?_
  intro p e s m below meth c ls A args Q hQ hx hb hr hlk hml hown hts hin hl hE hw
  have hl : lw ls 3 [(0, .ref o), (1, va_rf a0), (2, .int a1)] := hl
  have hZ := hE.2.2.1
  have h := hm
  clear hm
  refine lv_aload_n hx hb d3_6_0 rfl (lv_at hl.1 0 rfl) ?_
  obtain ⟨x11, hr, h⟩ := ob h
  refine xg_i (ci := 8) (C := r_8) (T := f_8) (N := 8) (ref := "PagedValues$Finder") hx hb hts (fun w h => List.mem_cons_of_mem _ (ly_8 w h)) hown hE hw rfl 4 (by decide) (hts _ (List.mem_cons_of_mem _ k189)) (fun _ h9 => h9) hr d3_6_1 ?_
  clear hr
  refine lv_bipush (v := 32) hx hb d3_6_4 (by decide) ?_
  refine lv_icmp_lt (tgt := 15) hx hb d3_6_6 rfl (fun c12 => ?_) (fun c12 => ?_)
  ·
    replace h := (if_pos c12).symm.trans h
    refine lv_aload_n hx hb d3_6_15 rfl (lv_at hl.1 0 rfl) ?_
    obtain ⟨x13, hr, h⟩ := ob h
    refine xg_q (ci := 8) (C := r_8) (T := f_8) (N := 8) (ref := "PagedValues$Finder") hx hb hts (fun w h => List.mem_cons_of_mem _ (ly_8 w h)) hown hE hw rfl 0 (by decide) (hts _ (List.mem_cons_of_mem _ k183)) (fun _ h9 => h9) hr d3_6_16 ?_
    clear hr
    refine lv_aload_n hx hb d3_6_19 rfl (lv_at hl.1 0 rfl) ?_
    obtain ⟨x14, hr, h⟩ := ob h
    refine xg_i (ci := 8) (C := r_8) (T := f_8) (N := 8) (ref := "PagedValues$Finder") hx hb hts (fun w h => List.mem_cons_of_mem _ (ly_8 w h)) hown hE hw rfl 4 (by decide) (hts _ (List.mem_cons_of_mem _ k189)) (fun _ h9 => h9) hr d3_6_20 ?_
    clear hr
    refine xq_aload_n (r := a0) hx hb d3_6_23 rfl (lv_at hl.1 1 rfl) ?_
    obtain ⟨a15z, hn15, h⟩ := ob h
    have hn15 : x13 = some a15z := hn15
    refine W.eq (g2 := F0 m 24 ls [va_rf a0, .int x14, .ref a15z]) (by rw [hn15]; rfl) ?_
    obtain ⟨st16, hr, h⟩ := ob h
    refine xs_q (ci := 11) (t := 5) hx hb hE hw rfl rfl (i := x14) (v := a0) hr d3_6_24 (fun H locs hw => ?_)
    clear hr
    refine lv_aload_n hx hb d3_6_25 rfl (lv_at hl.1 0 rfl) ?_
    obtain ⟨x17, hr, h⟩ := ob h
    refine xg_q (ci := 8) (C := r_8) (T := f_8) (N := 8) (ref := "PagedValues$Finder") hx hb hts (fun w h => List.mem_cons_of_mem _ (ly_8 w h)) hown hE hw rfl 1 (by decide) (hts _ (List.mem_cons_of_mem _ k185)) (fun _ h9 => h9) hr d3_6_26 ?_
    clear hr
    refine lv_aload_n hx hb d3_6_29 rfl (lv_at hl.1 0 rfl) ?_
    obtain ⟨x18, hr, h⟩ := ob h
    refine xg_i (ci := 8) (C := r_8) (T := f_8) (N := 8) (ref := "PagedValues$Finder") hx hb hts (fun w h => List.mem_cons_of_mem _ (ly_8 w h)) hown hE hw rfl 4 (by decide) (hts _ (List.mem_cons_of_mem _ k189)) (fun _ h9 => h9) hr d3_6_30 ?_
    clear hr
    refine lv_iload_n hx hb d3_6_33 rfl (lv_at hl.1 2 rfl) ?_
    obtain ⟨a19z, hn19, h⟩ := ob h
    have hn19 : x17 = some a19z := hn19
    refine W.eq (g2 := F0 m 34 ls [.int a1, .int x18, .ref a19z]) (by rw [hn19]; rfl) ?_
    obtain ⟨st20, hr, h⟩ := ob h
    refine xs_i hx hb hE hw (i := x18) (v := a1) hr d3_6_34 (fun H locs hw => ?_)
    clear hr
    refine lv_aload_n hx hb d3_6_35 rfl (lv_at hl.1 0 rfl) ?_
    refine lv_dup hx hb d3_6_36 rfl ?_
    obtain ⟨x21, hr, h⟩ := ob h
    refine xg_i (ci := 8) (C := r_8) (T := f_8) (N := 8) (ref := "PagedValues$Finder") hx hb hts (fun w h => List.mem_cons_of_mem _ (ly_8 w h)) hown hE hw rfl 4 (by decide) (hts _ (List.mem_cons_of_mem _ k189)) (fun _ h9 => h9) hr d3_6_37 ?_
    clear hr
    refine lv_iconst (v := 1) hx hb d3_6_40 (by decide) ?_
    refine lv_iadd hx hb d3_6_41 ?_
    obtain ⟨y22, hr, h⟩ := ob h
    refine lv_topi (fun y9 ey => ?_)
    have e9 := ey.trans (Option.some.inj hr)
    clear ey
    subst y9
    clear hr
    obtain ⟨st23, hr, h⟩ := ob h
    refine xp (ci := 8) (ty := .int) (C := r_8) (T := f_8) (N := 8) (ref := "PagedValues$Finder") hx hb hts (fun w h => List.mem_cons_of_mem _ (ly_8 w h)) ft_8 ft_8_ok nm_8 hown hE hw rfl 4 (by decide) (hts _ (List.mem_cons_of_mem _ k189)) (fun _ h9 => h9) rfl hr (by decide +kernel) rfl rfl d3_6_42 (fun H locs hw => ?_)
    clear hr
    cases h
    exact finH_v hQ hx hb hr hlk hE hw d3_6_45
  ·
    replace h := (if_neg c12).symm.trans h
    refine lv_aload_n hx hb d3_6_9 rfl (lv_at hl.1 0 rfl) ?_
    refine lv_iconst (v := 1) hx hb d3_6_10 (by decide) ?_
    obtain ⟨st24, hr, h⟩ := ob h
    refine xp (ci := 8) (ty := .boolean) (C := r_8) (T := f_8) (N := 8) (ref := "PagedValues$Finder") hx hb hts (fun w h => List.mem_cons_of_mem _ (ly_8 w h)) ft_8 ft_8_ok nm_8 hown hE hw rfl 7 (by decide) (hts _ (List.mem_cons_of_mem _ k192)) (fun _ h9 => h9) rfl hr (by decide +kernel) (by decide) (by decide) d3_6_11 (fun H locs hw => ?_)
    clear hr
    cases h
    exact finH_v hQ hx hb hr hlk hE hw d3_6_14
def c_Query_segmentEnd_l1 (K : KE) (o : Nat) (st : CS) : Nat → (Int32) → Option (Int32)
  | 0, _ => none
  | n9 + 1, e9 => (gI K st o 6 1).bind fun x15 => if x15 ≤ e9 then (some e9) else ((gQ K st o 6 0).bind fun x17 => x17.bind fun a18z => (rQ K st a18z 7 e9).bind fun x19 => x19.bind fun a20z => (gI K st a20z 7 0).bind fun x21 => if x21 = (0 : Int32) then ((some (e9 + 1)).bind fun y23 => c_Query_segmentEnd_l1 K o st n9 y23) else (some e9))
theorem c_Query_segmentEnd_l1_s (K : KE) (o : Nat) (st : CS) (n9 : Nat) (e9 : Int32) : c_Query_segmentEnd_l1 K o st (n9 + 1) e9 = ((gI K st o 6 1).bind fun x15 => if x15 ≤ e9 then (some e9) else ((gQ K st o 6 0).bind fun x17 => x17.bind fun a18z => (rQ K st a18z 7 e9).bind fun x19 => x19.bind fun a20z => (gI K st a20z 7 0).bind fun x21 => if x21 = (0 : Int32) then ((some (e9 + 1)).bind fun y23 => c_Query_segmentEnd_l1 K o st n9 y23) else (some e9))) := rfl
def c_Query_segmentEnd (Zd : Nat → Nat) (K : KE) (o : Nat) (a0 : Int32) (st : CS) : Option (Int32) := (some (a0 + (1 : Int32))).bind fun y11 => (c_Query_segmentEnd_l1 K o st 4096 y11).bind fun e12 => some e12
set_option maxHeartbeats 4000000 in
set_option maxRecDepth 100000 in
theorem cc_Query_segmentEnd (l : Launch) (G : Gk) (Zd : Nat → Nat) (K : KE) (o : Nat) (a0 : Int32) (st : CS) (r0 : Int32) (hm : c_Query_segmentEnd Zd K o a0 st = some r0) : CT l y8_9 prog_8_method_9_code 3 (some .int) G Zd K (0) [.ref o, .int a0] st (hI G Zd r0 st) := by
  refine goH (d := 0) (y := y8_9) (cc := prog_8_method_9_code) (maxL := 3) (ret := (some .int)) (av := [.ref o, .int a0]) (Qc := hI G Zd r0 st) "PagedValues$Query" rfl (by decide) (c1_c rfl (c1_c rfl c1_n)) (Nat.le_of_ble_eq_true rfl) ?_
  intro p e s m below meth c ls A args Q hQ hx hb hr hlk hml hown hts hin hl hE hw
  have hl : lw ls 3 [(0, .ref o), (1, .int a0)] := hl
  have hZ := hE.2.2.1
  have h := hm
  clear hm
  refine lv_iload_n hx hb d8_9_0 rfl (lv_at hl.1 1 rfl) ?_
  refine lv_iconst (v := 1) hx hb d8_9_1 (by decide) ?_
  refine lv_iadd hx hb d8_9_2 ?_
  obtain ⟨y11, hr, h⟩ := ob h
  refine lv_topi (fun y9 ey => ?_)
  have e9 := ey.trans (Option.some.inj hr)
  clear ey
  subst y9
  clear hr
  refine xt_istore_n (x := y11) (lv' := [(2, .int y11), (0, .ref o), (1, .int a0)]) hx hb d8_9_3 rfl hl (by decide) rfl (fun ls hl => ?_)
  obtain ⟨e12, hX, hrest⟩ := ob h
  clear h
  have hj : ∀ (v14 : Int32), e12 = (v14) → ∀ (H : Heap) (locs : List Loc) (cells slots : Nat) (ls : Array Slot), lw ls 3 [(0, .ref o), (1, .int a0), (2, .int v14)] → wsH G Zd A s st H locs → W p l e (rmH Zd (0) st.1) s m args below meth c H locs cells slots Q (F0 m 30 ls []) := by
    intro v14 he H locs cells slots ls hl hw
    subst e12
    have h := hrest
    clear hrest
    refine lv_iload_n hx hb d8_9_30 rfl (lv_at hl.1 2 rfl) ?_
    cases h
    exact finH_i hQ hx hb hr hlk hE hw d8_9_31
  have hloop : ∀ (n9 : Nat) (v13 : Int32), c_Query_segmentEnd_l1 K o st n9 (v13) = some e12 → ∀ (H : Heap) (locs : List Loc) (cells slots : Nat) (ls : Array Slot), lw ls 3 [(0, .ref o), (1, .int a0), (2, .int v13)] → wsH G Zd A s st H locs → W p l e (rmH Zd (0) st.1) s m args below meth c H locs cells slots Q (F0 m 4 ls []) := by
    intro n9
    induction n9 with
    | zero =>
      intro v13 h
      cases h
    | succ n9 ih =>
      intro v13 h H locs cells slots ls hl hw
      replace h := (c_Query_segmentEnd_l1_s K o st n9 (v13)).symm.trans h
      refine lv_iload_n hx hb d8_9_4 rfl (lv_at hl.1 2 rfl) ?_
      refine lv_aload_n hx hb d8_9_5 rfl (lv_at hl.1 0 rfl) ?_
      obtain ⟨x15, hr, h⟩ := ob h
      refine xg_i (ci := 6) (C := r_6) (T := f_6) (N := 2) (ref := "PagedValues$Query") hx hb hts (fun w h => List.mem_cons_of_mem _ (ly_6 w h)) hown hE hw rfl 1 (by decide) (hts _ (List.mem_cons_of_mem _ k168)) (fun _ h9 => h9) hr d8_9_6 ?_
      clear hr
      refine lv_icmp_ge (tgt := 30) hx hb d8_9_9 rfl (fun c16 => ?_) (fun c16 => ?_)
      ·
        replace h := (if_pos c16).symm.trans h
        have e9 := Option.some.inj h
        subst e12
        have hl := lw_sub hl (l' := [(0, .ref o), (1, .int a0), (2, .int v13)]) [0, 1, 2] rfl
        exact hj _ rfl _ _ _ _ _ hl hw
      ·
        replace h := (if_neg c16).symm.trans h
        refine lv_aload_n hx hb d8_9_12 rfl (lv_at hl.1 0 rfl) ?_
        obtain ⟨x17, hr, h⟩ := ob h
        refine xg_q (ci := 6) (C := r_6) (T := f_6) (N := 2) (ref := "PagedValues$Query") hx hb hts (fun w h => List.mem_cons_of_mem _ (ly_6 w h)) hown hE hw rfl 0 (by decide) (hts _ (List.mem_cons_of_mem _ k166)) (fun _ h9 => h9) hr d8_9_13 ?_
        clear hr
        refine lv_iload_n hx hb d8_9_16 rfl (lv_at hl.1 2 rfl) ?_
        obtain ⟨a18z, hn18, h⟩ := ob h
        have hn18 : x17 = some a18z := hn18
        refine W.eq (g2 := F0 m 17 ls [.int v13, .ref a18z]) (by rw [hn18]; rfl) ?_
        obtain ⟨x19, hr, h⟩ := ob h
        refine xa_q hx hb hE hw (t := 7) rfl (i := v13) hr d8_9_17 ?_
        clear hr
        obtain ⟨a20z, hn20, h⟩ := ob h
        have hn20 : x19 = some a20z := hn20
        refine W.eq (g2 := F0 m 18 ls [.ref a20z]) (by rw [hn20]; rfl) ?_
        obtain ⟨x21, hr, h⟩ := ob h
        refine xgN_i (ci := 7) (C := r_7) (T := f_7) (N := 5) (ref := "PagedValues$Selector") hx hb hts (fun w h => List.mem_cons_of_mem _ (ly_7 w h)) hown hE hw rfl 0 (by decide) (va_Nw.use rfl (hZ.1.1 _ kn145)) (fun _ h9 => h9) hr d8_9_18 ?_
        clear hr
        refine lv_if_ne (tgt := 30) hx hb d8_9_21 rfl (fun c22 => ?_) (fun c22 => ?_)
        ·
          replace h := (if_neg c22).symm.trans h
          have e9 := Option.some.inj h
          subst e12
          have hl := lw_sub hl (l' := [(0, .ref o), (1, .int a0), (2, .int v13)]) [0, 1, 2] rfl
          exact hj _ rfl _ _ _ _ _ hl hw
        ·
          replace h := (if_pos c22).symm.trans h
          obtain ⟨y23, hr, h⟩ := ob h
          refine xt_iinc (k := 2) (v := y23) (lv' := [(2, .int y23), (0, .ref o), (1, .int a0)]) hx hb d8_9_24 hl rfl hr (by decide) rfl (fun ls hl => ?_)
          clear hr
          refine lv_goto (tgt := 4) hx hb d8_9_27 rfl ?_
          have hl := lw_sub hl (l' := [(0, .ref o), (1, .int a0), (2, .int y23)]) [1, 2, 0] rfl
          exact ih _ h _ _ _ _ _ hl hw
  have hl := lw_sub hl (l' := [(0, .ref o), (1, .int a0), (2, .int y11)]) [1, 2, 0] rfl
  exact hloop _ _ hX _ _ _ _ _ hl hw
def c_Finder_take (Zd : Nat → Nat) (K : KE) (o : Nat) (a0 : Option Nat) (st : CS) : Option (CS) := nl a0 (some st) (fun a11z => (gI K st o 8 6).bind fun x12 => if x12 < (32 : Int32) then ((gQ K st o 8 3).bind fun x14 => (gI K st o 8 6).bind fun x15 => x14.bind fun a16z => (wQ st a16z 5 11 x15 a0).bind fun st17 => (gI K st17 o 8 6).bind fun x18 => (some (x18 + (1 : Int32))).bind fun y19 => (sF st17 o 8 6 (.int y19)).bind fun st20 => some st20) else ((sF st o 8 7 (.int 1)).bind fun st21 => some st21))
set_option maxHeartbeats 4000000 in
set_option maxRecDepth 100000 in
theorem cc_Finder_take (l : Launch) (G : Gk) (Zd : Nat → Nat) (K : KE) (o : Nat) (a0 : Option Nat) (st : CS) (st0 : CS) (hm : c_Finder_take Zd K o a0 st = some st0) : CT l y3_11 prog_3_method_11_code 2 none G Zd K (0) [.ref o, va_rf a0] st (hV G Zd st0) := by
  refine goH (d := 0) (y := y3_11) (cc := prog_3_method_11_code) (maxL := 2) (ret := none) (av := [.ref o, va_rf a0]) (Qc := hV G Zd st0) "PagedValues$Finder" rfl (by decide) (c1_c rfl (c1_c (rf_cat _) c1_n)) (Nat.le_of_ble_eq_true rfl) ?_
  intro p e s m below meth c ls A args Q hQ hx hb hr hlk hml hown hts hin hl hE hw
  have hl : lw ls 2 [(0, .ref o), (1, va_rf a0)] := hl
  have hZ := hE.2.2.1
  have h := hm
  clear hm
  refine xq_aload_n (r := a0) hx hb d3_11_0 rfl (lv_at hl.1 1 rfl) ?_
  rcases nl_case h with ⟨hn11, h⟩ | ⟨a11z, hn11, h⟩
  ·
    have hn11 : a0 = none := hn11
    refine W.eq (g2 := F0 m 1 ls [.null]) (by rw [hn11]; rfl) ?_
    refine lv_ifnonnullN hx hb d3_11_1 ?_
    cases h
    exact finH_v hQ hx hb hr hlk hE hw d3_11_4
  ·
    have hn11 : a0 = some a11z := hn11
    refine W.eq (g2 := F0 m 1 ls [.ref a11z]) (by rw [hn11]; rfl) ?_
    refine lv_ifnonnull (tgt := 5) hx hb d3_11_1 rfl ?_
    refine lv_aload_n hx hb d3_11_5 rfl (lv_at hl.1 0 rfl) ?_
    obtain ⟨x12, hr, h⟩ := ob h
    refine xg_i (ci := 8) (C := r_8) (T := f_8) (N := 8) (ref := "PagedValues$Finder") hx hb hts (fun w h => List.mem_cons_of_mem _ (ly_8 w h)) hown hE hw rfl 6 (by decide) (hts _ (List.mem_cons_of_mem _ k191)) (fun _ h9 => h9) hr d3_11_6 ?_
    clear hr
    refine lv_bipush (v := 32) hx hb d3_11_9 (by decide) ?_
    refine lv_icmp_lt (tgt := 20) hx hb d3_11_11 rfl (fun c13 => ?_) (fun c13 => ?_)
    ·
      replace h := (if_pos c13).symm.trans h
      refine lv_aload_n hx hb d3_11_20 rfl (lv_at hl.1 0 rfl) ?_
      obtain ⟨x14, hr, h⟩ := ob h
      refine xg_q (ci := 8) (C := r_8) (T := f_8) (N := 8) (ref := "PagedValues$Finder") hx hb hts (fun w h => List.mem_cons_of_mem _ (ly_8 w h)) hown hE hw rfl 3 (by decide) (hts _ (List.mem_cons_of_mem _ k188)) (fun _ h9 => h9) hr d3_11_21 ?_
      clear hr
      refine lv_aload_n hx hb d3_11_24 rfl (lv_at hl.1 0 rfl) ?_
      obtain ⟨x15, hr, h⟩ := ob h
      refine xg_i (ci := 8) (C := r_8) (T := f_8) (N := 8) (ref := "PagedValues$Finder") hx hb hts (fun w h => List.mem_cons_of_mem _ (ly_8 w h)) hown hE hw rfl 6 (by decide) (hts _ (List.mem_cons_of_mem _ k191)) (fun _ h9 => h9) hr d3_11_25 ?_
      clear hr
      refine xq_aload_n (r := a0) hx hb d3_11_28 rfl (lv_at hl.1 1 rfl) ?_
      obtain ⟨a16z, hn16, h⟩ := ob h
      have hn16 : x14 = some a16z := hn16
      refine W.eq (g2 := F0 m 29 ls [va_rf a0, .int x15, .ref a16z]) (by rw [hn16]; rfl) ?_
      obtain ⟨st17, hr, h⟩ := ob h
      refine xs_q (ci := 11) (t := 5) hx hb hE hw rfl rfl (i := x15) (v := a0) hr d3_11_29 (fun H locs hw => ?_)
      clear hr
      refine lv_aload_n hx hb d3_11_30 rfl (lv_at hl.1 0 rfl) ?_
      refine lv_dup hx hb d3_11_31 rfl ?_
      obtain ⟨x18, hr, h⟩ := ob h
      refine xg_i (ci := 8) (C := r_8) (T := f_8) (N := 8) (ref := "PagedValues$Finder") hx hb hts (fun w h => List.mem_cons_of_mem _ (ly_8 w h)) hown hE hw rfl 6 (by decide) (hts _ (List.mem_cons_of_mem _ k191)) (fun _ h9 => h9) hr d3_11_32 ?_
      clear hr
      refine lv_iconst (v := 1) hx hb d3_11_35 (by decide) ?_
      refine lv_iadd hx hb d3_11_36 ?_
      obtain ⟨y19, hr, h⟩ := ob h
      refine lv_topi (fun y9 ey => ?_)
      have e9 := ey.trans (Option.some.inj hr)
      clear ey
      subst y9
      clear hr
      obtain ⟨st20, hr, h⟩ := ob h
      refine xp (ci := 8) (ty := .int) (C := r_8) (T := f_8) (N := 8) (ref := "PagedValues$Finder") hx hb hts (fun w h => List.mem_cons_of_mem _ (ly_8 w h)) ft_8 ft_8_ok nm_8 hown hE hw rfl 6 (by decide) (hts _ (List.mem_cons_of_mem _ k191)) (fun _ h9 => h9) rfl hr (by decide +kernel) rfl rfl d3_11_37 (fun H locs hw => ?_)
      clear hr
      cases h
      exact finH_v hQ hx hb hr hlk hE hw d3_11_40
    ·
      replace h := (if_neg c13).symm.trans h
      refine lv_aload_n hx hb d3_11_14 rfl (lv_at hl.1 0 rfl) ?_
      refine lv_iconst (v := 1) hx hb d3_11_15 (by decide) ?_
      obtain ⟨st21, hr, h⟩ := ob h
      refine xp (ci := 8) (ty := .boolean) (C := r_8) (T := f_8) (N := 8) (ref := "PagedValues$Finder") hx hb hts (fun w h => List.mem_cons_of_mem _ (ly_8 w h)) ft_8 ft_8_ok nm_8 hown hE hw rfl 7 (by decide) (hts _ (List.mem_cons_of_mem _ k192)) (fun _ h9 => h9) rfl hr (by decide +kernel) (by decide) (by decide) d3_11_16 (fun H locs hw => ?_)
      clear hr
      cases h
      exact finH_v hQ hx hb hr hlk hE hw d3_11_19
