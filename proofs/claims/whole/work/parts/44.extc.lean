theorem d12_7_0 : decode prog_12_method_7_code 0 = .ok (.aload_n 0, 1) := by decide +kernel
theorem d12_7_1 : decode prog_12_method_7_code 1 = .ok (.aload_n 1, 1) := by decide +kernel
theorem d12_7_2 : decode prog_12_method_7_code 2 = .ok (.aload_n 1, 1) := by decide +kernel
theorem d12_7_3 : decode prog_12_method_7_code 3 = .ok (.getfield 43, 3) := by decide +kernel
theorem d12_7_6 : decode prog_12_method_7_code 6 = .ok (.invokevirtual 57, 3) := by decide +kernel
theorem d12_9_0 : decode prog_12_method_9_code 0 = .ok (.aload_n 0, 1) := by decide +kernel
theorem d12_9_1 : decode prog_12_method_9_code 1 = .ok (.getfield 33, 3) := by decide +kernel
theorem d12_9_4 : decode prog_12_method_9_code 4 = .ok (.aload_n 1, 1) := by decide +kernel
theorem d12_9_5 : decode prog_12_method_9_code 5 = .ok (.if_acmp .ne 9, 3) := by decide +kernel
theorem d12_9_14 : decode prog_12_method_9_code 14 = .ok (.aload_n 0, 1) := by decide +kernel
theorem d12_9_15 : decode prog_12_method_9_code 15 = .ok (.getfield 33, 3) := by decide +kernel
theorem d12_9_18 : decode prog_12_method_9_code 18 = .ok (.astore_n 3, 1) := by decide +kernel
theorem d12_9_45 : decode prog_12_method_9_code 45 = .ok (.return_, 1) := by decide +kernel
theorem d12_9_19 : decode prog_12_method_9_code 19 = .ok (.aload_n 3, 1) := by decide +kernel
theorem d12_9_20 : decode prog_12_method_9_code 20 = .ok (.ifnull 25, 3) := by decide +kernel
theorem d12_9_23 : decode prog_12_method_9_code 23 = .ok (.aload_n 3, 1) := by decide +kernel
theorem d12_9_24 : decode prog_12_method_9_code 24 = .ok (.getfield 43, 3) := by decide +kernel
theorem d12_9_27 : decode prog_12_method_9_code 27 = .ok (.aload_n 1, 1) := by decide +kernel
theorem d12_9_28 : decode prog_12_method_9_code 28 = .ok (.if_acmp .ne 9, 3) := by decide +kernel
theorem d12_9_37 : decode prog_12_method_9_code 37 = .ok (.aload_n 3, 1) := by decide +kernel
theorem d12_9_38 : decode prog_12_method_9_code 38 = .ok (.getfield 43, 3) := by decide +kernel
theorem d12_9_41 : decode prog_12_method_9_code 41 = .ok (.astore_n 3, 1) := by decide +kernel
theorem d12_9_42 : decode prog_12_method_9_code 42 = .ok (.goto (-23), 3) := by decide +kernel
theorem d12_9_31 : decode prog_12_method_9_code 31 = .ok (.aload_n 3, 1) := by decide +kernel
theorem d12_9_32 : decode prog_12_method_9_code 32 = .ok (.aload_n 2, 1) := by decide +kernel
theorem d12_9_33 : decode prog_12_method_9_code 33 = .ok (.putfield 43, 3) := by decide +kernel
theorem d12_9_36 : decode prog_12_method_9_code 36 = .ok (.return_, 1) := by decide +kernel
theorem d12_9_8 : decode prog_12_method_9_code 8 = .ok (.aload_n 0, 1) := by decide +kernel
theorem d12_9_9 : decode prog_12_method_9_code 9 = .ok (.aload_n 2, 1) := by decide +kernel
theorem d12_9_10 : decode prog_12_method_9_code 10 = .ok (.putfield 33, 3) := by decide +kernel
theorem d12_9_13 : decode prog_12_method_9_code 13 = .ok (.return_, 1) := by decide +kernel
def y12_9 : MethodName := { cls := "PagedValues$Value", name := "relink", desc := "(LPagedValues$Value;LPagedValues$Value;)V" }
theorem k836 : (Jvm.Cond.code ({ cls := "PagedValues$Value", name := "relink", desc := "(LPagedValues$Value;LPagedValues$Value;)V" } : Jvm.MethodName) prog_12_method_9_code (4 : Nat) (Option.none : Option Jvm.ClassFile.FieldType)) ∈ TB := tk_4 116 rfl rfl
theorem k833 : (Jvm.Cond.methodLink "PagedValues$Value" (57 : Nat) ({ cls := "PagedValues$Value", name := "relink", desc := "(LPagedValues$Value;LPagedValues$Value;)V" } : Jvm.MethodName)) ∈ TB := tk_4 113 rfl rfl
theorem k835 : (Jvm.Cond.instanceMethod ({ cls := "PagedValues$Value", name := "relink", desc := "(LPagedValues$Value;LPagedValues$Value;)V" } : Jvm.MethodName)) ∈ TB := tk_4 115 rfl rfl
theorem ks19 : Cond.selects y12_9.cls y12_9 y12_9 ∈ TB := List.mem_filter.mpr ⟨List.mem_append_left _ (List.mem_of_getElem? (i := 19) (by decide +kernel)), rfl⟩
theorem d12_7_9 : decode prog_12_method_7_code 9 = .ok (.return_, 1) := by decide +kernel
def y12_7 : MethodName := { cls := "PagedValues$Value", name := "drop", desc := "(LPagedValues$Value;)V" }
def c_Value_relink_l1 (K : KE) (a0 : Option Nat) (a1 : Option Nat) (st : CS) : Nat → (Option Nat) → Option ((CS) ⊕ (Option Nat))
  | 0, _ => none
  | n9 + 1, e9 => nl e9 (some (.inr e9)) (fun a17z => (gQ K st a17z 11 5).bind fun x18 => if x18 = a0 then ((sF st a17z 11 5 (va_rf a1)).bind fun st21 => some (.inl st21)) else ((gQ K st a17z 11 5).bind fun x20 => c_Value_relink_l1 K a0 a1 st n9 x20))
theorem c_Value_relink_l1_s (K : KE) (a0 : Option Nat) (a1 : Option Nat) (st : CS) (n9 : Nat) (e9 : Option Nat) : c_Value_relink_l1 K a0 a1 st (n9 + 1) e9 = (nl e9 (some (.inr e9)) (fun a17z => (gQ K st a17z 11 5).bind fun x18 => if x18 = a0 then ((sF st a17z 11 5 (va_rf a1)).bind fun st21 => some (.inl st21)) else ((gQ K st a17z 11 5).bind fun x20 => c_Value_relink_l1 K a0 a1 st n9 x20))) := rfl
def c_Value_relink (Zd : Nat → Nat) (K : KE) (o : Nat) (a0 : Option Nat) (a1 : Option Nat) (st : CS) : Option (CS) := (gQ K st o 11 4).bind fun x11 => if x11 = a0 then ((sF st o 11 4 (va_rf a1)).bind fun st22 => some st22) else ((gQ K st o 11 4).bind fun x13 => (c_Value_relink_l1 K a0 a1 st 4096 x13).bind fun e14 => match e14 with | .inl o9 => some o9 | .inr e8 => some st)
set_option maxHeartbeats 4000000 in
set_option maxRecDepth 100000 in
theorem cc_Value_relink (l : Launch) (G : Gk) (Zd : Nat → Nat) (K : KE) (o : Nat) (a0 : Option Nat) (a1 : Option Nat) (st : CS) (st0 : CS) (hm : c_Value_relink Zd K o a0 a1 st = some st0) : CT l y12_9 prog_12_method_9_code 4 none G Zd K (0) [.ref o, va_rf a0, va_rf a1] st (hV G Zd st0) := by
  refine goH (d := 0) (y := y12_9) (cc := prog_12_method_9_code) (maxL := 4) (ret := none) (av := [.ref o, va_rf a0, va_rf a1]) (Qc := hV G Zd st0) "PagedValues$Value" rfl (by decide) (c1_c rfl (c1_c (rf_cat _) (c1_c (rf_cat _) c1_n))) (Nat.le_of_ble_eq_true rfl) ?_
  intro p e s m below meth c ls A args Q hQ hx hb hr hlk hml hown hts hin hl hE hw
  have hl : lw ls 4 [(0, .ref o), (1, va_rf a0), (2, va_rf a1)] := hl
  have hZ := hE.2.2.1
  have h := hm
  clear hm
  refine lv_aload_n hx hb d12_9_0 rfl (lv_at hl.1 0 rfl) ?_
  obtain ⟨x11, hr, h⟩ := ob h
  refine xg_q (ci := 11) (C := r_11) (T := f_11) (N := 6) (ref := "PagedValues$Value") hx hb hts (fun w h => List.mem_cons_of_mem _ (ly_11 w h)) hown hE hw rfl 4 (by decide) (hts _ (List.mem_cons_of_mem _ k358)) (fun _ h9 => h9) hr d12_9_1 ?_
  clear hr
  refine xq_aload_n (r := a0) hx hb d12_9_4 rfl (lv_at hl.1 1 rfl) ?_
  refine lv_acmp_ne (rx := x11) (ry := a0) (tgt := 14) hx hb d12_9_5 rfl (fun c12 => ?_) (fun c12 => ?_)
  ·
    replace h := (if_neg c12).symm.trans h
    refine lv_aload_n hx hb d12_9_14 rfl (lv_at hl.1 0 rfl) ?_
    obtain ⟨x13, hr, h⟩ := ob h
    refine xg_q (ci := 11) (C := r_11) (T := f_11) (N := 6) (ref := "PagedValues$Value") hx hb hts (fun w h => List.mem_cons_of_mem _ (ly_11 w h)) hown hE hw rfl 4 (by decide) (hts _ (List.mem_cons_of_mem _ k358)) (fun _ h9 => h9) hr d12_9_15 ?_
    clear hr
    refine xt_astore_n (r := x13) (lv' := [(3, va_rf x13), (0, .ref o), (1, va_rf a0), (2, va_rf a1)]) hx hb d12_9_18 rfl hl (by decide) rfl (fun ls hl => ?_)
    obtain ⟨e14, hX, hrest⟩ := ob h
    clear h
    have hj : ∀ (v16 : Option Nat), e14 = .inr (v16) → ∀ (H : Heap) (locs : List Loc) (cells slots : Nat) (ls : Array Slot), lw ls 4 [(0, .ref o), (1, va_rf a0), (2, va_rf a1), (3, va_rf v16)] → wsH G Zd A s st H locs → W p l e (rmH Zd (0) st.1) s m args below meth c H locs cells slots Q (F0 m 45 ls []) := by
      intro v16 he H locs cells slots ls hl hw
      subst e14
      have h := hrest
      clear hrest
      cases h
      exact finH_v hQ hx hb hr hlk hE hw d12_9_45
    have hloop : ∀ (n9 : Nat) (v15 : Option Nat), c_Value_relink_l1 K a0 a1 st n9 (v15) = some e14 → ∀ (H : Heap) (locs : List Loc) (cells slots : Nat) (ls : Array Slot), lw ls 4 [(0, .ref o), (1, va_rf a0), (2, va_rf a1), (3, va_rf v15)] → wsH G Zd A s st H locs → W p l e (rmH Zd (0) st.1) s m args below meth c H locs cells slots Q (F0 m 19 ls []) := by
      intro n9
      induction n9 with
      | zero =>
        intro v15 h
        cases h
      | succ n9 ih =>
        intro v15 h H locs cells slots ls hl hw
        replace h := (c_Value_relink_l1_s K a0 a1 st n9 (v15)).symm.trans h
        refine xq_aload_n (r := v15) hx hb d12_9_19 rfl (lv_at hl.1 3 rfl) ?_
        rcases nl_case h with ⟨hn17, h⟩ | ⟨a17z, hn17, h⟩
        ·
          have hn17 : v15 = none := hn17
          refine W.eq (g2 := F0 m 20 ls [.null]) (by rw [hn17]; rfl) ?_
          refine lv_ifnullN (tgt := 45) hx hb d12_9_20 rfl ?_
          have e9 := Option.some.inj h
          subst e14
          have hl := lw_sub hl (l' := [(0, .ref o), (1, va_rf a0), (2, va_rf a1), (3, va_rf v15)]) [0, 1, 2, 3] rfl
          exact hj _ rfl _ _ _ _ _ hl hw
        ·
          have hn17 : v15 = some a17z := hn17
          refine W.eq (g2 := F0 m 20 ls [.ref a17z]) (by rw [hn17]; rfl) ?_
          refine lv_ifnull hx hb d12_9_20 ?_
          refine xq_aload_n (r := v15) hx hb d12_9_23 rfl (lv_at hl.1 3 rfl) ?_
          refine W.eq (g2 := F0 m 24 ls [.ref a17z]) (by rw [hn17]; rfl) ?_
          obtain ⟨x18, hr, h⟩ := ob h
          refine xg_q (ci := 11) (C := r_11) (T := f_11) (N := 6) (ref := "PagedValues$Value") hx hb hts (fun w h => List.mem_cons_of_mem _ (ly_11 w h)) hown hE hw rfl 5 (by decide) (hts _ (List.mem_cons_of_mem _ k361)) (fun _ h9 => h9) hr d12_9_24 ?_
          clear hr
          refine xq_aload_n (r := a0) hx hb d12_9_27 rfl (lv_at hl.1 1 rfl) ?_
          refine lv_acmp_ne (rx := x18) (ry := a0) (tgt := 37) hx hb d12_9_28 rfl (fun c19 => ?_) (fun c19 => ?_)
          ·
            replace h := (if_neg c19).symm.trans h
            refine xq_aload_n (r := v15) hx hb d12_9_37 rfl (lv_at hl.1 3 rfl) ?_
            refine W.eq (g2 := F0 m 38 ls [.ref a17z]) (by rw [hn17]; rfl) ?_
            obtain ⟨x20, hr, h⟩ := ob h
            refine xg_q (ci := 11) (C := r_11) (T := f_11) (N := 6) (ref := "PagedValues$Value") hx hb hts (fun w h => List.mem_cons_of_mem _ (ly_11 w h)) hown hE hw rfl 5 (by decide) (hts _ (List.mem_cons_of_mem _ k361)) (fun _ h9 => h9) hr d12_9_38 ?_
            clear hr
            refine xt_astore_n (r := x20) (lv' := [(3, va_rf x20), (0, .ref o), (1, va_rf a0), (2, va_rf a1)]) hx hb d12_9_41 rfl hl (by decide) rfl (fun ls hl => ?_)
            refine lv_goto (tgt := 19) hx hb d12_9_42 rfl ?_
            have hl := lw_sub hl (l' := [(0, .ref o), (1, va_rf a0), (2, va_rf a1), (3, va_rf x20)]) [1, 2, 3, 0] rfl
            exact ih _ h _ _ _ _ _ hl hw
          ·
            replace h := (if_pos c19).symm.trans h
            refine xq_aload_n (r := v15) hx hb d12_9_31 rfl (lv_at hl.1 3 rfl) ?_
            refine xq_aload_n (r := a1) hx hb d12_9_32 rfl (lv_at hl.1 2 rfl) ?_
            refine W.eq (g2 := F0 m 33 ls [va_rf a1, .ref a17z]) (by rw [hn17]; rfl) ?_
            obtain ⟨st21, hr, h⟩ := ob h
            refine xp (ci := 11) (ty := (ft_11 5)) (C := r_11) (T := f_11) (N := 6) (ref := "PagedValues$Value") hx hb hts (fun w h => List.mem_cons_of_mem _ (ly_11 w h)) ft_11 ft_11_ok nm_11 hown hE hw rfl 5 (by decide) (hts _ (List.mem_cons_of_mem _ k361)) (fun _ h9 => h9) rfl hr (by decide +kernel) (rf_narO _) (rf_fitO _) d12_9_33 (fun H locs hw => ?_)
            clear hr
            cases h
            cases hrest
            exact finH_v hQ hx hb hr hlk hE hw d12_9_36
    have hl := lw_sub hl (l' := [(0, .ref o), (1, va_rf a0), (2, va_rf a1), (3, va_rf x13)]) [1, 2, 3, 0] rfl
    exact hloop _ _ hX _ _ _ _ _ hl hw
  ·
    replace h := (if_pos c12).symm.trans h
    refine lv_aload_n hx hb d12_9_8 rfl (lv_at hl.1 0 rfl) ?_
    refine xq_aload_n (r := a1) hx hb d12_9_9 rfl (lv_at hl.1 2 rfl) ?_
    obtain ⟨st22, hr, h⟩ := ob h
    refine xp (ci := 11) (ty := (ft_11 4)) (C := r_11) (T := f_11) (N := 6) (ref := "PagedValues$Value") hx hb hts (fun w h => List.mem_cons_of_mem _ (ly_11 w h)) ft_11 ft_11_ok nm_11 hown hE hw rfl 4 (by decide) (hts _ (List.mem_cons_of_mem _ k358)) (fun _ h9 => h9) rfl hr (by decide +kernel) (rf_narO _) (rf_fitO _) d12_9_10 (fun H locs hw => ?_)
    clear hr
    cases h
    exact finH_v hQ hx hb hr hlk hE hw d12_9_13
def c_Value_drop (Zd : Nat → Nat) (K : KE) (o : Nat) (a0 : Option Nat) (st : CS) : Option (CS) := a0.bind fun a11z => (gQ K st a11z 11 5).bind fun x12 => (isO K st o 11).bind fun _ => (c_Value_relink Zd K o a0 x12 st).bind fun st14 => some st14
set_option maxHeartbeats 4000000 in
set_option maxRecDepth 100000 in
theorem cc_Value_drop (l : Launch) (G : Gk) (Zd : Nat → Nat) (K : KE) (o : Nat) (a0 : Option Nat) (st : CS) (st0 : CS) (hm : c_Value_drop Zd K o a0 st = some st0) : CT l y12_7 prog_12_method_7_code 2 none G Zd K (1) [.ref o, va_rf a0] st (hV G Zd st0) := by
  refine goH (d := 1) (y := y12_7) (cc := prog_12_method_7_code) (maxL := 2) (ret := none) (av := [.ref o, va_rf a0]) (Qc := hV G Zd st0) "PagedValues$Value" rfl (by decide) (c1_c rfl (c1_c (rf_cat _) c1_n)) (Nat.le_of_ble_eq_true rfl) ?_
  intro p e s m below meth c ls A args Q hQ hx hb hr hlk hml hown hts hin hl hE hw
  have hl : lw ls 2 [(0, .ref o), (1, va_rf a0)] := hl
  have hZ := hE.2.2.1
  have h := hm
  clear hm
  refine lv_aload_n hx hb d12_7_0 rfl (lv_at hl.1 0 rfl) ?_
  refine xq_aload_n (r := a0) hx hb d12_7_1 rfl (lv_at hl.1 1 rfl) ?_
  refine xq_aload_n (r := a0) hx hb d12_7_2 rfl (lv_at hl.1 1 rfl) ?_
  obtain ⟨a11z, hn11, h⟩ := ob h
  have hn11 : a0 = some a11z := hn11
  refine W.eq (g2 := F0 m 3 ls [.ref a11z, va_rf a0, .ref o]) (by rw [hn11]; rfl) ?_
  obtain ⟨x12, hr, h⟩ := ob h
  refine xg_q (ci := 11) (C := r_11) (T := f_11) (N := 6) (ref := "PagedValues$Value") hx hb hts (fun w h => List.mem_cons_of_mem _ (ly_11 w h)) hown hE hw rfl 5 (by decide) (hts _ (List.mem_cons_of_mem _ k361)) (fun _ h9 => h9) hr d12_7_3 ?_
  clear hr
  obtain ⟨u9, ho, h⟩ := ob h
  obtain ⟨st14, hc, h⟩ := ob h
  refine hV_v (ci := 11) (As := [va_rf a0, va_rf x12]) (rest := []) ⟨hx, hb, hml, hown, hts⟩ (cc_Value_relink l G Zd K o a0 x12 st st14 hc) (kw_V (n := 2) hts k836 k833 k18 k835 ks19 (by decide +kernel) ⟨Nat.le_of_ble_eq_true rfl, Nat.le_of_ble_eq_true rfl⟩) hE hw rfl rfl ho rfl hl.1.1 rfl (c1_8 c1_n (Nat.le_of_ble_eq_true rfl)) d12_7_6 (fun H locs cells slots hw => ?_)
  clear hc ho u9
  refine W.eq (g2 := F0 m 9 ls []) rfl ?_
  cases h
  exact finH_v hQ hx hb hr hlk hE hw d12_7_9
theorem d12_8_0 : decode prog_12_method_8_code 0 = .ok (.aload_n 2, 1) := by decide +kernel
theorem d12_8_1 : decode prog_12_method_8_code 1 = .ok (.aload_n 1, 1) := by decide +kernel
theorem d12_8_2 : decode prog_12_method_8_code 2 = .ok (.getfield 11, 3) := by decide +kernel
theorem d12_8_5 : decode prog_12_method_8_code 5 = .ok (.putfield 11, 3) := by decide +kernel
theorem d12_8_8 : decode prog_12_method_8_code 8 = .ok (.aload_n 2, 1) := by decide +kernel
theorem d12_8_9 : decode prog_12_method_8_code 9 = .ok (.aload_n 1, 1) := by decide +kernel
theorem d12_8_10 : decode prog_12_method_8_code 10 = .ok (.getfield 43, 3) := by decide +kernel
theorem d12_8_13 : decode prog_12_method_8_code 13 = .ok (.putfield 43, 3) := by decide +kernel
theorem d12_8_16 : decode prog_12_method_8_code 16 = .ok (.aload_n 0, 1) := by decide +kernel
theorem d12_8_17 : decode prog_12_method_8_code 17 = .ok (.aload_n 1, 1) := by decide +kernel
theorem d12_8_18 : decode prog_12_method_8_code 18 = .ok (.aload_n 2, 1) := by decide +kernel
theorem d12_8_19 : decode prog_12_method_8_code 19 = .ok (.invokevirtual 57, 3) := by decide +kernel
theorem d12_8_22 : decode prog_12_method_8_code 22 = .ok (.return_, 1) := by decide +kernel
def y12_8 : MethodName := { cls := "PagedValues$Value", name := "swap", desc := "(LPagedValues$Value;LPagedValues$Value;)V" }
def c_Value_swap (Zd : Nat → Nat) (K : KE) (o : Nat) (a0 : Option Nat) (a1 : Option Nat) (st : CS) : Option (CS) := a0.bind fun a11z => (gQ K st a11z 11 3).bind fun x12 => a1.bind fun a13z => (sF st a13z 11 3 (va_rf x12)).bind fun st14 => (gQ K st14 a11z 11 5).bind fun x15 => (sF st14 a13z 11 5 (va_rf x15)).bind fun st16 => (isO K st16 o 11).bind fun _ => (c_Value_relink Zd K o a0 a1 st16).bind fun st18 => some st18
set_option maxHeartbeats 4000000 in
set_option maxRecDepth 100000 in
theorem cc_Value_swap (l : Launch) (G : Gk) (Zd : Nat → Nat) (K : KE) (o : Nat) (a0 : Option Nat) (a1 : Option Nat) (st : CS) (st0 : CS) (hm : c_Value_swap Zd K o a0 a1 st = some st0) : CT l y12_8 prog_12_method_8_code 3 none G Zd K (1) [.ref o, va_rf a0, va_rf a1] st (hV G Zd st0) := by
  refine goH (d := 1) (y := y12_8) (cc := prog_12_method_8_code) (maxL := 3) (ret := none) (av := [.ref o, va_rf a0, va_rf a1]) (Qc := hV G Zd st0) "PagedValues$Value" rfl (by decide) (c1_c rfl (c1_c (rf_cat _) (c1_c (rf_cat _) c1_n))) (Nat.le_of_ble_eq_true rfl) ?_
  intro p e s m below meth c ls A args Q hQ hx hb hr hlk hml hown hts hin hl hE hw
  have hl : lw ls 3 [(0, .ref o), (1, va_rf a0), (2, va_rf a1)] := hl
  have hZ := hE.2.2.1
  have h := hm
  clear hm
  refine xq_aload_n (r := a1) hx hb d12_8_0 rfl (lv_at hl.1 2 rfl) ?_
  refine xq_aload_n (r := a0) hx hb d12_8_1 rfl (lv_at hl.1 1 rfl) ?_
  obtain ⟨a11z, hn11, h⟩ := ob h
  have hn11 : a0 = some a11z := hn11
  refine W.eq (g2 := F0 m 2 ls [.ref a11z, va_rf a1]) (by rw [hn11]; rfl) ?_
  obtain ⟨x12, hr, h⟩ := ob h
  refine xg_q (ci := 11) (C := r_11) (T := f_11) (N := 6) (ref := "PagedValues$Value") hx hb hts (fun w h => List.mem_cons_of_mem _ (ly_11 w h)) hown hE hw rfl 3 (by decide) (hts _ (List.mem_cons_of_mem _ k355)) (fun _ h9 => h9) hr d12_8_2 ?_
  clear hr
  obtain ⟨a13z, hn13, h⟩ := ob h
  have hn13 : a1 = some a13z := hn13
  refine W.eq (g2 := F0 m 5 ls [va_rf x12, .ref a13z]) (by rw [hn13]; rfl) ?_
  obtain ⟨st14, hr, h⟩ := ob h
  refine xp (ci := 11) (ty := (ft_11 3)) (C := r_11) (T := f_11) (N := 6) (ref := "PagedValues$Value") hx hb hts (fun w h => List.mem_cons_of_mem _ (ly_11 w h)) ft_11 ft_11_ok nm_11 hown hE hw rfl 3 (by decide) (hts _ (List.mem_cons_of_mem _ k355)) (fun _ h9 => h9) rfl hr (by decide +kernel) (rf_narO _) (rf_fitO _) d12_8_5 (fun H locs hw => ?_)
  clear hr
  refine xq_aload_n (r := a1) hx hb d12_8_8 rfl (lv_at hl.1 2 rfl) ?_
  refine xq_aload_n (r := a0) hx hb d12_8_9 rfl (lv_at hl.1 1 rfl) ?_
  refine W.eq (g2 := F0 m 10 ls [.ref a11z, va_rf a1]) (by rw [hn11]; rfl) ?_
  obtain ⟨x15, hr, h⟩ := ob h
  refine xg_q (ci := 11) (C := r_11) (T := f_11) (N := 6) (ref := "PagedValues$Value") hx hb hts (fun w h => List.mem_cons_of_mem _ (ly_11 w h)) hown hE hw rfl 5 (by decide) (hts _ (List.mem_cons_of_mem _ k361)) (fun _ h9 => h9) hr d12_8_10 ?_
  clear hr
  refine W.eq (g2 := F0 m 13 ls [va_rf x15, .ref a13z]) (by rw [hn13]; rfl) ?_
  obtain ⟨st16, hr, h⟩ := ob h
  refine xp (ci := 11) (ty := (ft_11 5)) (C := r_11) (T := f_11) (N := 6) (ref := "PagedValues$Value") hx hb hts (fun w h => List.mem_cons_of_mem _ (ly_11 w h)) ft_11 ft_11_ok nm_11 hown hE hw rfl 5 (by decide) (hts _ (List.mem_cons_of_mem _ k361)) (fun _ h9 => h9) rfl hr (by decide +kernel) (rf_narO _) (rf_fitO _) d12_8_13 (fun H locs hw => ?_)
  clear hr
  refine lv_aload_n hx hb d12_8_16 rfl (lv_at hl.1 0 rfl) ?_
  refine xq_aload_n (r := a0) hx hb d12_8_17 rfl (lv_at hl.1 1 rfl) ?_
  refine xq_aload_n (r := a1) hx hb d12_8_18 rfl (lv_at hl.1 2 rfl) ?_
  obtain ⟨u9, ho, h⟩ := ob h
  obtain ⟨st18, hc, h⟩ := ob h
  refine hV_v (ci := 11) (As := [va_rf a0, va_rf a1]) (rest := []) ⟨hx, hb, hml, hown, hts⟩ (cc_Value_relink l G Zd K o a0 a1 st16 st18 hc) (kw_V (n := 2) hts k836 k833 k18 k835 ks19 (by decide +kernel) ⟨Nat.le_of_ble_eq_true rfl, Nat.le_of_ble_eq_true rfl⟩) hE hw rfl rfl ho rfl hl.1.1 rfl (c1_8 c1_n (Nat.le_of_ble_eq_true rfl)) d12_8_19 (fun H locs cells slots hw => ?_)
  clear hc ho u9
  refine W.eq (g2 := F0 m 22 ls []) rfl ?_
  cases h
  exact finH_v hQ hx hb hr hlk hE hw d12_8_22
theorem d12_10_0 : decode prog_12_method_10_code 0 = .ok (.iconst 1, 1) := by decide +kernel
theorem d12_10_1 : decode prog_12_method_10_code 1 = .ok (.istore_n 2, 1) := by decide +kernel
theorem d12_10_2 : decode prog_12_method_10_code 2 = .ok (.iload_n 1, 1) := by decide +kernel
theorem d12_10_3 : decode prog_12_method_10_code 3 = .ok (.bipush 8, 2) := by decide +kernel
theorem d12_10_5 : decode prog_12_method_10_code 5 = .ok (.if_icmp .ge 30, 3) := by decide +kernel
theorem d12_10_8 : decode prog_12_method_10_code 8 = .ok (.aload_n 0, 1) := by decide +kernel
theorem d12_10_9 : decode prog_12_method_10_code 9 = .ok (.getfield 33, 3) := by decide +kernel
theorem d12_10_12 : decode prog_12_method_10_code 12 = .ok (.astore_n 3, 1) := by decide +kernel
theorem d12_10_13 : decode prog_12_method_10_code 13 = .ok (.aload_n 3, 1) := by decide +kernel
theorem d12_10_14 : decode prog_12_method_10_code 14 = .ok (.ifnull 21, 3) := by decide +kernel
theorem d12_10_17 : decode prog_12_method_10_code 17 = .ok (.iload_n 2, 1) := by decide +kernel
theorem d12_10_18 : decode prog_12_method_10_code 18 = .ok (.aload_n 3, 1) := by decide +kernel
theorem d12_10_19 : decode prog_12_method_10_code 19 = .ok (.iload_n 1, 1) := by decide +kernel
theorem d12_10_20 : decode prog_12_method_10_code 20 = .ok (.iconst 1, 1) := by decide +kernel
theorem d12_10_21 : decode prog_12_method_10_code 21 = .ok (.iadd, 1) := by decide +kernel
theorem d12_10_22 : decode prog_12_method_10_code 22 = .ok (.invokestatic 61, 3) := by decide +kernel
theorem k739 : (Jvm.Cond.code ({ cls := "PagedValues$Value", name := "sizeOf", desc := "(LPagedValues$Value;I)I" } : Jvm.MethodName) prog_12_method_10_code (4 : Nat) (Option.some Jvm.ClassFile.FieldType.int)) ∈ TB := tk_4 19 rfl rfl
def y12_10 : MethodName := { cls := "PagedValues$Value", name := "sizeOf", desc := "(LPagedValues$Value;I)I" }
theorem k740 : (Jvm.Cond.methodLink "PagedValues$Value" (61 : Nat) ({ cls := "PagedValues$Value", name := "sizeOf", desc := "(LPagedValues$Value;I)I" } : Jvm.MethodName)) ∈ TB := tk_4 20 rfl rfl
theorem k738 : (Jvm.Cond.static ({ cls := "PagedValues$Value", name := "sizeOf", desc := "(LPagedValues$Value;I)I" } : Jvm.MethodName)) ∈ TB := tk_4 18 rfl rfl
theorem d12_10_25 : decode prog_12_method_10_code 25 = .ok (.iadd, 1) := by decide +kernel
theorem d12_10_26 : decode prog_12_method_10_code 26 = .ok (.istore_n 2, 1) := by decide +kernel
theorem d12_10_27 : decode prog_12_method_10_code 27 = .ok (.aload_n 3, 1) := by decide +kernel
theorem d12_10_28 : decode prog_12_method_10_code 28 = .ok (.getfield 43, 3) := by decide +kernel
theorem d12_10_31 : decode prog_12_method_10_code 31 = .ok (.astore_n 3, 1) := by decide +kernel
theorem d12_10_32 : decode prog_12_method_10_code 32 = .ok (.goto (-19), 3) := by decide +kernel
theorem d12_10_35 : decode prog_12_method_10_code 35 = .ok (.iload_n 2, 1) := by decide +kernel
theorem d12_10_36 : decode prog_12_method_10_code 36 = .ok (.ireturn, 1) := by decide +kernel
def c_Value_sizeOf_l1 (K : KE) (fv : Option Nat → Int32 → CS → Option (Int32)) (a1 : Int32) (st : CS) : Nat → (Int32 × Option Nat) → Option (Int32 × Option Nat)
  | 0, _ => none
  | n9 + 1, e9 => nl e9.2 (some (e9.1, e9.2)) (fun a21z => (some (a1 + (1 : Int32))).bind fun y22 => (fv e9.2 y22 st).bind fun x23 => (some (e9.1 + x23)).bind fun y26 => (gQ K st a21z 11 5).bind fun x27 => c_Value_sizeOf_l1 K fv a1 st n9 (y26, x27))
theorem c_Value_sizeOf_l1_s (K : KE) (fv : Option Nat → Int32 → CS → Option (Int32)) (a1 : Int32) (st : CS) (n9 : Nat) (e9 : Int32 × Option Nat) : c_Value_sizeOf_l1 K fv a1 st (n9 + 1) e9 = (nl e9.2 (some (e9.1, e9.2)) (fun a21z => (some (a1 + (1 : Int32))).bind fun y22 => (fv e9.2 y22 st).bind fun x23 => (some (e9.1 + x23)).bind fun y26 => (gQ K st a21z 11 5).bind fun x27 => c_Value_sizeOf_l1 K fv a1 st n9 (y26, x27))) := rfl
def c_Value_sizeOf_b (Zd : Nat → Nat) (K : KE) (fv : Option Nat → Int32 → CS → Option (Int32)) (a0 : Option Nat) (a1 : Int32) (st : CS) : Option (Int32) := (if (8 : Int32) ≤ a1 then (some (1 : Int32)) else (a0.bind fun a14z => (gQ K st a14z 11 4).bind fun x15 => (c_Value_sizeOf_l1 K fv a1 st 4096 ((1 : Int32), x15)).bind fun e16 => some e16.1)).bind fun e11 => some e11
set_option maxHeartbeats 4000000 in
set_option maxRecDepth 100000 in
theorem cc_Value_sizeOf_b (l : Launch) (G : Gk) (Zd : Nat → Nat) (K : KE) (fv : Option Nat → Int32 → CS → Option (Int32)) (Dv : Nat) (hv : ∀ (b0 : Option Nat) (b1 : Int32) (st : CS) (r0 : Int32), fv b0 b1 st = some r0 → CT l y12_10 prog_12_method_10_code 4 (some .int) G Zd K Dv [va_rf b0, .int b1] st (hI G Zd r0 st)) (a0 : Option Nat) (a1 : Int32) (st : CS) (r0 : Int32) (hm : c_Value_sizeOf_b Zd K fv a0 a1 st = some r0) : CT l y12_10 prog_12_method_10_code 4 (some .int) G Zd K (Dv + 1) [va_rf a0, .int a1] st (hI G Zd r0 st) := by
  refine goH (d := Dv + 1) (y := y12_10) (cc := prog_12_method_10_code) (maxL := 4) (ret := (some .int)) (av := [va_rf a0, .int a1]) (Qc := hI G Zd r0 st) "PagedValues$Value" rfl (by decide) (c1_c (rf_cat _) (c1_c rfl c1_n)) (Nat.le_of_ble_eq_true rfl) ?_
  intro p e s m below meth c ls A args Q hQ hx hb hr hlk hml hown hts hin hl hE hw
  have hl : lw ls 4 [(0, va_rf a0), (1, .int a1)] := hl
  have hZ := hE.2.2.1
  have h := hm
  clear hm
  refine lv_iconst (v := 1) hx hb d12_10_0 (by decide) ?_
  refine xt_istore_n (x := 1) (lv' := [(2, .int 1), (0, va_rf a0), (1, .int a1)]) hx hb d12_10_1 rfl hl (by decide) rfl (fun ls hl => ?_)
  refine lv_iload_n hx hb d12_10_2 rfl (lv_at hl.1 2 rfl) ?_
  refine lv_bipush (v := 8) hx hb d12_10_3 (by decide) ?_
  obtain ⟨e11, hX, h⟩ := ob h
  have hj : ∀ (H : Heap) (locs : List Loc) (cells slots : Nat) (ls : Array Slot), lw ls 4 [(0, va_rf a0), (1, .int a1), (2, .int e11)] → wsH G Zd A s st H locs → W p l e (rmH Zd (Dv + 1) st.1) s m args below meth c H locs cells slots Q (F0 m 35 ls []) := by
    intro H locs cells slots ls hl hw
    refine lv_iload_n hx hb d12_10_35 rfl (lv_at hl.1 2 rfl) ?_
    cases h
    exact finH_i hQ hx hb hr hlk hE hw d12_10_36
  clear h
  refine lv_icmp_ge (tgt := 35) hx hb d12_10_5 rfl (fun c13 => ?_) (fun c13 => ?_)
  ·
    replace h := (if_pos c13).symm.trans hX
    have e9 := Option.some.inj h
    subst e11
    have hl := lw_sub hl (l' := [(0, va_rf a0), (1, .int a1), (2, .int 1)]) [1, 2, 0] rfl
    exact hj _ _ _ _ _ hl hw
  ·
    replace h := (if_neg c13).symm.trans hX
    refine xq_aload_n (r := a0) hx hb d12_10_8 rfl (lv_at hl.1 1 rfl) ?_
    obtain ⟨a14z, hn14, h⟩ := ob h
    have hn14 : a0 = some a14z := hn14
    refine W.eq (g2 := F0 m 9 ls [.ref a14z]) (by rw [hn14]; rfl) ?_
    obtain ⟨x15, hr, h⟩ := ob h
    refine xg_q (ci := 11) (C := r_11) (T := f_11) (N := 6) (ref := "PagedValues$Value") hx hb hts (fun w h => List.mem_cons_of_mem _ (ly_11 w h)) hown hE hw rfl 4 (by decide) (hts _ (List.mem_cons_of_mem _ k358)) (fun _ h9 => h9) hr d12_10_9 ?_
    clear hr
    refine xt_astore_n (r := x15) (lv' := [(3, va_rf x15), (2, .int 1), (0, va_rf a0), (1, .int a1)]) hx hb d12_10_12 rfl hl (by decide) rfl (fun ls hl => ?_)
    obtain ⟨e16, hX, hrest⟩ := ob h
    clear h
    have hj : ∀ (v19 : Int32) (v20 : Option Nat), e16 = (v19, v20) → ∀ (H : Heap) (locs : List Loc) (cells slots : Nat) (ls : Array Slot), lw ls 4 [(0, va_rf a0), (1, .int a1), (2, .int v19), (3, va_rf v20)] → wsH G Zd A s st H locs → W p l e (rmH Zd (Dv + 1) st.1) s m args below meth c H locs cells slots Q (F0 m 35 ls []) := by
      intro v19 v20 he H locs cells slots ls hl hw
      subst e16
      have h := hrest
      clear hrest
      have e9 := Option.some.inj h
      subst e11
      have hl := lw_sub hl (l' := [(0, va_rf a0), (1, .int a1), (2, .int v19)]) [0, 1, 2] rfl
      exact hj _ _ _ _ _ hl hw
    have hloop : ∀ (n9 : Nat) (v17 : Int32) (v18 : Option Nat), c_Value_sizeOf_l1 K fv a1 st n9 (v17, v18) = some e16 → ∀ (H : Heap) (locs : List Loc) (cells slots : Nat) (ls : Array Slot), lw ls 4 [(0, va_rf a0), (1, .int a1), (2, .int v17), (3, va_rf v18)] → wsH G Zd A s st H locs → W p l e (rmH Zd (Dv + 1) st.1) s m args below meth c H locs cells slots Q (F0 m 13 ls []) := by
      intro n9
      induction n9 with
      | zero =>
        intro v17 v18 h
        cases h
      | succ n9 ih =>
        intro v17 v18 h H locs cells slots ls hl hw
        replace h := (c_Value_sizeOf_l1_s K fv a1 st n9 (v17, v18)).symm.trans h
        refine xq_aload_n (r := v18) hx hb d12_10_13 rfl (lv_at hl.1 3 rfl) ?_
        rcases nl_case h with ⟨hn21, h⟩ | ⟨a21z, hn21, h⟩
        ·
          have hn21 : v18 = none := hn21
          refine W.eq (g2 := F0 m 14 ls [.null]) (by rw [hn21]; rfl) ?_
          refine lv_ifnullN (tgt := 35) hx hb d12_10_14 rfl ?_
          have e9 := Option.some.inj h
          subst e16
          have hl := lw_sub hl (l' := [(0, va_rf a0), (1, .int a1), (2, .int v17), (3, va_rf v18)]) [0, 1, 2, 3] rfl
          exact hj _ _ rfl _ _ _ _ _ hl hw
        ·
          have hn21 : v18 = some a21z := hn21
          refine W.eq (g2 := F0 m 14 ls [.ref a21z]) (by rw [hn21]; rfl) ?_
          refine lv_ifnull hx hb d12_10_14 ?_
          refine lv_iload_n hx hb d12_10_17 rfl (lv_at hl.1 2 rfl) ?_
          refine xq_aload_n (r := v18) hx hb d12_10_18 rfl (lv_at hl.1 3 rfl) ?_
          refine lv_iload_n hx hb d12_10_19 rfl (lv_at hl.1 1 rfl) ?_
          refine lv_iconst (v := 1) hx hb d12_10_20 (by decide) ?_
          refine lv_iadd hx hb d12_10_21 ?_
          obtain ⟨y22, hr, h⟩ := ob h
          refine lv_topi (fun y9 ey => ?_)
          have e9 := ey.trans (Option.some.inj hr)
          clear ey
          subst y9
          clear hr
          obtain ⟨x23, hc, h⟩ := ob h
          refine hS_i (As := [va_rf v18, .int y22]) (rest := [.int v17]) ⟨hx, hb, hml, hown, hts⟩ (hv v18 y22 st x23 hc) (kw_S (n := 2) hts k739 k740 k18 k738 (by decide +kernel) ⟨(show Dv + 1 ≤ Dv + 1 by omega), (show 8 + (4 + 11) + 64 * (Dv) ≤ 64 * (Dv + 1) by omega)⟩) hE hw rfl hl.1.1 rfl (c1_8 (c1_c rfl c1_n) (Nat.le_of_ble_eq_true rfl)) d12_10_22 (fun H locs cells slots hw => ?_)
          clear hc
          refine W.eq (g2 := F0 m 25 ls [.int x23, .int v17]) rfl ?_
          refine lv_iadd hx hb d12_10_25 ?_
          obtain ⟨y26, hr, h⟩ := ob h
          refine lv_topi (fun y9 ey => ?_)
          have e9 := ey.trans (Option.some.inj hr)
          clear ey
          subst y9
          clear hr
          refine xt_istore_n (x := y26) (lv' := [(2, .int y26), (0, va_rf a0), (1, .int a1), (3, va_rf v18)]) hx hb d12_10_26 rfl hl (by decide) rfl (fun ls hl => ?_)
          refine xq_aload_n (r := v18) hx hb d12_10_27 rfl (lv_at hl.1 3 rfl) ?_
          refine W.eq (g2 := F0 m 28 ls [.ref a21z]) (by rw [hn21]; rfl) ?_
          obtain ⟨x27, hr, h⟩ := ob h
          refine xg_q (ci := 11) (C := r_11) (T := f_11) (N := 6) (ref := "PagedValues$Value") hx hb hts (fun w h => List.mem_cons_of_mem _ (ly_11 w h)) hown hE hw rfl 5 (by decide) (hts _ (List.mem_cons_of_mem _ k361)) (fun _ h9 => h9) hr d12_10_28 ?_
          clear hr
          refine xt_astore_n (r := x27) (lv' := [(3, va_rf x27), (2, .int y26), (0, va_rf a0), (1, .int a1)]) hx hb d12_10_31 rfl hl (by decide) rfl (fun ls hl => ?_)
          refine lv_goto (tgt := 13) hx hb d12_10_32 rfl ?_
          have hl := lw_sub hl (l' := [(0, va_rf a0), (1, .int a1), (2, .int y26), (3, va_rf x27)]) [2, 3, 1, 0] rfl
          exact ih _ _ h _ _ _ _ _ hl hw
    have hl := lw_sub hl (l' := [(0, va_rf a0), (1, .int a1), (2, .int 1), (3, va_rf x15)]) [2, 3, 1, 0] rfl
    exact hloop _ _ _ hX _ _ _ _ _ hl hw
def c_Value_sizeOf (Zd : Nat → Nat) (K : KE) : Nat → Option Nat → Int32 → CS → Option (Int32)
  | 0 => fun _ _ _ => none
  | d9 + 1 => c_Value_sizeOf_b Zd K (c_Value_sizeOf Zd K d9)
theorem cc_Value_sizeOf (l : Launch) (G : Gk) (Zd : Nat → Nat) (K : KE) : ∀ (d9 : Nat) (a0 : Option Nat) (a1 : Int32) (st : CS) (r0 : Int32) , c_Value_sizeOf Zd K d9 a0 a1 st = some r0 → CT l y12_10 prog_12_method_10_code 4 (some .int) G Zd K (1 * d9) [va_rf a0, .int a1] st (hI G Zd r0 st) := by
  intro d9
  induction d9 with
  | zero =>
    intro  a0 a1 st r0 hm
    have h9 : (none : Option (Int32)) = some r0 := hm
    cases h9
  | succ d9 ih =>
    intro  a0 a1 st r0 hm
    rw [Nat.mul_succ]
    exact cc_Value_sizeOf_b l G Zd K (c_Value_sizeOf Zd K d9) (1 * d9) ih a0 a1 st r0 hm
theorem d12_11_0 : decode prog_12_method_11_code 0 = .ok (.aload_n 0, 1) := by decide +kernel
theorem d12_11_1 : decode prog_12_method_11_code 1 = .ok (.getfield 17, 3) := by decide +kernel
theorem d12_11_4 : decode prog_12_method_11_code 4 = .ok (.getstatic 46, 3) := by decide +kernel
theorem d12_11_7 : decode prog_12_method_11_code 7 = .ok (.if_acmp .eq 15, 3) := by decide +kernel
theorem d12_11_22 : decode prog_12_method_11_code 22 = .ok (.iconst 0, 1) := by decide +kernel
theorem d12_11_23 : decode prog_12_method_11_code 23 = .ok (.istore_n 2, 1) := by decide +kernel
theorem d12_11_24 : decode prog_12_method_11_code 24 = .ok (.iload_n 1, 1) := by decide +kernel
theorem d12_11_25 : decode prog_12_method_11_code 25 = .ok (.bipush 8, 2) := by decide +kernel
theorem d12_11_27 : decode prog_12_method_11_code 27 = .ok (.if_icmp .ge 32, 3) := by decide +kernel
theorem d12_11_30 : decode prog_12_method_11_code 30 = .ok (.aload_n 0, 1) := by decide +kernel
theorem d12_11_31 : decode prog_12_method_11_code 31 = .ok (.getfield 33, 3) := by decide +kernel
theorem d12_11_34 : decode prog_12_method_11_code 34 = .ok (.astore_n 3, 1) := by decide +kernel
theorem d12_11_35 : decode prog_12_method_11_code 35 = .ok (.aload_n 3, 1) := by decide +kernel
theorem d12_11_36 : decode prog_12_method_11_code 36 = .ok (.ifnull 23, 3) := by decide +kernel
theorem d12_11_39 : decode prog_12_method_11_code 39 = .ok (.iload_n 2, 1) := by decide +kernel
theorem d12_11_40 : decode prog_12_method_11_code 40 = .ok (.aload_n 3, 1) := by decide +kernel
theorem d12_11_41 : decode prog_12_method_11_code 41 = .ok (.iload_n 1, 1) := by decide +kernel
theorem d12_11_42 : decode prog_12_method_11_code 42 = .ok (.iconst 1, 1) := by decide +kernel
theorem d12_11_43 : decode prog_12_method_11_code 43 = .ok (.iadd, 1) := by decide +kernel
theorem d12_11_44 : decode prog_12_method_11_code 44 = .ok (.invokestatic 65, 3) := by decide +kernel
theorem k865 : (Jvm.Cond.code ({ cls := "PagedValues$Value", name := "depthOf", desc := "(LPagedValues$Value;I)I" } : Jvm.MethodName) prog_12_method_11_code (4 : Nat) (Option.some Jvm.ClassFile.FieldType.int)) ∈ TB := tk_4 145 rfl rfl
def y12_11 : MethodName := { cls := "PagedValues$Value", name := "depthOf", desc := "(LPagedValues$Value;I)I" }
theorem k866 : (Jvm.Cond.methodLink "PagedValues$Value" (65 : Nat) ({ cls := "PagedValues$Value", name := "depthOf", desc := "(LPagedValues$Value;I)I" } : Jvm.MethodName)) ∈ TB := tk_4 146 rfl rfl
theorem k864 : (Jvm.Cond.static ({ cls := "PagedValues$Value", name := "depthOf", desc := "(LPagedValues$Value;I)I" } : Jvm.MethodName)) ∈ TB := tk_4 144 rfl rfl
theorem d12_11_47 : decode prog_12_method_11_code 47 = .ok (.invokestatic 68, 3) := by decide +kernel
theorem k867 : (Jvm.Cond.methodLink "PagedValues$Value" (68 : Nat) ({ cls := "java/lang/Math", name := "max", desc := "(II)I" } : Jvm.MethodName)) ∈ TB := tk_4 147 rfl rfl
theorem d12_11_50 : decode prog_12_method_11_code 50 = .ok (.istore_n 2, 1) := by decide +kernel
theorem d12_11_51 : decode prog_12_method_11_code 51 = .ok (.aload_n 3, 1) := by decide +kernel
theorem d12_11_52 : decode prog_12_method_11_code 52 = .ok (.getfield 43, 3) := by decide +kernel
theorem d12_11_55 : decode prog_12_method_11_code 55 = .ok (.astore_n 3, 1) := by decide +kernel
theorem d12_11_56 : decode prog_12_method_11_code 56 = .ok (.goto (-21), 3) := by decide +kernel
theorem d12_11_59 : decode prog_12_method_11_code 59 = .ok (.iload_n 2, 1) := by decide +kernel
theorem d12_11_60 : decode prog_12_method_11_code 60 = .ok (.iconst 1, 1) := by decide +kernel
theorem d12_11_61 : decode prog_12_method_11_code 61 = .ok (.iadd, 1) := by decide +kernel
theorem d12_11_62 : decode prog_12_method_11_code 62 = .ok (.ireturn, 1) := by decide +kernel
theorem d12_11_10 : decode prog_12_method_11_code 10 = .ok (.aload_n 0, 1) := by decide +kernel
theorem d12_11_11 : decode prog_12_method_11_code 11 = .ok (.getfield 17, 3) := by decide +kernel
theorem d12_11_14 : decode prog_12_method_11_code 14 = .ok (.getstatic 28, 3) := by decide +kernel
theorem d12_11_17 : decode prog_12_method_11_code 17 = .ok (.if_acmp .eq 5, 3) := by decide +kernel
theorem d12_11_20 : decode prog_12_method_11_code 20 = .ok (.iconst 0, 1) := by decide +kernel
theorem d12_11_21 : decode prog_12_method_11_code 21 = .ok (.ireturn, 1) := by decide +kernel
def c_Value_depthOf_l1 (K : KE) (fv : Option Nat → Int32 → CS → Option (Int32)) (a1 : Int32) (st : CS) : Nat → (Int32 × Option Nat) → Option (Int32 × Option Nat)
  | 0, _ => none
  | n9 + 1, e9 => nl e9.2 (some (e9.1, e9.2)) (fun a24z => (some (a1 + (1 : Int32))).bind fun y25 => (fv e9.2 y25 st).bind fun x26 => (some (if e9.1 < x26 then x26 else e9.1)).bind fun y29 => (gQ K st a24z 11 5).bind fun x30 => c_Value_depthOf_l1 K fv a1 st n9 (y29, x30))
theorem c_Value_depthOf_l1_s (K : KE) (fv : Option Nat → Int32 → CS → Option (Int32)) (a1 : Int32) (st : CS) (n9 : Nat) (e9 : Int32 × Option Nat) : c_Value_depthOf_l1 K fv a1 st (n9 + 1) e9 = (nl e9.2 (some (e9.1, e9.2)) (fun a24z => (some (a1 + (1 : Int32))).bind fun y25 => (fv e9.2 y25 st).bind fun x26 => (some (if e9.1 < x26 then x26 else e9.1)).bind fun y29 => (gQ K st a24z 11 5).bind fun x30 => c_Value_depthOf_l1 K fv a1 st n9 (y29, x30))) := rfl
def c_Value_depthOf_l2 (K : KE) (fv : Option Nat → Int32 → CS → Option (Int32)) (a1 : Int32) (st : CS) : Nat → (Int32 × Option Nat) → Option (Int32 × Option Nat)
  | 0, _ => none
  | n9 + 1, e9 => nl e9.2 (some (e9.1, e9.2)) (fun a43z => (some (a1 + (1 : Int32))).bind fun y44 => (fv e9.2 y44 st).bind fun x45 => (some (if e9.1 < x45 then x45 else e9.1)).bind fun y48 => (gQ K st a43z 11 5).bind fun x49 => c_Value_depthOf_l2 K fv a1 st n9 (y48, x49))
theorem c_Value_depthOf_l2_s (K : KE) (fv : Option Nat → Int32 → CS → Option (Int32)) (a1 : Int32) (st : CS) (n9 : Nat) (e9 : Int32 × Option Nat) : c_Value_depthOf_l2 K fv a1 st (n9 + 1) e9 = (nl e9.2 (some (e9.1, e9.2)) (fun a43z => (some (a1 + (1 : Int32))).bind fun y44 => (fv e9.2 y44 st).bind fun x45 => (some (if e9.1 < x45 then x45 else e9.1)).bind fun y48 => (gQ K st a43z 11 5).bind fun x49 => c_Value_depthOf_l2 K fv a1 st n9 (y48, x49))) := rfl
def c_Value_depthOf_b (Zd : Nat → Nat) (K : KE) (fv : Option Nat → Int32 → CS → Option (Int32)) (a0 : Option Nat) (a1 : Int32) (st : CS) : Option (Int32) := a0.bind fun a11z => (gQ K st a11z 11 0).bind fun x12 => if x12 = some (Zd 13) then ((if (8 : Int32) ≤ a1 then (some (0 : Int32)) else ((gQ K st a11z 11 4).bind fun x18 => (c_Value_depthOf_l1 K fv a1 st 4096 ((0 : Int32), x18)).bind fun e19 => some e19.1)).bind fun e14 => (some (e14 + (1 : Int32))).bind fun y16 => some y16) else ((gQ K st a11z 11 0).bind fun x31 => if x31 = some (Zd 14) then ((if (8 : Int32) ≤ a1 then (some (0 : Int32)) else ((gQ K st a11z 11 4).bind fun x37 => (c_Value_depthOf_l2 K fv a1 st 4096 ((0 : Int32), x37)).bind fun e38 => some e38.1)).bind fun e33 => (some (e33 + (1 : Int32))).bind fun y35 => some y35) else (some (0 : Int32)))
set_option maxHeartbeats 4000000 in
set_option maxRecDepth 100000 in
theorem cc_Value_depthOf_b (l : Launch) (G : Gk) (Zd : Nat → Nat) (K : KE) (fv : Option Nat → Int32 → CS → Option (Int32)) (Dv : Nat) (hv : ∀ (b0 : Option Nat) (b1 : Int32) (st : CS) (r0 : Int32), fv b0 b1 st = some r0 → CT l y12_11 prog_12_method_11_code 4 (some .int) G Zd K Dv [va_rf b0, .int b1] st (hI G Zd r0 st)) (a0 : Option Nat) (a1 : Int32) (st : CS) (r0 : Int32) (hm : c_Value_depthOf_b Zd K fv a0 a1 st = some r0) : CT l y12_11 prog_12_method_11_code 4 (some .int) G Zd K (Dv + 1) [va_rf a0, .int a1] st (hI G Zd r0 st) := by
  refine goH (d := Dv + 1) (y := y12_11) (cc := prog_12_method_11_code) (maxL := 4) (ret := (some .int)) (av := [va_rf a0, .int a1]) (Qc := hI G Zd r0 st) "PagedValues$Value" rfl (by decide) (c1_c (rf_cat _) (c1_c rfl c1_n)) (Nat.le_of_ble_eq_true rfl) ?_
  intro p e s m below meth c ls A args Q hQ hx hb hr hlk hml hown hts hin hl hE hw
  have hl : lw ls 4 [(0, va_rf a0), (1, .int a1)] := hl
  have hZ := hE.2.2.1
  have h := hm
  clear hm
  refine xq_aload_n (r := a0) hx hb d12_11_0 rfl (lv_at hl.1 0 rfl) ?_
  obtain ⟨a11z, hn11, h⟩ := ob h
  have hn11 : a0 = some a11z := hn11
  refine W.eq (g2 := F0 m 1 ls [.ref a11z]) (by rw [hn11]; rfl) ?_
  obtain ⟨x12, hr, h⟩ := ob h
  refine xg_q (ci := 11) (C := r_11) (T := f_11) (N := 6) (ref := "PagedValues$Value") hx hb hts (fun w h => List.mem_cons_of_mem _ (ly_11 w h)) hown hE hw rfl 0 (by decide) (hts _ (List.mem_cons_of_mem _ k349)) (fun _ h9 => h9) hr d12_11_1 ?_
  clear hr
  refine va_gets (ref := "PagedValues$Kind") hx hb (hZ.2.1.1.1 5 (by decide)).1 hw.2.2.2 hown (hts _ (List.mem_cons_of_mem _ k827)) (fun _ h9 => h9) d12_11_4 ?_
  refine W.eq (g2 := F0 m 7 ls [.ref (Zd 13), va_rf x12]) rfl ?_
  refine lv_acmp_eq (rx := x12) (ry := some (Zd 13)) (tgt := 22) hx hb d12_11_7 rfl (fun c13 => ?_) (fun c13 => ?_)
  ·
    replace h := (if_pos c13).symm.trans h
    refine lv_iconst (v := 0) hx hb d12_11_22 (by decide) ?_
    refine xt_istore_n (x := 0) (lv' := [(2, .int 0), (0, va_rf a0), (1, .int a1)]) hx hb d12_11_23 rfl hl (by decide) rfl (fun ls hl => ?_)
    refine lv_iload_n hx hb d12_11_24 rfl (lv_at hl.1 2 rfl) ?_
    refine lv_bipush (v := 8) hx hb d12_11_25 (by decide) ?_
    obtain ⟨e14, hX, h⟩ := ob h
    have hj : ∀ (H : Heap) (locs : List Loc) (cells slots : Nat) (ls : Array Slot), lw ls 4 [(0, va_rf a0), (1, .int a1), (2, .int e14)] → wsH G Zd A s st H locs → W p l e (rmH Zd (Dv + 1) st.1) s m args below meth c H locs cells slots Q (F0 m 59 ls []) := by
      intro H locs cells slots ls hl hw
      refine lv_iload_n hx hb d12_11_59 rfl (lv_at hl.1 2 rfl) ?_
      refine lv_iconst (v := 1) hx hb d12_11_60 (by decide) ?_
      refine lv_iadd hx hb d12_11_61 ?_
      obtain ⟨y16, hr, h⟩ := ob h
      refine lv_topi (fun y9 ey => ?_)
      have e9 := ey.trans (Option.some.inj hr)
      clear ey
      subst y9
      clear hr
      cases h
      exact finH_i hQ hx hb hr hlk hE hw d12_11_62
    clear h
    refine lv_icmp_ge (tgt := 59) hx hb d12_11_27 rfl (fun c17 => ?_) (fun c17 => ?_)
    ·
      replace h := (if_pos c17).symm.trans hX
      have e9 := Option.some.inj h
      subst e14
      have hl := lw_sub hl (l' := [(0, va_rf a0), (1, .int a1), (2, .int 0)]) [1, 2, 0] rfl
      exact hj _ _ _ _ _ hl hw
    ·
      replace h := (if_neg c17).symm.trans hX
      refine xq_aload_n (r := a0) hx hb d12_11_30 rfl (lv_at hl.1 1 rfl) ?_
      refine W.eq (g2 := F0 m 31 ls [.ref a11z]) (by rw [hn11]; rfl) ?_
      obtain ⟨x18, hr, h⟩ := ob h
      refine xg_q (ci := 11) (C := r_11) (T := f_11) (N := 6) (ref := "PagedValues$Value") hx hb hts (fun w h => List.mem_cons_of_mem _ (ly_11 w h)) hown hE hw rfl 4 (by decide) (hts _ (List.mem_cons_of_mem _ k358)) (fun _ h9 => h9) hr d12_11_31 ?_
      clear hr
      refine xt_astore_n (r := x18) (lv' := [(3, va_rf x18), (2, .int 0), (0, va_rf a0), (1, .int a1)]) hx hb d12_11_34 rfl hl (by decide) rfl (fun ls hl => ?_)
      obtain ⟨e19, hX, hrest⟩ := ob h
      clear h
      have hj : ∀ (v22 : Int32) (v23 : Option Nat), e19 = (v22, v23) → ∀ (H : Heap) (locs : List Loc) (cells slots : Nat) (ls : Array Slot), lw ls 4 [(0, va_rf a0), (1, .int a1), (2, .int v22), (3, va_rf v23)] → wsH G Zd A s st H locs → W p l e (rmH Zd (Dv + 1) st.1) s m args below meth c H locs cells slots Q (F0 m 59 ls []) := by
        intro v22 v23 he H locs cells slots ls hl hw
        subst e19
        have h := hrest
        clear hrest
        have e9 := Option.some.inj h
        subst e14
        have hl := lw_sub hl (l' := [(0, va_rf a0), (1, .int a1), (2, .int v22)]) [0, 1, 2] rfl
        exact hj _ _ _ _ _ hl hw
      have hloop : ∀ (n9 : Nat) (v20 : Int32) (v21 : Option Nat), c_Value_depthOf_l1 K fv a1 st n9 (v20, v21) = some e19 → ∀ (H : Heap) (locs : List Loc) (cells slots : Nat) (ls : Array Slot), lw ls 4 [(0, va_rf a0), (1, .int a1), (2, .int v20), (3, va_rf v21)] → wsH G Zd A s st H locs → W p l e (rmH Zd (Dv + 1) st.1) s m args below meth c H locs cells slots Q (F0 m 35 ls []) := by
        intro n9
        induction n9 with
        | zero =>
          intro v20 v21 h
          cases h
        | succ n9 ih =>
          intro v20 v21 h H locs cells slots ls hl hw
          replace h := (c_Value_depthOf_l1_s K fv a1 st n9 (v20, v21)).symm.trans h
          refine xq_aload_n (r := v21) hx hb d12_11_35 rfl (lv_at hl.1 3 rfl) ?_
          rcases nl_case h with ⟨hn24, h⟩ | ⟨a24z, hn24, h⟩
          ·
            have hn24 : v21 = none := hn24
            refine W.eq (g2 := F0 m 36 ls [.null]) (by rw [hn24]; rfl) ?_
            refine lv_ifnullN (tgt := 59) hx hb d12_11_36 rfl ?_
            have e9 := Option.some.inj h
            subst e19
            have hl := lw_sub hl (l' := [(0, va_rf a0), (1, .int a1), (2, .int v20), (3, va_rf v21)]) [0, 1, 2, 3] rfl
            exact hj _ _ rfl _ _ _ _ _ hl hw
          ·
            have hn24 : v21 = some a24z := hn24
            refine W.eq (g2 := F0 m 36 ls [.ref a24z]) (by rw [hn24]; rfl) ?_
            refine lv_ifnull hx hb d12_11_36 ?_
            refine lv_iload_n hx hb d12_11_39 rfl (lv_at hl.1 2 rfl) ?_
            refine xq_aload_n (r := v21) hx hb d12_11_40 rfl (lv_at hl.1 3 rfl) ?_
            refine lv_iload_n hx hb d12_11_41 rfl (lv_at hl.1 1 rfl) ?_
            refine lv_iconst (v := 1) hx hb d12_11_42 (by decide) ?_
            refine lv_iadd hx hb d12_11_43 ?_
            obtain ⟨y25, hr, h⟩ := ob h
            refine lv_topi (fun y9 ey => ?_)
            have e9 := ey.trans (Option.some.inj hr)
            clear ey
            subst y9
            clear hr
            obtain ⟨x26, hc, h⟩ := ob h
            refine hS_i (As := [va_rf v21, .int y25]) (rest := [.int v20]) ⟨hx, hb, hml, hown, hts⟩ (hv v21 y25 st x26 hc) (kw_S (n := 2) hts k865 k866 k18 k864 (by decide +kernel) ⟨(show Dv + 1 ≤ Dv + 1 by omega), (show 8 + (4 + 11) + 64 * (Dv) ≤ 64 * (Dv + 1) by omega)⟩) hE hw rfl hl.1.1 rfl (c1_8 (c1_c rfl c1_n) (Nat.le_of_ble_eq_true rfl)) d12_11_44 (fun H locs cells slots hw => ?_)
            clear hc
            refine W.eq (g2 := F0 m 47 ls [.int x26, .int v20]) rfl ?_
            refine xmax (x := v20) (y := x26) (rest := []) hx hb (by rw [hml]; exact hl.1.1.symm) hown (hts _ (List.mem_cons_of_mem _ k867)) (hts _ (List.mem_cons_of_mem _ k414)) (hts _ (List.mem_cons_of_mem _ k20)) (hts _ (List.mem_cons_of_mem _ kmax)) hE hw (show 1 ≤ Dv + 1 by omega) (by rw [c1_sum c1_n]; show 0 + 13 ≤ 64 * (Dv + 1); omega) d12_11_47 (fun cells slots => ?_)
            obtain ⟨y29, hr, h⟩ := ob h
            refine lv_topi (fun y9 ey => ?_)
            have e9 := ey.trans (Option.some.inj hr)
            clear ey
            subst y9
            clear hr
            refine xt_istore_n (x := y29) (lv' := [(2, .int y29), (0, va_rf a0), (1, .int a1), (3, va_rf v21)]) hx hb d12_11_50 rfl hl (by decide) rfl (fun ls hl => ?_)
            refine xq_aload_n (r := v21) hx hb d12_11_51 rfl (lv_at hl.1 3 rfl) ?_
            refine W.eq (g2 := F0 m 52 ls [.ref a24z]) (by rw [hn24]; rfl) ?_
            obtain ⟨x30, hr, h⟩ := ob h
            refine xg_q (ci := 11) (C := r_11) (T := f_11) (N := 6) (ref := "PagedValues$Value") hx hb hts (fun w h => List.mem_cons_of_mem _ (ly_11 w h)) hown hE hw rfl 5 (by decide) (hts _ (List.mem_cons_of_mem _ k361)) (fun _ h9 => h9) hr d12_11_52 ?_
            clear hr
            refine xt_astore_n (r := x30) (lv' := [(3, va_rf x30), (2, .int y29), (0, va_rf a0), (1, .int a1)]) hx hb d12_11_55 rfl hl (by decide) rfl (fun ls hl => ?_)
            refine lv_goto (tgt := 35) hx hb d12_11_56 rfl ?_
            have hl := lw_sub hl (l' := [(0, va_rf a0), (1, .int a1), (2, .int y29), (3, va_rf x30)]) [2, 3, 1, 0] rfl
            exact ih _ _ h _ _ _ _ _ hl hw
      have hl := lw_sub hl (l' := [(0, va_rf a0), (1, .int a1), (2, .int 0), (3, va_rf x18)]) [2, 3, 1, 0] rfl
      exact hloop _ _ _ hX _ _ _ _ _ hl hw
  ·
    replace h := (if_neg c13).symm.trans h
    refine xq_aload_n (r := a0) hx hb d12_11_10 rfl (lv_at hl.1 0 rfl) ?_
    refine W.eq (g2 := F0 m 11 ls [.ref a11z]) (by rw [hn11]; rfl) ?_
    obtain ⟨x31, hr, h⟩ := ob h
    refine xg_q (ci := 11) (C := r_11) (T := f_11) (N := 6) (ref := "PagedValues$Value") hx hb hts (fun w h => List.mem_cons_of_mem _ (ly_11 w h)) hown hE hw rfl 0 (by decide) (hts _ (List.mem_cons_of_mem _ k349)) (fun _ h9 => h9) hr d12_11_11 ?_
    clear hr
    refine va_gets (ref := "PagedValues$Kind") hx hb (hZ.2.1.1.1 6 (by decide)).1 hw.2.2.2 hown (hts _ (List.mem_cons_of_mem _ k585)) (fun _ h9 => h9) d12_11_14 ?_
    refine W.eq (g2 := F0 m 17 ls [.ref (Zd 14), va_rf x31]) rfl ?_
    refine lv_acmp_eq (rx := x31) (ry := some (Zd 14)) (tgt := 22) hx hb d12_11_17 rfl (fun c32 => ?_) (fun c32 => ?_)
    ·
      replace h := (if_pos c32).symm.trans h
      refine lv_iconst (v := 0) hx hb d12_11_22 (by decide) ?_
      refine xt_istore_n (x := 0) (lv' := [(2, .int 0), (0, va_rf a0), (1, .int a1)]) hx hb d12_11_23 rfl hl (by decide) rfl (fun ls hl => ?_)
      refine lv_iload_n hx hb d12_11_24 rfl (lv_at hl.1 2 rfl) ?_
      refine lv_bipush (v := 8) hx hb d12_11_25 (by decide) ?_
      obtain ⟨e33, hX, h⟩ := ob h
      have hj : ∀ (H : Heap) (locs : List Loc) (cells slots : Nat) (ls : Array Slot), lw ls 4 [(0, va_rf a0), (1, .int a1), (2, .int e33)] → wsH G Zd A s st H locs → W p l e (rmH Zd (Dv + 1) st.1) s m args below meth c H locs cells slots Q (F0 m 59 ls []) := by
        intro H locs cells slots ls hl hw
        refine lv_iload_n hx hb d12_11_59 rfl (lv_at hl.1 2 rfl) ?_
        refine lv_iconst (v := 1) hx hb d12_11_60 (by decide) ?_
        refine lv_iadd hx hb d12_11_61 ?_
        obtain ⟨y35, hr, h⟩ := ob h
        refine lv_topi (fun y9 ey => ?_)
        have e9 := ey.trans (Option.some.inj hr)
        clear ey
        subst y9
        clear hr
        cases h
        exact finH_i hQ hx hb hr hlk hE hw d12_11_62
      clear h
      refine lv_icmp_ge (tgt := 59) hx hb d12_11_27 rfl (fun c36 => ?_) (fun c36 => ?_)
      ·
        replace h := (if_pos c36).symm.trans hX
        have e9 := Option.some.inj h
        subst e33
        have hl := lw_sub hl (l' := [(0, va_rf a0), (1, .int a1), (2, .int 0)]) [1, 2, 0] rfl
        exact hj _ _ _ _ _ hl hw
      ·
        replace h := (if_neg c36).symm.trans hX
        refine xq_aload_n (r := a0) hx hb d12_11_30 rfl (lv_at hl.1 1 rfl) ?_
        refine W.eq (g2 := F0 m 31 ls [.ref a11z]) (by rw [hn11]; rfl) ?_
        obtain ⟨x37, hr, h⟩ := ob h
        refine xg_q (ci := 11) (C := r_11) (T := f_11) (N := 6) (ref := "PagedValues$Value") hx hb hts (fun w h => List.mem_cons_of_mem _ (ly_11 w h)) hown hE hw rfl 4 (by decide) (hts _ (List.mem_cons_of_mem _ k358)) (fun _ h9 => h9) hr d12_11_31 ?_
        clear hr
        refine xt_astore_n (r := x37) (lv' := [(3, va_rf x37), (2, .int 0), (0, va_rf a0), (1, .int a1)]) hx hb d12_11_34 rfl hl (by decide) rfl (fun ls hl => ?_)
        obtain ⟨e38, hX, hrest⟩ := ob h
        clear h
        have hj : ∀ (v41 : Int32) (v42 : Option Nat), e38 = (v41, v42) → ∀ (H : Heap) (locs : List Loc) (cells slots : Nat) (ls : Array Slot), lw ls 4 [(0, va_rf a0), (1, .int a1), (2, .int v41), (3, va_rf v42)] → wsH G Zd A s st H locs → W p l e (rmH Zd (Dv + 1) st.1) s m args below meth c H locs cells slots Q (F0 m 59 ls []) := by
          intro v41 v42 he H locs cells slots ls hl hw
          subst e38
          have h := hrest
          clear hrest
          have e9 := Option.some.inj h
          subst e33
          have hl := lw_sub hl (l' := [(0, va_rf a0), (1, .int a1), (2, .int v41)]) [0, 1, 2] rfl
          exact hj _ _ _ _ _ hl hw
        have hloop : ∀ (n9 : Nat) (v39 : Int32) (v40 : Option Nat), c_Value_depthOf_l2 K fv a1 st n9 (v39, v40) = some e38 → ∀ (H : Heap) (locs : List Loc) (cells slots : Nat) (ls : Array Slot), lw ls 4 [(0, va_rf a0), (1, .int a1), (2, .int v39), (3, va_rf v40)] → wsH G Zd A s st H locs → W p l e (rmH Zd (Dv + 1) st.1) s m args below meth c H locs cells slots Q (F0 m 35 ls []) := by
          intro n9
          induction n9 with
          | zero =>
            intro v39 v40 h
            cases h
          | succ n9 ih =>
            intro v39 v40 h H locs cells slots ls hl hw
            replace h := (c_Value_depthOf_l2_s K fv a1 st n9 (v39, v40)).symm.trans h
            refine xq_aload_n (r := v40) hx hb d12_11_35 rfl (lv_at hl.1 3 rfl) ?_
            rcases nl_case h with ⟨hn43, h⟩ | ⟨a43z, hn43, h⟩
            ·
              have hn43 : v40 = none := hn43
              refine W.eq (g2 := F0 m 36 ls [.null]) (by rw [hn43]; rfl) ?_
              refine lv_ifnullN (tgt := 59) hx hb d12_11_36 rfl ?_
              have e9 := Option.some.inj h
              subst e38
              have hl := lw_sub hl (l' := [(0, va_rf a0), (1, .int a1), (2, .int v39), (3, va_rf v40)]) [0, 1, 2, 3] rfl
              exact hj _ _ rfl _ _ _ _ _ hl hw
            ·
              have hn43 : v40 = some a43z := hn43
              refine W.eq (g2 := F0 m 36 ls [.ref a43z]) (by rw [hn43]; rfl) ?_
              refine lv_ifnull hx hb d12_11_36 ?_
              refine lv_iload_n hx hb d12_11_39 rfl (lv_at hl.1 2 rfl) ?_
              refine xq_aload_n (r := v40) hx hb d12_11_40 rfl (lv_at hl.1 3 rfl) ?_
              refine lv_iload_n hx hb d12_11_41 rfl (lv_at hl.1 1 rfl) ?_
              refine lv_iconst (v := 1) hx hb d12_11_42 (by decide) ?_
              refine lv_iadd hx hb d12_11_43 ?_
              obtain ⟨y44, hr, h⟩ := ob h
              refine lv_topi (fun y9 ey => ?_)
              have e9 := ey.trans (Option.some.inj hr)
              clear ey
              subst y9
              clear hr
              obtain ⟨x45, hc, h⟩ := ob h
              refine hS_i (As := [va_rf v40, .int y44]) (rest := [.int v39]) ⟨hx, hb, hml, hown, hts⟩ (hv v40 y44 st x45 hc) (kw_S (n := 2) hts k865 k866 k18 k864 (by decide +kernel) ⟨(show Dv + 1 ≤ Dv + 1 by omega), (show 8 + (4 + 11) + 64 * (Dv) ≤ 64 * (Dv + 1) by omega)⟩) hE hw rfl hl.1.1 rfl (c1_8 (c1_c rfl c1_n) (Nat.le_of_ble_eq_true rfl)) d12_11_44 (fun H locs cells slots hw => ?_)
              clear hc
              refine W.eq (g2 := F0 m 47 ls [.int x45, .int v39]) rfl ?_
              refine xmax (x := v39) (y := x45) (rest := []) hx hb (by rw [hml]; exact hl.1.1.symm) hown (hts _ (List.mem_cons_of_mem _ k867)) (hts _ (List.mem_cons_of_mem _ k414)) (hts _ (List.mem_cons_of_mem _ k20)) (hts _ (List.mem_cons_of_mem _ kmax)) hE hw (show 1 ≤ Dv + 1 by omega) (by rw [c1_sum c1_n]; show 0 + 13 ≤ 64 * (Dv + 1); omega) d12_11_47 (fun cells slots => ?_)
              obtain ⟨y48, hr, h⟩ := ob h
              refine lv_topi (fun y9 ey => ?_)
              have e9 := ey.trans (Option.some.inj hr)
              clear ey
              subst y9
              clear hr
              refine xt_istore_n (x := y48) (lv' := [(2, .int y48), (0, va_rf a0), (1, .int a1), (3, va_rf v40)]) hx hb d12_11_50 rfl hl (by decide) rfl (fun ls hl => ?_)
              refine xq_aload_n (r := v40) hx hb d12_11_51 rfl (lv_at hl.1 3 rfl) ?_
              refine W.eq (g2 := F0 m 52 ls [.ref a43z]) (by rw [hn43]; rfl) ?_
              obtain ⟨x49, hr, h⟩ := ob h
              refine xg_q (ci := 11) (C := r_11) (T := f_11) (N := 6) (ref := "PagedValues$Value") hx hb hts (fun w h => List.mem_cons_of_mem _ (ly_11 w h)) hown hE hw rfl 5 (by decide) (hts _ (List.mem_cons_of_mem _ k361)) (fun _ h9 => h9) hr d12_11_52 ?_
              clear hr
              refine xt_astore_n (r := x49) (lv' := [(3, va_rf x49), (2, .int y48), (0, va_rf a0), (1, .int a1)]) hx hb d12_11_55 rfl hl (by decide) rfl (fun ls hl => ?_)
              refine lv_goto (tgt := 35) hx hb d12_11_56 rfl ?_
              have hl := lw_sub hl (l' := [(0, va_rf a0), (1, .int a1), (2, .int y48), (3, va_rf x49)]) [2, 3, 1, 0] rfl
              exact ih _ _ h _ _ _ _ _ hl hw
        have hl := lw_sub hl (l' := [(0, va_rf a0), (1, .int a1), (2, .int 0), (3, va_rf x37)]) [2, 3, 1, 0] rfl
        exact hloop _ _ _ hX _ _ _ _ _ hl hw
    ·
      replace h := (if_neg c32).symm.trans h
      refine lv_iconst (v := 0) hx hb d12_11_20 (by decide) ?_
      cases h
      exact finH_i hQ hx hb hr hlk hE hw d12_11_21
def c_Value_depthOf (Zd : Nat → Nat) (K : KE) : Nat → Option Nat → Int32 → CS → Option (Int32)
  | 0 => fun _ _ _ => none
  | d9 + 1 => c_Value_depthOf_b Zd K (c_Value_depthOf Zd K d9)
theorem cc_Value_depthOf (l : Launch) (G : Gk) (Zd : Nat → Nat) (K : KE) : ∀ (d9 : Nat) (a0 : Option Nat) (a1 : Int32) (st : CS) (r0 : Int32) , c_Value_depthOf Zd K d9 a0 a1 st = some r0 → CT l y12_11 prog_12_method_11_code 4 (some .int) G Zd K (1 * d9) [va_rf a0, .int a1] st (hI G Zd r0 st) := by
  intro d9
  induction d9 with
  | zero =>
    intro  a0 a1 st r0 hm
    have h9 : (none : Option (Int32)) = some r0 := hm
    cases h9
  | succ d9 ih =>
    intro  a0 a1 st r0 hm
    rw [Nat.mul_succ]
    exact cc_Value_depthOf_b l G Zd K (c_Value_depthOf Zd K d9) (1 * d9) ih a0 a1 st r0 hm
theorem d12_12_0 : decode prog_12_method_12_code 0 = .ok (.new 12, 3) := by decide +kernel
theorem k779 : (Jvm.Cond.classLink "PagedValues$Value" (12 : Nat) "PagedValues$Value") ∈ TB := tk_4 59 rfl rfl
theorem k342 : (Jvm.Cond.instantiable "PagedValues$Value" (6 : Nat)) ∈ TB := tk_2 102 rfl rfl
theorem d12_12_3 : decode prog_12_method_12_code 3 = .ok (.dup, 1) := by decide +kernel
theorem d12_12_4 : decode prog_12_method_12_code 4 = .ok (.aload_n 0, 1) := by decide +kernel
theorem d12_12_5 : decode prog_12_method_12_code 5 = .ok (.getfield 17, 3) := by decide +kernel
theorem d12_12_8 : decode prog_12_method_12_code 8 = .ok (.aload_n 0, 1) := by decide +kernel
theorem d12_12_9 : decode prog_12_method_12_code 9 = .ok (.getfield 21, 3) := by decide +kernel
theorem d12_12_12 : decode prog_12_method_12_code 12 = .ok (.aload_n 0, 1) := by decide +kernel
theorem d12_12_13 : decode prog_12_method_12_code 13 = .ok (.getfield 25, 3) := by decide +kernel
theorem d12_12_16 : decode prog_12_method_12_code 16 = .ok (.invokespecial 74, 3) := by decide +kernel
theorem k346 : (Jvm.Cond.code ({ cls := "PagedValues$Value", name := "<init>", desc := "(LPagedValues$Kind;ILjava/lang/String;)V" } : Jvm.MethodName) prog_12_method_1_code (4 : Nat) (Option.none : Option Jvm.ClassFile.FieldType)) ∈ TB := tk_2 106 rfl rfl
theorem k780 : (Jvm.Cond.methodLink "PagedValues$Value" (74 : Nat) ({ cls := "PagedValues$Value", name := "<init>", desc := "(LPagedValues$Kind;ILjava/lang/String;)V" } : Jvm.MethodName)) ∈ TB := tk_4 60 rfl rfl
theorem k345 : (Jvm.Cond.instanceMethod ({ cls := "PagedValues$Value", name := "<init>", desc := "(LPagedValues$Kind;ILjava/lang/String;)V" } : Jvm.MethodName)) ∈ TB := tk_2 105 rfl rfl
theorem d12_12_19 : decode prog_12_method_12_code 19 = .ok (.astore_n 2, 1) := by decide +kernel
theorem d12_12_20 : decode prog_12_method_12_code 20 = .ok (.aconst_null, 1) := by decide +kernel
theorem d12_12_21 : decode prog_12_method_12_code 21 = .ok (.astore_n 3, 1) := by decide +kernel
theorem d12_12_22 : decode prog_12_method_12_code 22 = .ok (.iload_n 1, 1) := by decide +kernel
theorem d12_12_23 : decode prog_12_method_12_code 23 = .ok (.bipush 8, 2) := by decide +kernel
theorem d12_12_25 : decode prog_12_method_12_code 25 = .ok (.if_icmp .ge 66, 3) := by decide +kernel
theorem d12_12_28 : decode prog_12_method_12_code 28 = .ok (.aload_n 0, 1) := by decide +kernel
theorem d12_12_29 : decode prog_12_method_12_code 29 = .ok (.getfield 33, 3) := by decide +kernel
theorem d12_12_32 : decode prog_12_method_12_code 32 = .ok (.astore 4, 2) := by decide +kernel
theorem d12_12_34 : decode prog_12_method_12_code 34 = .ok (.aload 4, 2) := by decide +kernel
theorem d12_12_36 : decode prog_12_method_12_code 36 = .ok (.ifnull 55, 3) := by decide +kernel
theorem d12_12_39 : decode prog_12_method_12_code 39 = .ok (.aload 4, 2) := by decide +kernel
theorem d12_12_41 : decode prog_12_method_12_code 41 = .ok (.iload_n 1, 1) := by decide +kernel
theorem d12_12_42 : decode prog_12_method_12_code 42 = .ok (.iconst 1, 1) := by decide +kernel
theorem d12_12_43 : decode prog_12_method_12_code 43 = .ok (.iadd, 1) := by decide +kernel
theorem d12_12_44 : decode prog_12_method_12_code 44 = .ok (.invokestatic 77, 3) := by decide +kernel
theorem k778 : (Jvm.Cond.code ({ cls := "PagedValues$Value", name := "copyOf", desc := "(LPagedValues$Value;I)LPagedValues$Value;" } : Jvm.MethodName) prog_12_method_12_code (6 : Nat) (Option.some (Jvm.ClassFile.FieldType.object "PagedValues$Value"))) ∈ TB := tk_4 58 rfl rfl
def y12_12 : MethodName := { cls := "PagedValues$Value", name := "copyOf", desc := "(LPagedValues$Value;I)LPagedValues$Value;" }
theorem k781 : (Jvm.Cond.methodLink "PagedValues$Value" (77 : Nat) ({ cls := "PagedValues$Value", name := "copyOf", desc := "(LPagedValues$Value;I)LPagedValues$Value;" } : Jvm.MethodName)) ∈ TB := tk_4 61 rfl rfl
theorem k777 : (Jvm.Cond.static ({ cls := "PagedValues$Value", name := "copyOf", desc := "(LPagedValues$Value;I)LPagedValues$Value;" } : Jvm.MethodName)) ∈ TB := tk_4 57 rfl rfl
theorem d12_12_47 : decode prog_12_method_12_code 47 = .ok (.astore 5, 2) := by decide +kernel
theorem d12_12_49 : decode prog_12_method_12_code 49 = .ok (.aload 5, 2) := by decide +kernel
theorem d12_12_51 : decode prog_12_method_12_code 51 = .ok (.aload 4, 2) := by decide +kernel
theorem d12_12_53 : decode prog_12_method_12_code 53 = .ok (.getfield 11, 3) := by decide +kernel
theorem d12_12_56 : decode prog_12_method_12_code 56 = .ok (.putfield 11, 3) := by decide +kernel
theorem d12_12_59 : decode prog_12_method_12_code 59 = .ok (.aload_n 3, 1) := by decide +kernel
theorem d12_12_60 : decode prog_12_method_12_code 60 = .ok (.ifnonnull 12, 3) := by decide +kernel
theorem d12_12_63 : decode prog_12_method_12_code 63 = .ok (.aload_n 2, 1) := by decide +kernel
theorem d12_12_64 : decode prog_12_method_12_code 64 = .ok (.aload 5, 2) := by decide +kernel
theorem d12_12_66 : decode prog_12_method_12_code 66 = .ok (.putfield 33, 3) := by decide +kernel
theorem d12_12_69 : decode prog_12_method_12_code 69 = .ok (.goto 9, 3) := by decide +kernel
theorem d12_12_72 : decode prog_12_method_12_code 72 = .ok (.aload_n 3, 1) := by decide +kernel
theorem d12_12_73 : decode prog_12_method_12_code 73 = .ok (.aload 5, 2) := by decide +kernel
theorem d12_12_75 : decode prog_12_method_12_code 75 = .ok (.putfield 43, 3) := by decide +kernel
theorem d12_12_78 : decode prog_12_method_12_code 78 = .ok (.aload 5, 2) := by decide +kernel
theorem d12_12_80 : decode prog_12_method_12_code 80 = .ok (.astore_n 3, 1) := by decide +kernel
theorem d12_12_81 : decode prog_12_method_12_code 81 = .ok (.aload 4, 2) := by decide +kernel
theorem d12_12_83 : decode prog_12_method_12_code 83 = .ok (.getfield 43, 3) := by decide +kernel
theorem d12_12_86 : decode prog_12_method_12_code 86 = .ok (.astore 4, 2) := by decide +kernel
theorem d12_12_88 : decode prog_12_method_12_code 88 = .ok (.goto (-54), 3) := by decide +kernel
theorem d12_12_91 : decode prog_12_method_12_code 91 = .ok (.aload_n 2, 1) := by decide +kernel
theorem d12_12_92 : decode prog_12_method_12_code 92 = .ok (.areturn, 1) := by decide +kernel
def c_Value_copyOf_l1 (K : KE) (fv : Option Nat → Int32 → CS → Option (Option Nat × CS)) (a1 : Int32) (a11z : Nat) : Nat → (Option Nat × Option Nat × CS) → Option (Option Nat × Option Nat × CS)
  | 0, _ => none
  | n9 + 1, e9 => nl e9.2.1 (some (e9.1, e9.2.1, e9.2.2)) (fun a32z => (some (a1 + (1 : Int32))).bind fun y33 => (fv e9.2.1 y33 e9.2.2).bind fun r36 => (gQ K r36.2 a32z 11 3).bind fun x37 => r36.1.bind fun a38z => (sF r36.2 a38z 11 3 (va_rf x37)).bind fun st39 => (nl e9.1 ((sF st39 a11z 11 4 (va_rf r36.1)).bind fun st44 => some st44) (fun a43z => (sF st39 a43z 11 5 (va_rf r36.1)).bind fun st45 => some st45)).bind fun e40 => (gQ K e40 a32z 11 5).bind fun x42 => c_Value_copyOf_l1 K fv a1 a11z n9 (r36.1, x42, e40))
theorem c_Value_copyOf_l1_s (K : KE) (fv : Option Nat → Int32 → CS → Option (Option Nat × CS)) (a1 : Int32) (a11z : Nat) (n9 : Nat) (e9 : Option Nat × Option Nat × CS) : c_Value_copyOf_l1 K fv a1 a11z (n9 + 1) e9 = (nl e9.2.1 (some (e9.1, e9.2.1, e9.2.2)) (fun a32z => (some (a1 + (1 : Int32))).bind fun y33 => (fv e9.2.1 y33 e9.2.2).bind fun r36 => (gQ K r36.2 a32z 11 3).bind fun x37 => r36.1.bind fun a38z => (sF r36.2 a38z 11 3 (va_rf x37)).bind fun st39 => (nl e9.1 ((sF st39 a11z 11 4 (va_rf r36.1)).bind fun st44 => some st44) (fun a43z => (sF st39 a43z 11 5 (va_rf r36.1)).bind fun st45 => some st45)).bind fun e40 => (gQ K e40 a32z 11 5).bind fun x42 => c_Value_copyOf_l1 K fv a1 a11z n9 (r36.1, x42, e40))) := rfl
def c_Value_copyOf_b (Zd : Nat → Nat) (K : KE) (fv : Option Nat → Int32 → CS → Option (Option Nat × CS)) (a0 : Option Nat) (a1 : Int32) (st : CS) : Option (Option Nat × CS) := (some st.1.1).bind fun a11z => (nOc Zd st 11 6 [.null, .int 0, .null, .null, .null, .null]).bind fun st12 => a0.bind fun a13z => (gQ K st12 a13z 11 0).bind fun x14 => (gI K st12 a13z 11 1).bind fun x15 => (gQ K st12 a13z 11 2).bind fun x16 => (c_Value_init Zd K a11z x14 x15 x16 st12).bind fun st18 => (if (8 : Int32) ≤ a1 then (some (none, st18)) else ((gQ K st18 a13z 11 4).bind fun x24 => (c_Value_copyOf_l1 K fv a1 a11z 4096 (none, x24, st18)).bind fun e25 => some (e25.1, e25.2.2))).bind fun e20 => some (some a11z, e20.2)
set_option maxHeartbeats 4000000 in
set_option maxRecDepth 100000 in
theorem cc_Value_copyOf_b (l : Launch) (G : Gk) (Zd : Nat → Nat) (K : KE) (fv : Option Nat → Int32 → CS → Option (Option Nat × CS)) (Dv : Nat) (hv : ∀ (b0 : Option Nat) (b1 : Int32) (st : CS) (r0 : Option Nat) (st0 : CS), fv b0 b1 st = some (r0, st0) → CT l y12_12 prog_12_method_12_code 6 (some (.object "PagedValues$Value")) G Zd K Dv [va_rf b0, .int b1] st (hQ G Zd r0 st0)) (a0 : Option Nat) (a1 : Int32) (st : CS) (r0 : Option Nat) (st0 : CS) (hm : c_Value_copyOf_b Zd K fv a0 a1 st = some (r0, st0)) : CT l y12_12 prog_12_method_12_code 6 (some (.object "PagedValues$Value")) G Zd K (Dv + 2) [va_rf a0, .int a1] st (hQ G Zd r0 st0) := by
  refine goH (d := Dv + 2) (y := y12_12) (cc := prog_12_method_12_code) (maxL := 6) (ret := (some (.object "PagedValues$Value"))) (av := [va_rf a0, .int a1]) (Qc := hQ G Zd r0 st0) "PagedValues$Value" rfl (by decide) (c1_c (rf_cat _) (c1_c rfl c1_n)) (Nat.le_of_ble_eq_true rfl) ?_
  intro p e s m below meth c ls A args Q hQ hx hb hr hlk hml hown hts hin hl hE hw
  have hl : lw ls 6 [(0, va_rf a0), (1, .int a1)] := hl
  have hZ := hE.2.2.1
  have h := hm
  clear hm
  obtain ⟨a11z, hr, h⟩ := ob h
  obtain ⟨st12, hr2, h⟩ := ob h
  refine xn (ci := 11) (fs := [.null, .int 0, .null, .null, .null, .null]) (C := r_11) (T := f_11) (N := 6) hx hb hts (fun w h => List.mem_cons_of_mem _ (ly_11 w h)) ft_11 ft_11_ok hown (hts _ (List.mem_cons_of_mem _ k779)) (hts _ (List.mem_cons_of_mem _ k342)) (hts _ (List.mem_cons_of_mem _ k18)) hE hw rfl (fun j hj => by rcases (show j = 0 ∨ j = 1 ∨ j = 2 ∨ j = 3 ∨ j = 4 ∨ j = 5 by omega) with rfl | rfl | rfl | rfl | rfl | rfl <;> rfl) hr hr2 d12_12_0 (fun H cells slots hw => ?_)
  clear hr hr2
  refine lv_dup hx hb d12_12_3 rfl ?_
  refine xq_aload_n (r := a0) hx hb d12_12_4 rfl (lv_at hl.1 0 rfl) ?_
  obtain ⟨a13z, hn13, h⟩ := ob h
  have hn13 : a0 = some a13z := hn13
  refine W.eq (g2 := F0 m 5 ls [.ref a13z, .ref a11z, .ref a11z]) (by rw [hn13]; rfl) ?_
  obtain ⟨x14, hr, h⟩ := ob h
  refine xg_q (ci := 11) (C := r_11) (T := f_11) (N := 6) (ref := "PagedValues$Value") hx hb hts (fun w h => List.mem_cons_of_mem _ (ly_11 w h)) hown hE hw rfl 0 (by decide) (hts _ (List.mem_cons_of_mem _ k349)) (fun _ h9 => h9) hr d12_12_5 ?_
  clear hr
  refine xq_aload_n (r := a0) hx hb d12_12_8 rfl (lv_at hl.1 0 rfl) ?_
  refine W.eq (g2 := F0 m 9 ls [.ref a13z, va_rf x14, .ref a11z, .ref a11z]) (by rw [hn13]; rfl) ?_
  obtain ⟨x15, hr, h⟩ := ob h
  refine xg_i (ci := 11) (C := r_11) (T := f_11) (N := 6) (ref := "PagedValues$Value") hx hb hts (fun w h => List.mem_cons_of_mem _ (ly_11 w h)) hown hE hw rfl 1 (by decide) (hts _ (List.mem_cons_of_mem _ k352)) (fun _ h9 => h9) hr d12_12_9 ?_
  clear hr
  refine xq_aload_n (r := a0) hx hb d12_12_12 rfl (lv_at hl.1 0 rfl) ?_
  refine W.eq (g2 := F0 m 13 ls [.ref a13z, .int x15, va_rf x14, .ref a11z, .ref a11z]) (by rw [hn13]; rfl) ?_
  obtain ⟨x16, hr, h⟩ := ob h
  refine xg_q (ci := 11) (C := r_11) (T := f_11) (N := 6) (ref := "PagedValues$Value") hx hb hts (fun w h => List.mem_cons_of_mem _ (ly_11 w h)) hown hE hw rfl 2 (by decide) (hts _ (List.mem_cons_of_mem _ k353)) (fun _ h9 => h9) hr d12_12_13 ?_
  clear hr
  obtain ⟨st18, hc, h⟩ := ob h
  refine hI_v (As := [va_rf x14, .int x15, va_rf x16]) (rest := [.ref a11z]) ⟨hx, hb, hml, hown, hts⟩ (cc_Value_init l G Zd K a11z x14 x15 x16 st12 st18 hc) (kw_I (n := 3) hts k346 k780 k18 k345 rfl (by decide +kernel) ⟨(show 1 + 1 ≤ Dv + 2 by omega), (show 8 + (4 + 11) + 64 * (1) ≤ 64 * (Dv + 2) by omega)⟩) hE hw rfl hl.1.1 rfl (c1_8 (c1_c rfl c1_n) (Nat.le_of_ble_eq_true rfl)) d12_12_16 (fun H locs cells slots hw => ?_)
  clear hc
  refine W.eq (g2 := F0 m 19 ls [.ref a11z]) rfl ?_
  refine xt_astore_n (r := some a11z) (lv' := [(2, .ref a11z), (0, va_rf a0), (1, .int a1)]) hx hb d12_12_19 rfl hl (by decide) rfl (fun ls hl => ?_)
  refine lv_null hx hb d12_12_20 ?_
  refine xt_astore_n (r := none) (lv' := [(3, .null), (2, .ref a11z), (0, va_rf a0), (1, .int a1)]) hx hb d12_12_21 rfl hl (by decide) rfl (fun ls hl => ?_)
  refine lv_iload_n hx hb d12_12_22 rfl (lv_at hl.1 3 rfl) ?_
  refine lv_bipush (v := 8) hx hb d12_12_23 (by decide) ?_
  obtain ⟨e20, hX, h⟩ := ob h
  obtain ⟨v21, v22⟩ := e20
  have hj : ∀ (H : Heap) (locs : List Loc) (cells slots : Nat) (ls : Array Slot), lw ls 6 [(0, va_rf a0), (1, .int a1), (2, .ref a11z), (3, va_rf v21)] → wsH G Zd A s v22 H locs → W p l e (rmH Zd (Dv + 2) st.1) s m args below meth c H locs cells slots Q (F0 m 91 ls []) := by
    intro H locs cells slots ls hl hw
    refine lv_aload_n hx hb d12_12_91 rfl (lv_at hl.1 2 rfl) ?_
    cases h
    exact finH_q hQ hx hb hr hlk rfl (Or.inl ⟨_, rfl⟩) hE hw d12_12_92
  clear h
  refine lv_icmp_ge (tgt := 91) hx hb d12_12_25 rfl (fun c23 => ?_) (fun c23 => ?_)
  ·
    replace h := (if_pos c23).symm.trans hX
    have e9_0 := Option.some.inj h
    obtain ⟨q9, e9_1⟩ := Prod.mk.inj e9_0
    clear e9_0
    subst v21
    subst v22
    have hl := lw_sub hl (l' := [(0, va_rf a0), (1, .int a1), (2, .ref a11z), (3, .null)]) [2, 3, 1, 0] rfl
    exact hj _ _ _ _ _ hl hw
  ·
    replace h := (if_neg c23).symm.trans hX
    refine xq_aload_n (r := a0) hx hb d12_12_28 rfl (lv_at hl.1 2 rfl) ?_
    refine W.eq (g2 := F0 m 29 ls [.ref a13z]) (by rw [hn13]; rfl) ?_
    obtain ⟨x24, hr, h⟩ := ob h
    refine xg_q (ci := 11) (C := r_11) (T := f_11) (N := 6) (ref := "PagedValues$Value") hx hb hts (fun w h => List.mem_cons_of_mem _ (ly_11 w h)) hown hE hw rfl 4 (by decide) (hts _ (List.mem_cons_of_mem _ k358)) (fun _ h9 => h9) hr d12_12_29 ?_
    clear hr
    refine xt_astore (r := x24) (lv' := [(4, va_rf x24), (3, .null), (2, .ref a11z), (0, va_rf a0), (1, .int a1)]) hx hb d12_12_32 hl (by decide) rfl (fun ls hl => ?_)
    obtain ⟨e25, hX, hrest⟩ := ob h
    clear h
    have hj : ∀ (v29 : Option Nat) (v30 : Option Nat) (v31 : CS), e25 = (v29, v30, v31) → ∀ (H : Heap) (locs : List Loc) (cells slots : Nat) (ls : Array Slot), lw ls 6 [(0, va_rf a0), (1, .int a1), (2, .ref a11z), (3, va_rf v29), (4, va_rf v30)] → wsH G Zd A s v31 H locs → W p l e (rmH Zd (Dv + 2) st.1) s m args below meth c H locs cells slots Q (F0 m 91 ls []) := by
      intro v29 v30 v31 he H locs cells slots ls hl hw
      subst e25
      have h := hrest
      clear hrest
      have e9_0 := Option.some.inj h
      obtain ⟨q9, e9_1⟩ := Prod.mk.inj e9_0
      clear e9_0
      subst v21
      subst v22
      have hl := lw_sub hl (l' := [(0, va_rf a0), (1, .int a1), (2, .ref a11z), (3, va_rf v29)]) [0, 1, 2, 3] rfl
      exact hj _ _ _ _ _ hl hw
    have hloop : ∀ (n9 : Nat) (v26 : Option Nat) (v27 : Option Nat) (v28 : CS), c_Value_copyOf_l1 K fv a1 a11z n9 (v26, v27, v28) = some e25 → ∀ (H : Heap) (locs : List Loc) (cells slots : Nat) (ls : Array Slot), lw ls 6 [(0, va_rf a0), (1, .int a1), (2, .ref a11z), (3, va_rf v26), (4, va_rf v27)] → wsH G Zd A s v28 H locs → W p l e (rmH Zd (Dv + 2) st.1) s m args below meth c H locs cells slots Q (F0 m 34 ls []) := by
      intro n9
      induction n9 with
      | zero =>
        intro v26 v27 v28 h
        cases h
      | succ n9 ih =>
        intro v26 v27 v28 h H locs cells slots ls hl hw
        replace h := (c_Value_copyOf_l1_s K fv a1 a11z n9 (v26, v27, v28)).symm.trans h
        refine xq_aload (r := v27) hx hb d12_12_34 (lv_at hl.1 4 rfl) ?_
        rcases nl_case h with ⟨hn32, h⟩ | ⟨a32z, hn32, h⟩
        ·
          have hn32 : v27 = none := hn32
          refine W.eq (g2 := F0 m 36 ls [.null]) (by rw [hn32]; rfl) ?_
          refine lv_ifnullN (tgt := 91) hx hb d12_12_36 rfl ?_
          have e9 := Option.some.inj h
          subst e25
          have hl := lw_sub hl (l' := [(0, va_rf a0), (1, .int a1), (2, .ref a11z), (3, va_rf v26), (4, va_rf v27)]) [0, 1, 2, 3, 4] rfl
          exact hj _ _ _ rfl _ _ _ _ _ hl hw
        ·
          have hn32 : v27 = some a32z := hn32
          refine W.eq (g2 := F0 m 36 ls [.ref a32z]) (by rw [hn32]; rfl) ?_
          refine lv_ifnull hx hb d12_12_36 ?_
          refine xq_aload (r := v27) hx hb d12_12_39 (lv_at hl.1 4 rfl) ?_
          refine lv_iload_n hx hb d12_12_41 rfl (lv_at hl.1 1 rfl) ?_
          refine lv_iconst (v := 1) hx hb d12_12_42 (by decide) ?_
          refine lv_iadd hx hb d12_12_43 ?_
          obtain ⟨y33, hr, h⟩ := ob h
          refine lv_topi (fun y9 ey => ?_)
          have e9 := ey.trans (Option.some.inj hr)
          clear ey
          subst y9
          clear hr
          obtain ⟨⟨x34, st35⟩, hc, h⟩ := ob h
          refine hS_q (As := [va_rf v27, .int y33]) (rest := []) ⟨hx, hb, hml, hown, hts⟩ (hv v27 y33 v28 x34 st35 hc) (kw_S (n := 2) hts k778 k781 k18 k777 (by decide +kernel) ⟨(show Dv + 1 ≤ Dv + 2 by omega), (show 8 + (6 + 11) + 64 * (Dv) ≤ 64 * (Dv + 2) by omega)⟩) hE hw rfl hl.1.1 rfl (c1_8 c1_n (Nat.le_of_ble_eq_true rfl)) d12_12_44 (fun H locs cells slots hw => ?_)
          clear hc
          refine W.eq (g2 := F0 m 47 ls [va_rf x34]) rfl ?_
          refine xt_astore (r := x34) (lv' := [(5, va_rf x34), (0, va_rf a0), (1, .int a1), (2, .ref a11z), (3, va_rf v26), (4, va_rf v27)]) hx hb d12_12_47 hl (by decide) rfl (fun ls hl => ?_)
          refine xq_aload (r := x34) hx hb d12_12_49 (lv_at hl.1 0 rfl) ?_
          refine xq_aload (r := v27) hx hb d12_12_51 (lv_at hl.1 5 rfl) ?_
          refine W.eq (g2 := F0 m 53 ls [.ref a32z, va_rf x34]) (by rw [hn32]; rfl) ?_
          obtain ⟨x37, hr, h⟩ := ob h
          refine xg_q (ci := 11) (C := r_11) (T := f_11) (N := 6) (ref := "PagedValues$Value") hx hb hts (fun w h => List.mem_cons_of_mem _ (ly_11 w h)) hown hE hw rfl 3 (by decide) (hts _ (List.mem_cons_of_mem _ k355)) (fun _ h9 => h9) hr d12_12_53 ?_
          clear hr
          obtain ⟨a38z, hn38, h⟩ := ob h
          have hn38 : x34 = some a38z := hn38
          refine W.eq (g2 := F0 m 56 ls [va_rf x37, .ref a38z]) (by rw [hn38]; rfl) ?_
          obtain ⟨st39, hr, h⟩ := ob h
          refine xp (ci := 11) (ty := (ft_11 3)) (C := r_11) (T := f_11) (N := 6) (ref := "PagedValues$Value") hx hb hts (fun w h => List.mem_cons_of_mem _ (ly_11 w h)) ft_11 ft_11_ok nm_11 hown hE hw rfl 3 (by decide) (hts _ (List.mem_cons_of_mem _ k355)) (fun _ h9 => h9) rfl hr (by decide +kernel) (rf_narO _) (rf_fitO _) d12_12_56 (fun H locs hw => ?_)
          clear hr
          refine xq_aload_n (r := v26) hx hb d12_12_59 rfl (lv_at hl.1 4 rfl) ?_
          obtain ⟨e40, hX, h⟩ := ob h
          have hj : ∀ (H : Heap) (locs : List Loc) (cells slots : Nat) (ls : Array Slot), lw ls 6 [(0, va_rf a0), (1, .int a1), (2, .ref a11z), (3, va_rf v26), (4, va_rf v27), (5, va_rf x34)] → wsH G Zd A s e40 H locs → W p l e (rmH Zd (Dv + 2) st.1) s m args below meth c H locs cells slots Q (F0 m 78 ls []) := by
            intro H locs cells slots ls hl hw
            refine xq_aload (r := x34) hx hb d12_12_78 (lv_at hl.1 5 rfl) ?_
            refine xt_astore_n (r := x34) (lv' := [(3, va_rf x34), (0, va_rf a0), (1, .int a1), (2, .ref a11z), (4, va_rf v27), (5, va_rf x34)]) hx hb d12_12_80 rfl hl (by decide) rfl (fun ls hl => ?_)
            refine xq_aload (r := v27) hx hb d12_12_81 (lv_at hl.1 4 rfl) ?_
            refine W.eq (g2 := F0 m 83 ls [.ref a32z]) (by rw [hn32]; rfl) ?_
            obtain ⟨x42, hr, h⟩ := ob h
            refine xg_q (ci := 11) (C := r_11) (T := f_11) (N := 6) (ref := "PagedValues$Value") hx hb hts (fun w h => List.mem_cons_of_mem _ (ly_11 w h)) hown hE hw rfl 5 (by decide) (hts _ (List.mem_cons_of_mem _ k361)) (fun _ h9 => h9) hr d12_12_83 ?_
            clear hr
            refine xt_astore (r := x42) (lv' := [(4, va_rf x42), (3, va_rf x34), (0, va_rf a0), (1, .int a1), (2, .ref a11z), (5, va_rf x34)]) hx hb d12_12_86 hl (by decide) rfl (fun ls hl => ?_)
            refine lv_goto (tgt := 34) hx hb d12_12_88 rfl ?_
            have hl := lw_sub hl (l' := [(0, va_rf a0), (1, .int a1), (2, .ref a11z), (3, va_rf x34), (4, va_rf x42)]) [2, 3, 4, 1, 0] rfl
            exact ih _ _ _ h _ _ _ _ _ hl hw
          clear h
          rcases nl_case hX with ⟨hn43, h⟩ | ⟨a43z, hn43, h⟩
          ·
            have hn43 : v26 = none := hn43
            refine W.eq (g2 := F0 m 60 ls [.null]) (by rw [hn43]; rfl) ?_
            refine lv_ifnonnullN hx hb d12_12_60 ?_
            refine lv_aload_n hx hb d12_12_63 rfl (lv_at hl.1 3 rfl) ?_
            refine xq_aload (r := x34) hx hb d12_12_64 (lv_at hl.1 0 rfl) ?_
            obtain ⟨st44, hr, h⟩ := ob h
            refine xp (ci := 11) (ty := (ft_11 4)) (C := r_11) (T := f_11) (N := 6) (ref := "PagedValues$Value") hx hb hts (fun w h => List.mem_cons_of_mem _ (ly_11 w h)) ft_11 ft_11_ok nm_11 hown hE hw rfl 4 (by decide) (hts _ (List.mem_cons_of_mem _ k358)) (fun _ h9 => h9) rfl hr (by decide +kernel) (rf_narO _) (rf_fitO _) d12_12_66 (fun H locs hw => ?_)
            clear hr
            refine lv_goto (tgt := 78) hx hb d12_12_69 rfl ?_
            have e9 := Option.some.inj h
            subst e40
            have hl := lw_sub hl (l' := [(0, va_rf a0), (1, .int a1), (2, .ref a11z), (3, va_rf v26), (4, va_rf v27), (5, va_rf x34)]) [1, 2, 3, 4, 5, 0] rfl
            exact hj _ _ _ _ _ hl hw
          ·
            have hn43 : v26 = some a43z := hn43
            refine W.eq (g2 := F0 m 60 ls [.ref a43z]) (by rw [hn43]; rfl) ?_
            refine lv_ifnonnull (tgt := 72) hx hb d12_12_60 rfl ?_
            refine xq_aload_n (r := v26) hx hb d12_12_72 rfl (lv_at hl.1 4 rfl) ?_
            refine xq_aload (r := x34) hx hb d12_12_73 (lv_at hl.1 0 rfl) ?_
            refine W.eq (g2 := F0 m 75 ls [va_rf x34, .ref a43z]) (by rw [hn43]; rfl) ?_
            obtain ⟨st45, hr, h⟩ := ob h
            refine xp (ci := 11) (ty := (ft_11 5)) (C := r_11) (T := f_11) (N := 6) (ref := "PagedValues$Value") hx hb hts (fun w h => List.mem_cons_of_mem _ (ly_11 w h)) ft_11 ft_11_ok nm_11 hown hE hw rfl 5 (by decide) (hts _ (List.mem_cons_of_mem _ k361)) (fun _ h9 => h9) rfl hr (by decide +kernel) (rf_narO _) (rf_fitO _) d12_12_75 (fun H locs hw => ?_)
            clear hr
            have e9 := Option.some.inj h
            subst e40
            have hl := lw_sub hl (l' := [(0, va_rf a0), (1, .int a1), (2, .ref a11z), (3, va_rf v26), (4, va_rf v27), (5, va_rf x34)]) [1, 2, 3, 4, 5, 0] rfl
            exact hj _ _ _ _ _ hl hw
    have hl := lw_sub hl (l' := [(0, va_rf a0), (1, .int a1), (2, .ref a11z), (3, .null), (4, va_rf x24)]) [3, 4, 2, 1, 0] rfl
    exact hloop _ _ _ _ hX _ _ _ _ _ hl hw
def c_Value_copyOf (Zd : Nat → Nat) (K : KE) : Nat → Option Nat → Int32 → CS → Option (Option Nat × CS)
  | 0 => fun _ _ _ => none
  | d9 + 1 => c_Value_copyOf_b Zd K (c_Value_copyOf Zd K d9)
theorem cc_Value_copyOf (l : Launch) (G : Gk) (Zd : Nat → Nat) (K : KE) : ∀ (d9 : Nat) (a0 : Option Nat) (a1 : Int32) (st : CS) (r0 : Option Nat) (st0 : CS) , c_Value_copyOf Zd K d9 a0 a1 st = some (r0, st0) → CT l y12_12 prog_12_method_12_code 6 (some (.object "PagedValues$Value")) G Zd K (2 * d9) [va_rf a0, .int a1] st (hQ G Zd r0 st0) := by
  intro d9
  induction d9 with
  | zero =>
    intro  a0 a1 st r0 st0 hm
    have h9 : (none : Option (Option Nat × CS)) = some (r0, st0) := hm
    cases h9
  | succ d9 ih =>
    intro  a0 a1 st r0 st0 hm
    rw [Nat.mul_succ]
    exact cc_Value_copyOf_b l G Zd K (c_Value_copyOf Zd K d9) (2 * d9) ih a0 a1 st r0 st0 hm
theorem d12_13_0 : decode prog_12_method_13_code 0 = .ok (.getstatic 81, 3) := by decide +kernel
theorem k1003 : (Jvm.Cond.fieldLink "PagedValues$Value" (81 : Nat) "PagedValues$1" "$SwitchMap$PagedValues$Kind" "[I") ∈ TB := tk_5 43 rfl rfl
theorem d12_13_3 : decode prog_12_method_13_code 3 = .ok (.aload_n 0, 1) := by decide +kernel
theorem d12_13_4 : decode prog_12_method_13_code 4 = .ok (.getfield 17, 3) := by decide +kernel
theorem d12_13_7 : decode prog_12_method_13_code 7 = .ok (.invokevirtual 87, 3) := by decide +kernel
theorem k1005 : (Jvm.Cond.methodLink "PagedValues$Value" (87 : Nat) ({ cls := "PagedValues$Kind", name := "ordinal", desc := "()I" } : Jvm.MethodName)) ∈ TB := tk_5 45 rfl rfl
def y18_2 : MethodName := { cls := "java/lang/Enum", name := "ordinal", desc := "()I" }
theorem d18_2_0 : decode prog_18_method_2_code 0 = .ok (.aload_n 0, 1) := by decide +kernel
theorem d18_2_1 : decode prog_18_method_2_code 1 = .ok (.getfield 7, 3) := by decide +kernel
theorem d18_2_4 : decode prog_18_method_2_code 4 = .ok (.ireturn, 1) := by decide +kernel
theorem k1666 : (Jvm.Cond.fieldLink "java/lang/Enum" (7 : Nat) "java/lang/Enum" "ordinal" "I") ∈ TB := tk_7 226 rfl rfl
theorem k1010 : (Jvm.Cond.code ({ cls := "java/lang/Enum", name := "ordinal", desc := "()I" } : Jvm.MethodName) prog_18_method_2_code (1 : Nat) (Option.some Jvm.ClassFile.FieldType.int)) ∈ TB := tk_5 50 rfl rfl
theorem k16 : (Jvm.Cond.initialized "java/lang/Enum") ∈ TB := tk_1 16 rfl rfl
theorem k1009 : (Jvm.Cond.instanceMethod ({ cls := "java/lang/Enum", name := "ordinal", desc := "()I" } : Jvm.MethodName)) ∈ TB := tk_5 49 rfl rfl
theorem k1006 : (Jvm.Cond.sameMethod "PagedValues$Kind" "java/lang/Enum" "ordinal" "()I") ∈ TB := tk_5 46 rfl rfl
theorem k1008 : (Jvm.Cond.selects "PagedValues$Kind" ({ cls := "PagedValues$Kind", name := "ordinal", desc := "()I" } : Jvm.MethodName) ({ cls := "java/lang/Enum", name := "ordinal", desc := "()I" } : Jvm.MethodName)) ∈ TB := tk_5 48 rfl rfl
theorem d12_13_10 : decode prog_12_method_13_code 10 = .ok (.iaload, 1) := by decide +kernel
theorem d12_13_11 : decode prog_12_method_13_code 11 = .ok (.tableswitch 113 1 6 #[37, 47, 57, 67, 79, 90], 37) := by decide +kernel
theorem d12_13_48 : decode prog_12_method_13_code 48 = .ok (.aload_n 1, 1) := by decide +kernel
theorem d12_13_49 : decode prog_12_method_13_code 49 = .ok (.ldc 90, 2) := by decide +kernel
theorem d12_13_51 : decode prog_12_method_13_code 51 = .ok (.invokevirtual 92, 3) := by decide +kernel
theorem k1015 : (Jvm.Cond.code ({ cls := "java/lang/StringBuilder", name := "append", desc := "(Ljava/lang/String;)Ljava/lang/StringBuilder;" } : Jvm.MethodName) prog_22_method_7_code (2 : Nat) (Option.some (Jvm.ClassFile.FieldType.object "java/lang/StringBuilder"))) ∈ TB := tk_5 55 rfl rfl
theorem k1012 : (Jvm.Cond.methodLink "PagedValues$Value" (92 : Nat) ({ cls := "java/lang/StringBuilder", name := "append", desc := "(Ljava/lang/String;)Ljava/lang/StringBuilder;" } : Jvm.MethodName)) ∈ TB := tk_5 52 rfl rfl
theorem k1013 : (Jvm.Cond.instanceMethod ({ cls := "java/lang/StringBuilder", name := "append", desc := "(Ljava/lang/String;)Ljava/lang/StringBuilder;" } : Jvm.MethodName)) ∈ TB := tk_5 53 rfl rfl
theorem k1014 : (Jvm.Cond.selects "java/lang/StringBuilder" ({ cls := "java/lang/StringBuilder", name := "append", desc := "(Ljava/lang/String;)Ljava/lang/StringBuilder;" } : Jvm.MethodName) ({ cls := "java/lang/StringBuilder", name := "append", desc := "(Ljava/lang/String;)Ljava/lang/StringBuilder;" } : Jvm.MethodName)) ∈ TB := tk_5 54 rfl rfl
theorem d12_13_54 : decode prog_12_method_13_code 54 = .ok (.pop, 1) := by decide +kernel
theorem d12_13_55 : decode prog_12_method_13_code 55 = .ok (.goto 89, 3) := by decide +kernel
theorem d12_13_58 : decode prog_12_method_13_code 58 = .ok (.aload_n 1, 1) := by decide +kernel
theorem d12_13_59 : decode prog_12_method_13_code 59 = .ok (.ldc 98, 2) := by decide +kernel
theorem d12_13_61 : decode prog_12_method_13_code 61 = .ok (.invokevirtual 92, 3) := by decide +kernel
theorem d12_13_64 : decode prog_12_method_13_code 64 = .ok (.pop, 1) := by decide +kernel
theorem d12_13_65 : decode prog_12_method_13_code 65 = .ok (.goto 79, 3) := by decide +kernel
theorem d12_13_68 : decode prog_12_method_13_code 68 = .ok (.aload_n 1, 1) := by decide +kernel
theorem d12_13_69 : decode prog_12_method_13_code 69 = .ok (.ldc 100, 2) := by decide +kernel
theorem d12_13_71 : decode prog_12_method_13_code 71 = .ok (.invokevirtual 92, 3) := by decide +kernel
theorem d12_13_74 : decode prog_12_method_13_code 74 = .ok (.pop, 1) := by decide +kernel
theorem d12_13_75 : decode prog_12_method_13_code 75 = .ok (.goto 69, 3) := by decide +kernel
theorem d12_13_78 : decode prog_12_method_13_code 78 = .ok (.aload_n 1, 1) := by decide +kernel
theorem d12_13_79 : decode prog_12_method_13_code 79 = .ok (.aload_n 0, 1) := by decide +kernel
theorem d12_13_80 : decode prog_12_method_13_code 80 = .ok (.getfield 21, 3) := by decide +kernel
theorem d12_13_83 : decode prog_12_method_13_code 83 = .ok (.invokevirtual 102, 3) := by decide +kernel
theorem k1056 : (Jvm.Cond.code ({ cls := "java/lang/StringBuilder", name := "append", desc := "(I)Ljava/lang/StringBuilder;" } : Jvm.MethodName) prog_22_method_15_code (2 : Nat) (Option.some (Jvm.ClassFile.FieldType.object "java/lang/StringBuilder"))) ∈ TB := tk_5 96 rfl rfl
theorem k1053 : (Jvm.Cond.methodLink "PagedValues$Value" (102 : Nat) ({ cls := "java/lang/StringBuilder", name := "append", desc := "(I)Ljava/lang/StringBuilder;" } : Jvm.MethodName)) ∈ TB := tk_5 93 rfl rfl
theorem k1054 : (Jvm.Cond.instanceMethod ({ cls := "java/lang/StringBuilder", name := "append", desc := "(I)Ljava/lang/StringBuilder;" } : Jvm.MethodName)) ∈ TB := tk_5 94 rfl rfl
theorem k1055 : (Jvm.Cond.selects "java/lang/StringBuilder" ({ cls := "java/lang/StringBuilder", name := "append", desc := "(I)Ljava/lang/StringBuilder;" } : Jvm.MethodName) ({ cls := "java/lang/StringBuilder", name := "append", desc := "(I)Ljava/lang/StringBuilder;" } : Jvm.MethodName)) ∈ TB := tk_5 95 rfl rfl
theorem d12_13_86 : decode prog_12_method_13_code 86 = .ok (.pop, 1) := by decide +kernel
theorem d12_13_87 : decode prog_12_method_13_code 87 = .ok (.goto 57, 3) := by decide +kernel
theorem d12_13_90 : decode prog_12_method_13_code 90 = .ok (.aload_n 0, 1) := by decide +kernel
theorem d12_13_91 : decode prog_12_method_13_code 91 = .ok (.getfield 25, 3) := by decide +kernel
theorem d12_13_94 : decode prog_12_method_13_code 94 = .ok (.aload_n 1, 1) := by decide +kernel
theorem d12_13_95 : decode prog_12_method_13_code 95 = .ok (.invokestatic 105, 3) := by decide +kernel
theorem d12_15_0 : decode prog_12_method_15_code 0 = .ok (.aload_n 1, 1) := by decide +kernel
theorem d12_15_1 : decode prog_12_method_15_code 1 = .ok (.bipush 34, 2) := by decide +kernel
theorem d12_15_3 : decode prog_12_method_15_code 3 = .ok (.invokevirtual 109, 3) := by decide +kernel
theorem k1081 : (Jvm.Cond.methodLink "PagedValues$Value" (109 : Nat) ({ cls := "java/lang/StringBuilder", name := "append", desc := "(C)Ljava/lang/StringBuilder;" } : Jvm.MethodName)) ∈ TB := tk_5 121 rfl rfl
theorem d12_15_6 : decode prog_12_method_15_code 6 = .ok (.pop, 1) := by decide +kernel
theorem d12_15_7 : decode prog_12_method_15_code 7 = .ok (.iconst 0, 1) := by decide +kernel
theorem d12_15_8 : decode prog_12_method_15_code 8 = .ok (.istore_n 2, 1) := by decide +kernel
theorem d12_15_54 : decode prog_12_method_15_code 54 = .ok (.aload_n 1, 1) := by decide +kernel
theorem d12_15_55 : decode prog_12_method_15_code 55 = .ok (.bipush 34, 2) := by decide +kernel
theorem d12_15_57 : decode prog_12_method_15_code 57 = .ok (.invokevirtual 109, 3) := by decide +kernel
theorem d12_15_60 : decode prog_12_method_15_code 60 = .ok (.pop, 1) := by decide +kernel
theorem d12_15_61 : decode prog_12_method_15_code 61 = .ok (.return_, 1) := by decide +kernel
theorem d12_15_9 : decode prog_12_method_15_code 9 = .ok (.iload_n 2, 1) := by decide +kernel
theorem d12_15_10 : decode prog_12_method_15_code 10 = .ok (.aload_n 0, 1) := by decide +kernel
theorem d12_15_11 : decode prog_12_method_15_code 11 = .ok (.invokevirtual 119, 3) := by decide +kernel
theorem k1082 : (Jvm.Cond.methodLink "PagedValues$Value" (119 : Nat) ({ cls := "java/lang/String", name := "length", desc := "()I" } : Jvm.MethodName)) ∈ TB := tk_5 122 rfl rfl
theorem d12_15_14 : decode prog_12_method_15_code 14 = .ok (.if_icmp .ge 40, 3) := by decide +kernel
theorem d12_15_17 : decode prog_12_method_15_code 17 = .ok (.aload_n 0, 1) := by decide +kernel
theorem d12_15_18 : decode prog_12_method_15_code 18 = .ok (.iload_n 2, 1) := by decide +kernel
theorem d12_15_19 : decode prog_12_method_15_code 19 = .ok (.invokevirtual 122, 3) := by decide +kernel
theorem k636 : (Jvm.Cond.code ({ cls := "java/lang/String", name := "charAt", desc := "(I)C" } : Jvm.MethodName) prog_21_method_56_code (2 : Nat) (Option.some Jvm.ClassFile.FieldType.char)) ∈ TB := tk_3 156 rfl rfl
theorem k1083 : (Jvm.Cond.methodLink "PagedValues$Value" (122 : Nat) ({ cls := "java/lang/String", name := "charAt", desc := "(I)C" } : Jvm.MethodName)) ∈ TB := tk_5 123 rfl rfl
theorem k634 : (Jvm.Cond.instanceMethod ({ cls := "java/lang/String", name := "charAt", desc := "(I)C" } : Jvm.MethodName)) ∈ TB := tk_3 154 rfl rfl
theorem k635 : (Jvm.Cond.selects "java/lang/String" ({ cls := "java/lang/String", name := "charAt", desc := "(I)C" } : Jvm.MethodName) ({ cls := "java/lang/String", name := "charAt", desc := "(I)C" } : Jvm.MethodName)) ∈ TB := tk_3 155 rfl rfl
theorem d12_15_22 : decode prog_12_method_15_code 22 = .ok (.istore_n 3, 1) := by decide +kernel
theorem d12_15_23 : decode prog_12_method_15_code 23 = .ok (.iload_n 3, 1) := by decide +kernel
theorem d12_15_24 : decode prog_12_method_15_code 24 = .ok (.bipush 34, 2) := by decide +kernel
theorem d12_15_26 : decode prog_12_method_15_code 26 = .ok (.if_icmp .eq 9, 3) := by decide +kernel
theorem d12_15_35 : decode prog_12_method_15_code 35 = .ok (.aload_n 1, 1) := by decide +kernel
theorem d12_15_36 : decode prog_12_method_15_code 36 = .ok (.bipush 92, 2) := by decide +kernel
theorem d12_15_38 : decode prog_12_method_15_code 38 = .ok (.invokevirtual 109, 3) := by decide +kernel
theorem d12_15_41 : decode prog_12_method_15_code 41 = .ok (.pop, 1) := by decide +kernel
theorem d12_15_29 : decode prog_12_method_15_code 29 = .ok (.iload_n 3, 1) := by decide +kernel
theorem d12_15_30 : decode prog_12_method_15_code 30 = .ok (.bipush 92, 2) := by decide +kernel
theorem d12_15_32 : decode prog_12_method_15_code 32 = .ok (.if_icmp .ne 10, 3) := by decide +kernel
theorem d12_15_42 : decode prog_12_method_15_code 42 = .ok (.aload_n 1, 1) := by decide +kernel
theorem d12_15_43 : decode prog_12_method_15_code 43 = .ok (.iload_n 3, 1) := by decide +kernel
theorem d12_15_44 : decode prog_12_method_15_code 44 = .ok (.invokevirtual 109, 3) := by decide +kernel
theorem d12_15_47 : decode prog_12_method_15_code 47 = .ok (.pop, 1) := by decide +kernel
theorem d12_15_48 : decode prog_12_method_15_code 48 = .ok (.iinc 2 1, 3) := by decide +kernel
theorem d12_15_51 : decode prog_12_method_15_code 51 = .ok (.goto (-42), 3) := by decide +kernel
def y12_15 : MethodName := { cls := "PagedValues$Value", name := "writeString", desc := "(Ljava/lang/String;Ljava/lang/StringBuilder;)V" }
theorem k1080 : (Jvm.Cond.code ({ cls := "PagedValues$Value", name := "writeString", desc := "(Ljava/lang/String;Ljava/lang/StringBuilder;)V" } : Jvm.MethodName) prog_12_method_15_code (4 : Nat) (Option.none : Option Jvm.ClassFile.FieldType)) ∈ TB := tk_5 120 rfl rfl
theorem k1078 : (Jvm.Cond.methodLink "PagedValues$Value" (105 : Nat) ({ cls := "PagedValues$Value", name := "writeString", desc := "(Ljava/lang/String;Ljava/lang/StringBuilder;)V" } : Jvm.MethodName)) ∈ TB := tk_5 118 rfl rfl
theorem k1079 : (Jvm.Cond.static ({ cls := "PagedValues$Value", name := "writeString", desc := "(Ljava/lang/String;Ljava/lang/StringBuilder;)V" } : Jvm.MethodName)) ∈ TB := tk_5 119 rfl rfl
theorem d12_13_98 : decode prog_12_method_13_code 98 = .ok (.goto 46, 3) := by decide +kernel
theorem d12_13_101 : decode prog_12_method_13_code 101 = .ok (.aload_n 1, 1) := by decide +kernel
theorem d12_13_102 : decode prog_12_method_13_code 102 = .ok (.bipush 91, 2) := by decide +kernel
theorem d12_13_104 : decode prog_12_method_13_code 104 = .ok (.invokevirtual 109, 3) := by decide +kernel
theorem d12_13_107 : decode prog_12_method_13_code 107 = .ok (.pop, 1) := by decide +kernel
theorem d12_13_108 : decode prog_12_method_13_code 108 = .ok (.aload_n 0, 1) := by decide +kernel
theorem d12_13_109 : decode prog_12_method_13_code 109 = .ok (.aload_n 1, 1) := by decide +kernel
theorem d12_13_110 : decode prog_12_method_13_code 110 = .ok (.iload_n 2, 1) := by decide +kernel
theorem d12_13_111 : decode prog_12_method_13_code 111 = .ok (.invokestatic 112, 3) := by decide +kernel
theorem d12_14_0 : decode prog_12_method_14_code 0 = .ok (.iload_n 2, 1) := by decide +kernel
theorem d12_14_1 : decode prog_12_method_14_code 1 = .ok (.bipush 8, 2) := by decide +kernel
theorem d12_14_3 : decode prog_12_method_14_code 3 = .ok (.if_icmp .lt 4, 3) := by decide +kernel
theorem d12_14_7 : decode prog_12_method_14_code 7 = .ok (.aload_n 0, 1) := by decide +kernel
theorem d12_14_8 : decode prog_12_method_14_code 8 = .ok (.getfield 33, 3) := by decide +kernel
theorem d12_14_11 : decode prog_12_method_14_code 11 = .ok (.astore_n 3, 1) := by decide +kernel
theorem d12_14_72 : decode prog_12_method_14_code 72 = .ok (.return_, 1) := by decide +kernel
theorem d12_14_12 : decode prog_12_method_14_code 12 = .ok (.aload_n 3, 1) := by decide +kernel
theorem d12_14_13 : decode prog_12_method_14_code 13 = .ok (.ifnull 59, 3) := by decide +kernel
theorem d12_14_16 : decode prog_12_method_14_code 16 = .ok (.aload_n 3, 1) := by decide +kernel
theorem d12_14_17 : decode prog_12_method_14_code 17 = .ok (.aload_n 0, 1) := by decide +kernel
theorem d12_14_18 : decode prog_12_method_14_code 18 = .ok (.getfield 33, 3) := by decide +kernel
theorem d12_14_21 : decode prog_12_method_14_code 21 = .ok (.if_acmp .eq 10, 3) := by decide +kernel
theorem d12_14_24 : decode prog_12_method_14_code 24 = .ok (.aload_n 1, 1) := by decide +kernel
theorem d12_14_25 : decode prog_12_method_14_code 25 = .ok (.bipush 44, 2) := by decide +kernel
theorem d12_14_27 : decode prog_12_method_14_code 27 = .ok (.invokevirtual 109, 3) := by decide +kernel
theorem d12_14_30 : decode prog_12_method_14_code 30 = .ok (.pop, 1) := by decide +kernel
theorem d12_14_31 : decode prog_12_method_14_code 31 = .ok (.aload_n 0, 1) := by decide +kernel
theorem d12_14_32 : decode prog_12_method_14_code 32 = .ok (.getfield 17, 3) := by decide +kernel
theorem d12_14_35 : decode prog_12_method_14_code 35 = .ok (.getstatic 28, 3) := by decide +kernel
theorem d12_14_38 : decode prog_12_method_14_code 38 = .ok (.if_acmp .ne 18, 3) := by decide +kernel
theorem d12_14_41 : decode prog_12_method_14_code 41 = .ok (.aload_n 3, 1) := by decide +kernel
theorem d12_14_42 : decode prog_12_method_14_code 42 = .ok (.getfield 11, 3) := by decide +kernel
theorem d12_14_45 : decode prog_12_method_14_code 45 = .ok (.aload_n 1, 1) := by decide +kernel
theorem d12_14_46 : decode prog_12_method_14_code 46 = .ok (.invokestatic 105, 3) := by decide +kernel
theorem d12_14_49 : decode prog_12_method_14_code 49 = .ok (.aload_n 1, 1) := by decide +kernel
theorem d12_14_50 : decode prog_12_method_14_code 50 = .ok (.bipush 58, 2) := by decide +kernel
theorem d12_14_52 : decode prog_12_method_14_code 52 = .ok (.invokevirtual 109, 3) := by decide +kernel
theorem d12_14_55 : decode prog_12_method_14_code 55 = .ok (.pop, 1) := by decide +kernel
theorem d12_14_56 : decode prog_12_method_14_code 56 = .ok (.aload_n 3, 1) := by decide +kernel
theorem d12_14_57 : decode prog_12_method_14_code 57 = .ok (.aload_n 1, 1) := by decide +kernel
theorem d12_14_58 : decode prog_12_method_14_code 58 = .ok (.iload_n 2, 1) := by decide +kernel
theorem d12_14_59 : decode prog_12_method_14_code 59 = .ok (.iconst 1, 1) := by decide +kernel
theorem d12_14_60 : decode prog_12_method_14_code 60 = .ok (.iadd, 1) := by decide +kernel
theorem d12_14_61 : decode prog_12_method_14_code 61 = .ok (.invokestatic 116, 3) := by decide +kernel
theorem k1002 : (Jvm.Cond.code ({ cls := "PagedValues$Value", name := "write", desc := "(LPagedValues$Value;Ljava/lang/StringBuilder;I)V" } : Jvm.MethodName) prog_12_method_13_code (3 : Nat) (Option.none : Option Jvm.ClassFile.FieldType)) ∈ TB := tk_5 42 rfl rfl
def y12_13 : MethodName := { cls := "PagedValues$Value", name := "write", desc := "(LPagedValues$Value;Ljava/lang/StringBuilder;I)V" }
theorem k1087 : (Jvm.Cond.methodLink "PagedValues$Value" (116 : Nat) ({ cls := "PagedValues$Value", name := "write", desc := "(LPagedValues$Value;Ljava/lang/StringBuilder;I)V" } : Jvm.MethodName)) ∈ TB := tk_5 127 rfl rfl
theorem k1001 : (Jvm.Cond.static ({ cls := "PagedValues$Value", name := "write", desc := "(LPagedValues$Value;Ljava/lang/StringBuilder;I)V" } : Jvm.MethodName)) ∈ TB := tk_5 41 rfl rfl
theorem d12_14_64 : decode prog_12_method_14_code 64 = .ok (.aload_n 3, 1) := by decide +kernel
theorem d12_14_65 : decode prog_12_method_14_code 65 = .ok (.getfield 43, 3) := by decide +kernel
theorem d12_14_68 : decode prog_12_method_14_code 68 = .ok (.astore_n 3, 1) := by decide +kernel
theorem d12_14_69 : decode prog_12_method_14_code 69 = .ok (.goto (-57), 3) := by decide +kernel
theorem d12_14_6 : decode prog_12_method_14_code 6 = .ok (.return_, 1) := by decide +kernel
def y12_14 : MethodName := { cls := "PagedValues$Value", name := "writeParts", desc := "(LPagedValues$Value;Ljava/lang/StringBuilder;I)V" }
theorem k1086 : (Jvm.Cond.code ({ cls := "PagedValues$Value", name := "writeParts", desc := "(LPagedValues$Value;Ljava/lang/StringBuilder;I)V" } : Jvm.MethodName) prog_12_method_14_code (4 : Nat) (Option.none : Option Jvm.ClassFile.FieldType)) ∈ TB := tk_5 126 rfl rfl
theorem k1084 : (Jvm.Cond.methodLink "PagedValues$Value" (112 : Nat) ({ cls := "PagedValues$Value", name := "writeParts", desc := "(LPagedValues$Value;Ljava/lang/StringBuilder;I)V" } : Jvm.MethodName)) ∈ TB := tk_5 124 rfl rfl
theorem k1085 : (Jvm.Cond.static ({ cls := "PagedValues$Value", name := "writeParts", desc := "(LPagedValues$Value;Ljava/lang/StringBuilder;I)V" } : Jvm.MethodName)) ∈ TB := tk_5 125 rfl rfl
theorem d12_13_114 : decode prog_12_method_13_code 114 = .ok (.aload_n 1, 1) := by decide +kernel
theorem d12_13_115 : decode prog_12_method_13_code 115 = .ok (.bipush 93, 2) := by decide +kernel
theorem d12_13_117 : decode prog_12_method_13_code 117 = .ok (.invokevirtual 109, 3) := by decide +kernel
theorem d12_13_120 : decode prog_12_method_13_code 120 = .ok (.pop, 1) := by decide +kernel
theorem d12_13_121 : decode prog_12_method_13_code 121 = .ok (.goto 23, 3) := by decide +kernel
theorem d12_13_124 : decode prog_12_method_13_code 124 = .ok (.aload_n 1, 1) := by decide +kernel
theorem d12_13_125 : decode prog_12_method_13_code 125 = .ok (.bipush 123, 2) := by decide +kernel
theorem d12_13_127 : decode prog_12_method_13_code 127 = .ok (.invokevirtual 109, 3) := by decide +kernel
theorem d12_13_130 : decode prog_12_method_13_code 130 = .ok (.pop, 1) := by decide +kernel
theorem d12_13_131 : decode prog_12_method_13_code 131 = .ok (.aload_n 0, 1) := by decide +kernel
theorem d12_13_132 : decode prog_12_method_13_code 132 = .ok (.aload_n 1, 1) := by decide +kernel
theorem d12_13_133 : decode prog_12_method_13_code 133 = .ok (.iload_n 2, 1) := by decide +kernel
theorem d12_13_134 : decode prog_12_method_13_code 134 = .ok (.invokestatic 112, 3) := by decide +kernel
theorem d12_13_137 : decode prog_12_method_13_code 137 = .ok (.aload_n 1, 1) := by decide +kernel
theorem d12_13_138 : decode prog_12_method_13_code 138 = .ok (.bipush 125, 2) := by decide +kernel
theorem d12_13_140 : decode prog_12_method_13_code 140 = .ok (.invokevirtual 109, 3) := by decide +kernel
theorem d12_13_143 : decode prog_12_method_13_code 143 = .ok (.pop, 1) := by decide +kernel
theorem d12_13_144 : decode prog_12_method_13_code 144 = .ok (.return_, 1) := by decide +kernel
theorem cc_ordinal (l : Launch) (G : Gk) (Zd : Nat → Nat) (K : KE) (i : Nat) (hi : i < 7) (x : Int32) (hxi : x = ([0, 1, 2, 3, 4, 5, 6] : List Int32).getD i 0) (st : CS) : CT l y18_2 prog_18_method_2_code 1 (some .int) G Zd K 0 [.ref (Zd (8 + i))] st (hI G Zd x st) := by
  subst hxi
  refine goH (d := 0) (y := y18_2) (cc := prog_18_method_2_code) (maxL := 1) (ret := some .int) (av := [.ref (Zd (8 + i))]) (Qc := hI G Zd _ st) "java/lang/Enum" rfl (by decide) (c1_c rfl c1_n) (Nat.le_of_ble_eq_true rfl) ?_
  intro p e s m below meth c ls A args Q hQ hx hb hr hlk hml hown hts hin hl hE hw
  have hl : lw ls 1 [(0, .ref (Zd (8 + i)))] := hl
  refine lv_aload_n hx hb d18_2_0 rfl (lv_at hl.1 0 rfl) ?_
  refine va_getE (ref := "java/lang/Enum") (ad := fun i => Zd (8 + i)) (i := i) hx hb hE.2.2.1.2.1.1 hi hw.2.2.2 hown (q := ("java/lang/Enum", "ordinal", "I", [0, 1, 2, 3, 4, 5, 6])) List.mem_cons_self (hts _ (List.mem_cons_of_mem _ k1666)) (fun _ h9 => h9) d18_2_1 ?_
  exact finH_i hQ hx hb hr hlk hE hw d18_2_4
def c_Value_writeString_l1 (Zd : Nat → Nat) (K : KE) (a0 : Option Nat) (a11z : Nat) : Nat → (Int32 × CS) → Option (Int32 × CS)
  | 0, _ => none
  | n9 + 1, e9 => a0.bind fun a23z => (isO K e9.2 a23z 12).bind fun _ => (c_String_length Zd K a23z e9.2).bind fun x24 => if x24 ≤ e9.1 then (some (e9.1, e9.2)) else ((isO K e9.2 a23z 12).bind fun _ => (c_String_charAt Zd K a23z e9.1 e9.2).bind fun x28 => (if x28 = (34 : Int32) then ((isO K e9.2 a11z 2).bind fun _ => (c_StringBuilder_append_C Zd K a11z (92 : Int32) e9.2).bind fun r40 => some r40.2) else (if x28 = (92 : Int32) then ((isO K e9.2 a11z 2).bind fun _ => (c_StringBuilder_append_C Zd K a11z (92 : Int32) e9.2).bind fun r44 => some r44.2) else (some e9.2))).bind fun e31 => (isO K e31 a11z 2).bind fun _ => (c_StringBuilder_append_C Zd K a11z x28 e31).bind fun r35 => (some (e9.1 + 1)).bind fun y36 => c_Value_writeString_l1 Zd K a0 a11z n9 (y36, r35.2))
theorem c_Value_writeString_l1_s (Zd : Nat → Nat) (K : KE) (a0 : Option Nat) (a11z : Nat) (n9 : Nat) (e9 : Int32 × CS) : c_Value_writeString_l1 Zd K a0 a11z (n9 + 1) e9 = (a0.bind fun a23z => (isO K e9.2 a23z 12).bind fun _ => (c_String_length Zd K a23z e9.2).bind fun x24 => if x24 ≤ e9.1 then (some (e9.1, e9.2)) else ((isO K e9.2 a23z 12).bind fun _ => (c_String_charAt Zd K a23z e9.1 e9.2).bind fun x28 => (if x28 = (34 : Int32) then ((isO K e9.2 a11z 2).bind fun _ => (c_StringBuilder_append_C Zd K a11z (92 : Int32) e9.2).bind fun r40 => some r40.2) else (if x28 = (92 : Int32) then ((isO K e9.2 a11z 2).bind fun _ => (c_StringBuilder_append_C Zd K a11z (92 : Int32) e9.2).bind fun r44 => some r44.2) else (some e9.2))).bind fun e31 => (isO K e31 a11z 2).bind fun _ => (c_StringBuilder_append_C Zd K a11z x28 e31).bind fun r35 => (some (e9.1 + 1)).bind fun y36 => c_Value_writeString_l1 Zd K a0 a11z n9 (y36, r35.2))) := rfl
def c_Value_writeString (Zd : Nat → Nat) (K : KE) (a0 : Option Nat) (a1 : Option Nat) (st : CS) : Option (CS) := a1.bind fun a11z => (isO K st a11z 2).bind fun _ => (c_StringBuilder_append_C Zd K a11z (34 : Int32) st).bind fun r14 => (c_Value_writeString_l1 Zd K a0 a11z 4096 ((0 : Int32), r14.2)).bind fun e15 => (isO K e15.2 a11z 2).bind fun _ => (c_StringBuilder_append_C Zd K a11z (34 : Int32) e15.2).bind fun r22 => some r22.2
set_option maxHeartbeats 4000000 in
set_option maxRecDepth 100000 in
theorem cc_Value_writeString (l : Launch) (G : Gk) (Zd : Nat → Nat) (K : KE) (a0 : Option Nat) (a1 : Option Nat) (st : CS) (st0 : CS) (hm : c_Value_writeString Zd K a0 a1 st = some st0) : CT l y12_15 prog_12_method_15_code 4 none G Zd K (6) [va_rf a0, va_rf a1] st (hV G Zd st0) := by
  refine goH (d := 6) (y := y12_15) (cc := prog_12_method_15_code) (maxL := 4) (ret := none) (av := [va_rf a0, va_rf a1]) (Qc := hV G Zd st0) "PagedValues$Value" rfl (by decide) (c1_c (rf_cat _) (c1_c (rf_cat _) c1_n)) (Nat.le_of_ble_eq_true rfl) ?_
  intro p e s m below meth c ls A args Q hQ hx hb hr hlk hml hown hts hin hl hE hw
  have hl : lw ls 4 [(0, va_rf a0), (1, va_rf a1)] := hl
  have hZ := hE.2.2.1
  have h := hm
  clear hm
  refine xq_aload_n (r := a1) hx hb d12_15_0 rfl (lv_at hl.1 1 rfl) ?_
  refine lv_bipush (v := 34) hx hb d12_15_1 (by decide) ?_
  obtain ⟨a11z, hn11, h⟩ := ob h
  have hn11 : a1 = some a11z := hn11
  refine W.eq (g2 := F0 m 3 ls [.int 34, .ref a11z]) (by rw [hn11]; rfl) ?_
  obtain ⟨u9, ho, h⟩ := ob h
  obtain ⟨⟨x12, st13⟩, hc, h⟩ := ob h
  refine hV_q (ci := 2) (As := [.int 34]) (rest := []) ⟨hx, hb, hml, hown, hts⟩ (cc_StringBuilder_append_C l G Zd K a11z (34 : Int32) st x12 st13 hc) (kw_V (n := 1) hts k545 k1081 k4 k543 k544 (by decide +kernel) ⟨Nat.le_of_ble_eq_true rfl, Nat.le_of_ble_eq_true rfl⟩) hE hw rfl rfl ho rfl hl.1.1 rfl (c1_8 c1_n (Nat.le_of_ble_eq_true rfl)) d12_15_3 (fun H locs cells slots hw => ?_)
  clear hc ho u9
  refine W.eq (g2 := F0 m 6 ls [va_rf x12]) rfl ?_
  refine lv_pop hx hb d12_15_6 (rf_cat _) ?_
  refine lv_iconst (v := 0) hx hb d12_15_7 (by decide) ?_
  refine xt_istore_n (x := 0) (lv' := [(2, .int 0), (0, va_rf a0), (1, va_rf a1)]) hx hb d12_15_8 rfl hl (by decide) rfl (fun ls hl => ?_)
  obtain ⟨e15, hX, hrest⟩ := ob h
  clear h
  have hj : ∀ (v18 : Int32) (v19 : CS), e15 = (v18, v19) → ∀ (H : Heap) (locs : List Loc) (cells slots : Nat) (ls : Array Slot), lw ls 4 [(0, va_rf a0), (1, va_rf a1), (2, .int v18)] → wsH G Zd A s v19 H locs → W p l e (rmH Zd (6) st.1) s m args below meth c H locs cells slots Q (F0 m 54 ls []) := by
    intro v18 v19 he H locs cells slots ls hl hw
    subst e15
    have h := hrest
    clear hrest
    refine xq_aload_n (r := a1) hx hb d12_15_54 rfl (lv_at hl.1 1 rfl) ?_
    refine lv_bipush (v := 34) hx hb d12_15_55 (by decide) ?_
    refine W.eq (g2 := F0 m 57 ls [.int 34, .ref a11z]) (by rw [hn11]; rfl) ?_
    obtain ⟨u9, ho, h⟩ := ob h
    obtain ⟨⟨x20, st21⟩, hc, h⟩ := ob h
    refine hV_q (ci := 2) (As := [.int 34]) (rest := []) ⟨hx, hb, hml, hown, hts⟩ (cc_StringBuilder_append_C l G Zd K a11z (34 : Int32) v19 x20 st21 hc) (kw_V (n := 1) hts k545 k1081 k4 k543 k544 (by decide +kernel) ⟨Nat.le_of_ble_eq_true rfl, Nat.le_of_ble_eq_true rfl⟩) hE hw rfl rfl ho rfl hl.1.1 rfl (c1_8 c1_n (Nat.le_of_ble_eq_true rfl)) d12_15_57 (fun H locs cells slots hw => ?_)
    clear hc ho u9
    refine W.eq (g2 := F0 m 60 ls [va_rf x20]) rfl ?_
    refine lv_pop hx hb d12_15_60 (rf_cat _) ?_
    cases h
    exact finH_v hQ hx hb hr hlk hE hw d12_15_61
  have hloop : ∀ (n9 : Nat) (v16 : Int32) (v17 : CS), c_Value_writeString_l1 Zd K a0 a11z n9 (v16, v17) = some e15 → ∀ (H : Heap) (locs : List Loc) (cells slots : Nat) (ls : Array Slot), lw ls 4 [(0, va_rf a0), (1, va_rf a1), (2, .int v16)] → wsH G Zd A s v17 H locs → W p l e (rmH Zd (6) st.1) s m args below meth c H locs cells slots Q (F0 m 9 ls []) := by
    intro n9
    induction n9 with
    | zero =>
      intro v16 v17 h
      cases h
    | succ n9 ih =>
      intro v16 v17 h H locs cells slots ls hl hw
      replace h := (c_Value_writeString_l1_s Zd K a0 a11z n9 (v16, v17)).symm.trans h
      refine lv_iload_n hx hb d12_15_9 rfl (lv_at hl.1 2 rfl) ?_
      refine xq_aload_n (r := a0) hx hb d12_15_10 rfl (lv_at hl.1 0 rfl) ?_
      obtain ⟨a23z, hn23, h⟩ := ob h
      have hn23 : a0 = some a23z := hn23
      refine W.eq (g2 := F0 m 11 ls [.ref a23z, .int v16]) (by rw [hn23]; rfl) ?_
      obtain ⟨u9, ho, h⟩ := ob h
      obtain ⟨x24, hc, h⟩ := ob h
      refine hV_i (ci := 12) (As := []) (rest := [.int v16]) ⟨hx, hb, hml, hown, hts⟩ (cc_String_length l G Zd K a23z v17 x24 hc) (kw_V (n := 0) hts k628 k1082 k5 k626 k627 (by decide +kernel) ⟨Nat.le_of_ble_eq_true rfl, Nat.le_of_ble_eq_true rfl⟩) hE hw rfl rfl ho rfl hl.1.1 rfl (c1_8 (c1_c rfl c1_n) (Nat.le_of_ble_eq_true rfl)) d12_15_11 (fun H locs cells slots hw => ?_)
      clear hc ho u9
      refine W.eq (g2 := F0 m 14 ls [.int x24, .int v16]) rfl ?_
      refine lv_icmp_ge (tgt := 54) hx hb d12_15_14 rfl (fun c27 => ?_) (fun c27 => ?_)
      ·
        replace h := (if_pos c27).symm.trans h
        have e9 := Option.some.inj h
        subst e15
        have hl := lw_sub hl (l' := [(0, va_rf a0), (1, va_rf a1), (2, .int v16)]) [0, 1, 2] rfl
        exact hj _ _ rfl _ _ _ _ _ hl hw
      ·
        replace h := (if_neg c27).symm.trans h
        refine xq_aload_n (r := a0) hx hb d12_15_17 rfl (lv_at hl.1 0 rfl) ?_
        refine lv_iload_n hx hb d12_15_18 rfl (lv_at hl.1 2 rfl) ?_
        refine W.eq (g2 := F0 m 19 ls [.int v16, .ref a23z]) (by rw [hn23]; rfl) ?_
        obtain ⟨u9, ho, h⟩ := ob h
        obtain ⟨x28, hc, h⟩ := ob h
        refine hV_i (ci := 12) (As := [.int v16]) (rest := []) ⟨hx, hb, hml, hown, hts⟩ (cc_String_charAt l G Zd K a23z v16 v17 x28 hc) (kw_V (n := 1) hts k636 k1083 k5 k634 k635 (by decide +kernel) ⟨Nat.le_of_ble_eq_true rfl, Nat.le_of_ble_eq_true rfl⟩) hE hw rfl rfl ho rfl hl.1.1 rfl (c1_8 c1_n (Nat.le_of_ble_eq_true rfl)) d12_15_19 (fun H locs cells slots hw => ?_)
        clear hc ho u9
        refine W.eq (g2 := F0 m 22 ls [.int x28]) rfl ?_
        refine xt_istore_n (x := x28) (lv' := [(3, .int x28), (0, va_rf a0), (1, va_rf a1), (2, .int v16)]) hx hb d12_15_22 rfl hl (by decide) rfl (fun ls hl => ?_)
        refine lv_iload_n hx hb d12_15_23 rfl (lv_at hl.1 0 rfl) ?_
        refine lv_bipush (v := 34) hx hb d12_15_24 (by decide) ?_
        obtain ⟨e31, hX, h⟩ := ob h
        have hj : ∀ (H : Heap) (locs : List Loc) (cells slots : Nat) (ls : Array Slot), lw ls 4 [(0, va_rf a0), (1, va_rf a1), (2, .int v16), (3, .int x28)] → wsH G Zd A s e31 H locs → W p l e (rmH Zd (6) st.1) s m args below meth c H locs cells slots Q (F0 m 42 ls []) := by
          intro H locs cells slots ls hl hw
          refine xq_aload_n (r := a1) hx hb d12_15_42 rfl (lv_at hl.1 1 rfl) ?_
          refine lv_iload_n hx hb d12_15_43 rfl (lv_at hl.1 3 rfl) ?_
          refine W.eq (g2 := F0 m 44 ls [.int x28, .ref a11z]) (by rw [hn11]; rfl) ?_
          obtain ⟨u9, ho, h⟩ := ob h
          obtain ⟨⟨x33, st34⟩, hc, h⟩ := ob h
          refine hV_q (ci := 2) (As := [.int x28]) (rest := []) ⟨hx, hb, hml, hown, hts⟩ (cc_StringBuilder_append_C l G Zd K a11z x28 e31 x33 st34 hc) (kw_V (n := 1) hts k545 k1081 k4 k543 k544 (by decide +kernel) ⟨Nat.le_of_ble_eq_true rfl, Nat.le_of_ble_eq_true rfl⟩) hE hw rfl rfl ho rfl hl.1.1 rfl (c1_8 c1_n (Nat.le_of_ble_eq_true rfl)) d12_15_44 (fun H locs cells slots hw => ?_)
          clear hc ho u9
          refine W.eq (g2 := F0 m 47 ls [va_rf x33]) rfl ?_
          refine lv_pop hx hb d12_15_47 (rf_cat _) ?_
          obtain ⟨y36, hr, h⟩ := ob h
          refine xt_iinc (k := 2) (v := y36) (lv' := [(2, .int y36), (0, va_rf a0), (1, va_rf a1), (3, .int x28)]) hx hb d12_15_48 hl rfl hr (by decide) rfl (fun ls hl => ?_)
          clear hr
          refine lv_goto (tgt := 9) hx hb d12_15_51 rfl ?_
          have hl := lw_sub hl (l' := [(0, va_rf a0), (1, va_rf a1), (2, .int y36)]) [1, 2, 0] rfl
          exact ih _ _ h _ _ _ _ _ hl hw
        clear h
        refine lv_icmp_eq (tgt := 35) hx hb d12_15_26 rfl (fun c37 => ?_) (fun c37 => ?_)
        ·
          replace h := (if_pos c37).symm.trans hX
          refine xq_aload_n (r := a1) hx hb d12_15_35 rfl (lv_at hl.1 2 rfl) ?_
          refine lv_bipush (v := 92) hx hb d12_15_36 (by decide) ?_
          refine W.eq (g2 := F0 m 38 ls [.int 92, .ref a11z]) (by rw [hn11]; rfl) ?_
          obtain ⟨u9, ho, h⟩ := ob h
          obtain ⟨⟨x38, st39⟩, hc, h⟩ := ob h
          refine hV_q (ci := 2) (As := [.int 92]) (rest := []) ⟨hx, hb, hml, hown, hts⟩ (cc_StringBuilder_append_C l G Zd K a11z (92 : Int32) v17 x38 st39 hc) (kw_V (n := 1) hts k545 k1081 k4 k543 k544 (by decide +kernel) ⟨Nat.le_of_ble_eq_true rfl, Nat.le_of_ble_eq_true rfl⟩) hE hw rfl rfl ho rfl hl.1.1 rfl (c1_8 c1_n (Nat.le_of_ble_eq_true rfl)) d12_15_38 (fun H locs cells slots hw => ?_)
          clear hc ho u9
          refine W.eq (g2 := F0 m 41 ls [va_rf x38]) rfl ?_
          refine lv_pop hx hb d12_15_41 (rf_cat _) ?_
          have e9 := Option.some.inj h
          subst e31
          have hl := lw_sub hl (l' := [(0, va_rf a0), (1, va_rf a1), (2, .int v16), (3, .int x28)]) [1, 2, 3, 0] rfl
          exact hj _ _ _ _ _ hl hw
        ·
          replace h := (if_neg c37).symm.trans hX
          refine lv_iload_n hx hb d12_15_29 rfl (lv_at hl.1 0 rfl) ?_
          refine lv_bipush (v := 92) hx hb d12_15_30 (by decide) ?_
          refine lv_icmp_ne (tgt := 42) hx hb d12_15_32 rfl (fun c41 => ?_) (fun c41 => ?_)
          ·
            replace h := (if_neg c41).symm.trans h
            have e9 := Option.some.inj h
            subst e31
            have hl := lw_sub hl (l' := [(0, va_rf a0), (1, va_rf a1), (2, .int v16), (3, .int x28)]) [1, 2, 3, 0] rfl
            exact hj _ _ _ _ _ hl hw
          ·
            replace h := (if_pos c41).symm.trans h
            refine xq_aload_n (r := a1) hx hb d12_15_35 rfl (lv_at hl.1 2 rfl) ?_
            refine lv_bipush (v := 92) hx hb d12_15_36 (by decide) ?_
            refine W.eq (g2 := F0 m 38 ls [.int 92, .ref a11z]) (by rw [hn11]; rfl) ?_
            obtain ⟨u9, ho, h⟩ := ob h
            obtain ⟨⟨x42, st43⟩, hc, h⟩ := ob h
            refine hV_q (ci := 2) (As := [.int 92]) (rest := []) ⟨hx, hb, hml, hown, hts⟩ (cc_StringBuilder_append_C l G Zd K a11z (92 : Int32) v17 x42 st43 hc) (kw_V (n := 1) hts k545 k1081 k4 k543 k544 (by decide +kernel) ⟨Nat.le_of_ble_eq_true rfl, Nat.le_of_ble_eq_true rfl⟩) hE hw rfl rfl ho rfl hl.1.1 rfl (c1_8 c1_n (Nat.le_of_ble_eq_true rfl)) d12_15_38 (fun H locs cells slots hw => ?_)
            clear hc ho u9
            refine W.eq (g2 := F0 m 41 ls [va_rf x42]) rfl ?_
            refine lv_pop hx hb d12_15_41 (rf_cat _) ?_
            have e9 := Option.some.inj h
            subst e31
            have hl := lw_sub hl (l' := [(0, va_rf a0), (1, va_rf a1), (2, .int v16), (3, .int x28)]) [1, 2, 3, 0] rfl
            exact hj _ _ _ _ _ hl hw
  have hl := lw_sub hl (l' := [(0, va_rf a0), (1, va_rf a1), (2, .int 0)]) [1, 2, 0] rfl
  exact hloop _ _ _ hX _ _ _ _ _ hl hw
def c_Value_writeParts_l1 (Zd : Nat → Nat) (K : KE) (fv : Option Nat → Option Nat → Int32 → CS → Option (CS)) (a1 : Option Nat) (a2 : Int32) (a12z : Nat) : Nat → (Option Nat × CS) → Option (Option Nat × CS)
  | 0, _ => none
  | n9 + 1, e9 => nl e9.1 (some (e9.1, e9.2)) (fun a19z => (gQ K e9.2 a12z 11 4).bind fun x20 => (if e9.1 = x20 then (some e9.2) else (a1.bind fun a41z => (isO K e9.2 a41z 2).bind fun _ => (c_StringBuilder_append_C Zd K a41z (44 : Int32) e9.2).bind fun r44 => some r44.2)).bind fun e21 => (gQ K e21 a12z 11 0).bind fun x23 => (if x23 = some (Zd 14) then ((gQ K e21 a19z 11 3).bind fun x32 => (c_Value_writeString Zd K x32 a1 e21).bind fun st34 => a1.bind fun a36z => (isO K st34 a36z 2).bind fun _ => (c_StringBuilder_append_C Zd K a36z (58 : Int32) st34).bind fun r39 => some r39.2) else (some e21)).bind fun e24 => (some (a2 + (1 : Int32))).bind fun y26 => (fv e9.1 a1 y26 e24).bind fun st28 => (gQ K st28 a19z 11 5).bind fun x30 => c_Value_writeParts_l1 Zd K fv a1 a2 a12z n9 (x30, st28))
theorem c_Value_writeParts_l1_s (Zd : Nat → Nat) (K : KE) (fv : Option Nat → Option Nat → Int32 → CS → Option (CS)) (a1 : Option Nat) (a2 : Int32) (a12z : Nat) (n9 : Nat) (e9 : Option Nat × CS) : c_Value_writeParts_l1 Zd K fv a1 a2 a12z (n9 + 1) e9 = (nl e9.1 (some (e9.1, e9.2)) (fun a19z => (gQ K e9.2 a12z 11 4).bind fun x20 => (if e9.1 = x20 then (some e9.2) else (a1.bind fun a41z => (isO K e9.2 a41z 2).bind fun _ => (c_StringBuilder_append_C Zd K a41z (44 : Int32) e9.2).bind fun r44 => some r44.2)).bind fun e21 => (gQ K e21 a12z 11 0).bind fun x23 => (if x23 = some (Zd 14) then ((gQ K e21 a19z 11 3).bind fun x32 => (c_Value_writeString Zd K x32 a1 e21).bind fun st34 => a1.bind fun a36z => (isO K st34 a36z 2).bind fun _ => (c_StringBuilder_append_C Zd K a36z (58 : Int32) st34).bind fun r39 => some r39.2) else (some e21)).bind fun e24 => (some (a2 + (1 : Int32))).bind fun y26 => (fv e9.1 a1 y26 e24).bind fun st28 => (gQ K st28 a19z 11 5).bind fun x30 => c_Value_writeParts_l1 Zd K fv a1 a2 a12z n9 (x30, st28))) := rfl
def c_Value_writeParts (Zd : Nat → Nat) (K : KE) (fv : Option Nat → Option Nat → Int32 → CS → Option (CS)) (a0 : Option Nat) (a1 : Option Nat) (a2 : Int32) (st : CS) : Option (CS) := if a2 < (8 : Int32) then (a0.bind fun a12z => (gQ K st a12z 11 4).bind fun x13 => (c_Value_writeParts_l1 Zd K fv a1 a2 a12z 4096 (x13, st)).bind fun e14 => some e14.2) else (some st)
set_option maxHeartbeats 4000000 in
set_option maxRecDepth 100000 in
theorem cc_Value_writeParts (l : Launch) (G : Gk) (Zd : Nat → Nat) (K : KE) (fv : Option Nat → Option Nat → Int32 → CS → Option (CS)) (Dv : Nat) (hv : ∀ (b0 : Option Nat) (b1 : Option Nat) (b2 : Int32) (st : CS) (st0 : CS), fv b0 b1 b2 st = some st0 → CT l y12_13 prog_12_method_13_code 3 none G Zd K Dv [va_rf b0, va_rf b1, .int b2] st (hV G Zd st0)) (a0 : Option Nat) (a1 : Option Nat) (a2 : Int32) (st : CS) (st0 : CS) (hm : c_Value_writeParts Zd K fv a0 a1 a2 st = some st0) : CT l y12_14 prog_12_method_14_code 4 none G Zd K (Dv + 7) [va_rf a0, va_rf a1, .int a2] st (hV G Zd st0) := by
  refine goH (d := Dv + 7) (y := y12_14) (cc := prog_12_method_14_code) (maxL := 4) (ret := none) (av := [va_rf a0, va_rf a1, .int a2]) (Qc := hV G Zd st0) "PagedValues$Value" rfl (by decide) (c1_c (rf_cat _) (c1_c (rf_cat _) (c1_c rfl c1_n))) (Nat.le_of_ble_eq_true rfl) ?_
  intro p e s m below meth c ls A args Q hQ hx hb hr hlk hml hown hts hin hl hE hw
  have hl : lw ls 4 [(0, va_rf a0), (1, va_rf a1), (2, .int a2)] := hl
  have hZ := hE.2.2.1
  have h := hm
  clear hm
  refine lv_iload_n hx hb d12_14_0 rfl (lv_at hl.1 2 rfl) ?_
  refine lv_bipush (v := 8) hx hb d12_14_1 (by decide) ?_
  refine lv_icmp_lt (tgt := 7) hx hb d12_14_3 rfl (fun c11 => ?_) (fun c11 => ?_)
  ·
    replace h := (if_pos c11).symm.trans h
    refine xq_aload_n (r := a0) hx hb d12_14_7 rfl (lv_at hl.1 0 rfl) ?_
    obtain ⟨a12z, hn12, h⟩ := ob h
    have hn12 : a0 = some a12z := hn12
    refine W.eq (g2 := F0 m 8 ls [.ref a12z]) (by rw [hn12]; rfl) ?_
    obtain ⟨x13, hr, h⟩ := ob h
    refine xg_q (ci := 11) (C := r_11) (T := f_11) (N := 6) (ref := "PagedValues$Value") hx hb hts (fun w h => List.mem_cons_of_mem _ (ly_11 w h)) hown hE hw rfl 4 (by decide) (hts _ (List.mem_cons_of_mem _ k358)) (fun _ h9 => h9) hr d12_14_8 ?_
    clear hr
    refine xt_astore_n (r := x13) (lv' := [(3, va_rf x13), (0, va_rf a0), (1, va_rf a1), (2, .int a2)]) hx hb d12_14_11 rfl hl (by decide) rfl (fun ls hl => ?_)
    obtain ⟨e14, hX, hrest⟩ := ob h
    clear h
    have hj : ∀ (v17 : Option Nat) (v18 : CS), e14 = (v17, v18) → ∀ (H : Heap) (locs : List Loc) (cells slots : Nat) (ls : Array Slot), lw ls 4 [(0, va_rf a0), (1, va_rf a1), (2, .int a2), (3, va_rf v17)] → wsH G Zd A s v18 H locs → W p l e (rmH Zd (Dv + 7) st.1) s m args below meth c H locs cells slots Q (F0 m 72 ls []) := by
      intro v17 v18 he H locs cells slots ls hl hw
      subst e14
      have h := hrest
      clear hrest
      cases h
      exact finH_v hQ hx hb hr hlk hE hw d12_14_72
    have hloop : ∀ (n9 : Nat) (v15 : Option Nat) (v16 : CS), c_Value_writeParts_l1 Zd K fv a1 a2 a12z n9 (v15, v16) = some e14 → ∀ (H : Heap) (locs : List Loc) (cells slots : Nat) (ls : Array Slot), lw ls 4 [(0, va_rf a0), (1, va_rf a1), (2, .int a2), (3, va_rf v15)] → wsH G Zd A s v16 H locs → W p l e (rmH Zd (Dv + 7) st.1) s m args below meth c H locs cells slots Q (F0 m 12 ls []) := by
      intro n9
      induction n9 with
      | zero =>
        intro v15 v16 h
        cases h
      | succ n9 ih =>
        intro v15 v16 h H locs cells slots ls hl hw
        replace h := (c_Value_writeParts_l1_s Zd K fv a1 a2 a12z n9 (v15, v16)).symm.trans h
        refine xq_aload_n (r := v15) hx hb d12_14_12 rfl (lv_at hl.1 3 rfl) ?_
        rcases nl_case h with ⟨hn19, h⟩ | ⟨a19z, hn19, h⟩
        ·
          have hn19 : v15 = none := hn19
          refine W.eq (g2 := F0 m 13 ls [.null]) (by rw [hn19]; rfl) ?_
          refine lv_ifnullN (tgt := 72) hx hb d12_14_13 rfl ?_
          have e9 := Option.some.inj h
          subst e14
          have hl := lw_sub hl (l' := [(0, va_rf a0), (1, va_rf a1), (2, .int a2), (3, va_rf v15)]) [0, 1, 2, 3] rfl
          exact hj _ _ rfl _ _ _ _ _ hl hw
        ·
          have hn19 : v15 = some a19z := hn19
          refine W.eq (g2 := F0 m 13 ls [.ref a19z]) (by rw [hn19]; rfl) ?_
          refine lv_ifnull hx hb d12_14_13 ?_
          refine xq_aload_n (r := v15) hx hb d12_14_16 rfl (lv_at hl.1 3 rfl) ?_
          refine xq_aload_n (r := a0) hx hb d12_14_17 rfl (lv_at hl.1 0 rfl) ?_
          refine W.eq (g2 := F0 m 18 ls [.ref a12z, va_rf v15]) (by rw [hn12]; rfl) ?_
          obtain ⟨x20, hr, h⟩ := ob h
          refine xg_q (ci := 11) (C := r_11) (T := f_11) (N := 6) (ref := "PagedValues$Value") hx hb hts (fun w h => List.mem_cons_of_mem _ (ly_11 w h)) hown hE hw rfl 4 (by decide) (hts _ (List.mem_cons_of_mem _ k358)) (fun _ h9 => h9) hr d12_14_18 ?_
          clear hr
          obtain ⟨e21, hX, h⟩ := ob h
          have hj : ∀ (H : Heap) (locs : List Loc) (cells slots : Nat) (ls : Array Slot), lw ls 4 [(0, va_rf a0), (1, va_rf a1), (2, .int a2), (3, va_rf v15)] → wsH G Zd A s e21 H locs → W p l e (rmH Zd (Dv + 7) st.1) s m args below meth c H locs cells slots Q (F0 m 31 ls []) := by
            intro H locs cells slots ls hl hw
            refine xq_aload_n (r := a0) hx hb d12_14_31 rfl (lv_at hl.1 0 rfl) ?_
            refine W.eq (g2 := F0 m 32 ls [.ref a12z]) (by rw [hn12]; rfl) ?_
            obtain ⟨x23, hr, h⟩ := ob h
            refine xg_q (ci := 11) (C := r_11) (T := f_11) (N := 6) (ref := "PagedValues$Value") hx hb hts (fun w h => List.mem_cons_of_mem _ (ly_11 w h)) hown hE hw rfl 0 (by decide) (hts _ (List.mem_cons_of_mem _ k349)) (fun _ h9 => h9) hr d12_14_32 ?_
            clear hr
            refine va_gets (ref := "PagedValues$Kind") hx hb (hZ.2.1.1.1 6 (by decide)).1 hw.2.2.2 hown (hts _ (List.mem_cons_of_mem _ k585)) (fun _ h9 => h9) d12_14_35 ?_
            refine W.eq (g2 := F0 m 38 ls [.ref (Zd 14), va_rf x23]) rfl ?_
            obtain ⟨e24, hX, h⟩ := ob h
            have hj : ∀ (H : Heap) (locs : List Loc) (cells slots : Nat) (ls : Array Slot), lw ls 4 [(0, va_rf a0), (1, va_rf a1), (2, .int a2), (3, va_rf v15)] → wsH G Zd A s e24 H locs → W p l e (rmH Zd (Dv + 7) st.1) s m args below meth c H locs cells slots Q (F0 m 56 ls []) := by
              intro H locs cells slots ls hl hw
              refine xq_aload_n (r := v15) hx hb d12_14_56 rfl (lv_at hl.1 3 rfl) ?_
              refine xq_aload_n (r := a1) hx hb d12_14_57 rfl (lv_at hl.1 1 rfl) ?_
              refine lv_iload_n hx hb d12_14_58 rfl (lv_at hl.1 2 rfl) ?_
              refine lv_iconst (v := 1) hx hb d12_14_59 (by decide) ?_
              refine lv_iadd hx hb d12_14_60 ?_
              obtain ⟨y26, hr, h⟩ := ob h
              refine lv_topi (fun y9 ey => ?_)
              have e9 := ey.trans (Option.some.inj hr)
              clear ey
              subst y9
              clear hr
              obtain ⟨st28, hc, h⟩ := ob h
              refine hS_v (As := [va_rf v15, va_rf a1, .int y26]) (rest := []) ⟨hx, hb, hml, hown, hts⟩ (hv v15 a1 y26 e24 st28 hc) (kw_S (n := 3) hts k1002 k1087 k18 k1001 (by decide +kernel) ⟨(show Dv + 1 ≤ Dv + 7 by omega), (show 8 + (3 + 11) + 64 * (Dv) ≤ 64 * (Dv + 7) by omega)⟩) hE hw rfl hl.1.1 rfl (c1_8 c1_n (Nat.le_of_ble_eq_true rfl)) d12_14_61 (fun H locs cells slots hw => ?_)
              clear hc
              refine W.eq (g2 := F0 m 64 ls []) rfl ?_
              refine xq_aload_n (r := v15) hx hb d12_14_64 rfl (lv_at hl.1 3 rfl) ?_
              refine W.eq (g2 := F0 m 65 ls [.ref a19z]) (by rw [hn19]; rfl) ?_
              obtain ⟨x30, hr, h⟩ := ob h
              refine xg_q (ci := 11) (C := r_11) (T := f_11) (N := 6) (ref := "PagedValues$Value") hx hb hts (fun w h => List.mem_cons_of_mem _ (ly_11 w h)) hown hE hw rfl 5 (by decide) (hts _ (List.mem_cons_of_mem _ k361)) (fun _ h9 => h9) hr d12_14_65 ?_
              clear hr
              refine xt_astore_n (r := x30) (lv' := [(3, va_rf x30), (0, va_rf a0), (1, va_rf a1), (2, .int a2)]) hx hb d12_14_68 rfl hl (by decide) rfl (fun ls hl => ?_)
              refine lv_goto (tgt := 12) hx hb d12_14_69 rfl ?_
              have hl := lw_sub hl (l' := [(0, va_rf a0), (1, va_rf a1), (2, .int a2), (3, va_rf x30)]) [1, 2, 3, 0] rfl
              exact ih _ _ h _ _ _ _ _ hl hw
            clear h
            refine lv_acmp_ne (rx := x23) (ry := some (Zd 14)) (tgt := 56) hx hb d12_14_38 rfl (fun c31 => ?_) (fun c31 => ?_)
            ·
              replace h := (if_neg c31).symm.trans hX
              have e9 := Option.some.inj h
              subst e24
              have hl := lw_sub hl (l' := [(0, va_rf a0), (1, va_rf a1), (2, .int a2), (3, va_rf v15)]) [0, 1, 2, 3] rfl
              exact hj _ _ _ _ _ hl hw
            ·
              replace h := (if_pos c31).symm.trans hX
              refine xq_aload_n (r := v15) hx hb d12_14_41 rfl (lv_at hl.1 3 rfl) ?_
              refine W.eq (g2 := F0 m 42 ls [.ref a19z]) (by rw [hn19]; rfl) ?_
              obtain ⟨x32, hr, h⟩ := ob h
              refine xg_q (ci := 11) (C := r_11) (T := f_11) (N := 6) (ref := "PagedValues$Value") hx hb hts (fun w h => List.mem_cons_of_mem _ (ly_11 w h)) hown hE hw rfl 3 (by decide) (hts _ (List.mem_cons_of_mem _ k355)) (fun _ h9 => h9) hr d12_14_42 ?_
              clear hr
              refine xq_aload_n (r := a1) hx hb d12_14_45 rfl (lv_at hl.1 1 rfl) ?_
              obtain ⟨st34, hc, h⟩ := ob h
              refine hS_v (As := [va_rf x32, va_rf a1]) (rest := []) ⟨hx, hb, hml, hown, hts⟩ (cc_Value_writeString l G Zd K x32 a1 e21 st34 hc) (kw_S (n := 2) hts k1080 k1078 k18 k1079 (by decide +kernel) ⟨(show 6 + 1 ≤ Dv + 7 by omega), (show 8 + (4 + 11) + 64 * (6) ≤ 64 * (Dv + 7) by omega)⟩) hE hw rfl hl.1.1 rfl (c1_8 c1_n (Nat.le_of_ble_eq_true rfl)) d12_14_46 (fun H locs cells slots hw => ?_)
              clear hc
              refine W.eq (g2 := F0 m 49 ls []) rfl ?_
              refine xq_aload_n (r := a1) hx hb d12_14_49 rfl (lv_at hl.1 1 rfl) ?_
              refine lv_bipush (v := 58) hx hb d12_14_50 (by decide) ?_
              obtain ⟨a36z, hn36, h⟩ := ob h
              have hn36 : a1 = some a36z := hn36
              refine W.eq (g2 := F0 m 52 ls [.int 58, .ref a36z]) (by rw [hn36]; rfl) ?_
              obtain ⟨u9, ho, h⟩ := ob h
              obtain ⟨⟨x37, st38⟩, hc, h⟩ := ob h
              refine hV_q (ci := 2) (As := [.int 58]) (rest := []) ⟨hx, hb, hml, hown, hts⟩ (cc_StringBuilder_append_C l G Zd K a36z (58 : Int32) st34 x37 st38 hc) (kw_V (n := 1) hts k545 k1081 k4 k543 k544 (by decide +kernel) ⟨(show 5 + 1 ≤ Dv + 7 by omega), (show 8 + (2 + 11) + 64 * (5) ≤ 64 * (Dv + 7) by omega)⟩) hE hw rfl rfl ho rfl hl.1.1 rfl (c1_8 c1_n (Nat.le_of_ble_eq_true rfl)) d12_14_52 (fun H locs cells slots hw => ?_)
              clear hc ho u9
              refine W.eq (g2 := F0 m 55 ls [va_rf x37]) rfl ?_
              refine lv_pop hx hb d12_14_55 (rf_cat _) ?_
              have e9 := Option.some.inj h
              subst e24
              have hl := lw_sub hl (l' := [(0, va_rf a0), (1, va_rf a1), (2, .int a2), (3, va_rf v15)]) [0, 1, 2, 3] rfl
              exact hj _ _ _ _ _ hl hw
          clear h
          refine lv_acmp_eq (rx := v15) (ry := x20) (tgt := 31) hx hb d12_14_21 rfl (fun c40 => ?_) (fun c40 => ?_)
          ·
            replace h := (if_pos c40).symm.trans hX
            have e9 := Option.some.inj h
            subst e21
            have hl := lw_sub hl (l' := [(0, va_rf a0), (1, va_rf a1), (2, .int a2), (3, va_rf v15)]) [0, 1, 2, 3] rfl
            exact hj _ _ _ _ _ hl hw
          ·
            replace h := (if_neg c40).symm.trans hX
            refine xq_aload_n (r := a1) hx hb d12_14_24 rfl (lv_at hl.1 1 rfl) ?_
            refine lv_bipush (v := 44) hx hb d12_14_25 (by decide) ?_
            obtain ⟨a41z, hn41, h⟩ := ob h
            have hn41 : a1 = some a41z := hn41
            refine W.eq (g2 := F0 m 27 ls [.int 44, .ref a41z]) (by rw [hn41]; rfl) ?_
            obtain ⟨u9, ho, h⟩ := ob h
            obtain ⟨⟨x42, st43⟩, hc, h⟩ := ob h
            refine hV_q (ci := 2) (As := [.int 44]) (rest := []) ⟨hx, hb, hml, hown, hts⟩ (cc_StringBuilder_append_C l G Zd K a41z (44 : Int32) v16 x42 st43 hc) (kw_V (n := 1) hts k545 k1081 k4 k543 k544 (by decide +kernel) ⟨(show 5 + 1 ≤ Dv + 7 by omega), (show 8 + (2 + 11) + 64 * (5) ≤ 64 * (Dv + 7) by omega)⟩) hE hw rfl rfl ho rfl hl.1.1 rfl (c1_8 c1_n (Nat.le_of_ble_eq_true rfl)) d12_14_27 (fun H locs cells slots hw => ?_)
            clear hc ho u9
            refine W.eq (g2 := F0 m 30 ls [va_rf x42]) rfl ?_
            refine lv_pop hx hb d12_14_30 (rf_cat _) ?_
            have e9 := Option.some.inj h
            subst e21
            have hl := lw_sub hl (l' := [(0, va_rf a0), (1, va_rf a1), (2, .int a2), (3, va_rf v15)]) [0, 1, 2, 3] rfl
            exact hj _ _ _ _ _ hl hw
    have hl := lw_sub hl (l' := [(0, va_rf a0), (1, va_rf a1), (2, .int a2), (3, va_rf x13)]) [1, 2, 3, 0] rfl
    exact hloop _ _ _ hX _ _ _ _ _ hl hw
  ·
    replace h := (if_neg c11).symm.trans h
    cases h
    exact finH_v hQ hx hb hr hlk hE hw d12_14_6
def c_Value_write_b (Zd : Nat → Nat) (K : KE) (fv : Option Nat → Option Nat → Int32 → CS → Option (CS)) (a0 : Option Nat) (a1 : Option Nat) (a2 : Int32) (st : CS) : Option (CS) := a0.bind fun a11z => (gQ K st a11z 11 0).bind fun x12 => x12.bind fun a13z => (ordK Zd a13z).bind fun x14 => (rA K st (Zd 1) 1 x14).bind fun x18 => (if x18 = (1 : Int32) then (a1.bind fun a22z => (isO K st a22z 2).bind fun _ => (c_StringBuilder_append_q Zd K a22z (some (Zd 20)) st).bind fun r25 => some r25.2) else (if x18 = (2 : Int32) then (a1.bind fun a27z => (isO K st a27z 2).bind fun _ => (c_StringBuilder_append_q Zd K a27z (some (Zd 21)) st).bind fun r30 => some r30.2) else (if x18 = (3 : Int32) then (a1.bind fun a32z => (isO K st a32z 2).bind fun _ => (c_StringBuilder_append_q Zd K a32z (some (Zd 22)) st).bind fun r35 => some r35.2) else (if x18 = (4 : Int32) then ((gI K st a11z 11 1).bind fun x37 => a1.bind fun a38z => (isO K st a38z 2).bind fun _ => (c_StringBuilder_append_I Zd K a38z x37 st).bind fun r41 => some r41.2) else (if x18 = (5 : Int32) then ((gQ K st a11z 11 2).bind fun x43 => (c_Value_writeString Zd K x43 a1 st).bind fun st45 => some st45) else (if x18 = (6 : Int32) then (a1.bind fun a48z => (isO K st a48z 2).bind fun _ => (c_StringBuilder_append_C Zd K a48z (91 : Int32) st).bind fun r51 => (c_Value_writeParts Zd K fv a0 a1 a2 r51.2).bind fun st53 => (isO K st53 a48z 2).bind fun _ => (c_StringBuilder_append_C Zd K a48z (93 : Int32) st53).bind fun r57 => some r57.2) else (a1.bind fun a58z => (isO K st a58z 2).bind fun _ => (c_StringBuilder_append_C Zd K a58z (123 : Int32) st).bind fun r61 => (c_Value_writeParts Zd K fv a0 a1 a2 r61.2).bind fun st63 => (isO K st63 a58z 2).bind fun _ => (c_StringBuilder_append_C Zd K a58z (125 : Int32) st63).bind fun r67 => some r67.2))))))).bind fun e19 => some e19
set_option maxHeartbeats 4000000 in
set_option maxRecDepth 100000 in
theorem cc_Value_write_b (l : Launch) (G : Gk) (Zd : Nat → Nat) (K : KE) (fv : Option Nat → Option Nat → Int32 → CS → Option (CS)) (Dv : Nat) (hv : ∀ (b0 : Option Nat) (b1 : Option Nat) (b2 : Int32) (st : CS) (st0 : CS), fv b0 b1 b2 st = some st0 → CT l y12_13 prog_12_method_13_code 3 none G Zd K Dv [va_rf b0, va_rf b1, .int b2] st (hV G Zd st0)) (a0 : Option Nat) (a1 : Option Nat) (a2 : Int32) (st : CS) (st0 : CS) (hm : c_Value_write_b Zd K fv a0 a1 a2 st = some st0) : CT l y12_13 prog_12_method_13_code 3 none G Zd K (Dv + 8) [va_rf a0, va_rf a1, .int a2] st (hV G Zd st0) := by
  refine goH (d := Dv + 8) (y := y12_13) (cc := prog_12_method_13_code) (maxL := 3) (ret := none) (av := [va_rf a0, va_rf a1, .int a2]) (Qc := hV G Zd st0) "PagedValues$Value" rfl (by decide) (c1_c (rf_cat _) (c1_c (rf_cat _) (c1_c rfl c1_n))) (Nat.le_of_ble_eq_true rfl) ?_
  intro p e s m below meth c ls A args Q hQ hx hb hr hlk hml hown hts hin hl hE hw
  have hl : lw ls 3 [(0, va_rf a0), (1, va_rf a1), (2, .int a2)] := hl
  have hZ := hE.2.2.1
  have h := hm
  clear hm
  refine va_gets (ref := "PagedValues$1") hx hb hZ.2.1.2.1 hw.2.2.2 hown (hts _ (List.mem_cons_of_mem _ k1003)) (fun _ h9 => h9) d12_13_0 ?_
  refine W.eq (g2 := F0 m 3 ls [.ref (Zd 1)]) rfl ?_
  refine xq_aload_n (r := a0) hx hb d12_13_3 rfl (lv_at hl.1 0 rfl) ?_
  obtain ⟨a11z, hn11, h⟩ := ob h
  have hn11 : a0 = some a11z := hn11
  refine W.eq (g2 := F0 m 4 ls [.ref a11z, .ref (Zd 1)]) (by rw [hn11]; rfl) ?_
  obtain ⟨x12, hr, h⟩ := ob h
  refine xg_q (ci := 11) (C := r_11) (T := f_11) (N := 6) (ref := "PagedValues$Value") hx hb hts (fun w h => List.mem_cons_of_mem _ (ly_11 w h)) hown hE hw rfl 0 (by decide) (hts _ (List.mem_cons_of_mem _ k349)) (fun _ h9 => h9) hr d12_13_4 ?_
  clear hr
  obtain ⟨a13z, hn13, h⟩ := ob h
  have hn13 : x12 = some a13z := hn13
  refine W.eq (g2 := F0 m 7 ls [.ref a13z, .ref (Zd 1)]) (by rw [hn13]; rfl) ?_
  obtain ⟨x14, hc, h⟩ := ob h
  obtain ⟨i17, hi17, ha17, hx17⟩ := ordK_some hc
  refine W.eq (g2 := F0 m 7 ls [.ref (Zd (8 + i17)), .ref (Zd 1)]) (by rw [ha17]) ?_
  refine hUE_i (As := []) (rest := [.ref (Zd 1)]) ⟨hx, hb, hml, hown, hts⟩ (cc_ordinal l G Zd K i17 hi17 x14 hx17 st) (kw_U (n := 0) (C := "PagedValues$Kind") (owner := "java/lang/Enum") (x0 := ⟨"PagedValues$Kind", "ordinal", "()I"⟩) hts k1010 k1005 k16 k1009 k1006 (hts _ (List.mem_cons_of_mem _ k1008)) (va_Decl.of (hts _ (List.mem_cons_of_mem _ k1009)) (hts _ (List.mem_cons_of_mem _ k1010))) (by decide +kernel) ⟨(show 0 + 1 ≤ Dv + 8 by omega), (show 8 + (1 + 11) + 64 * (0) ≤ 64 * (Dv + 8) by omega)⟩) hE hw (va_recvE (ad := fun i => Zd (8 + i)) (i := i17) hZ.2.1.1 hi17 hw.2.2.2) rfl hl.1.1 rfl (c1_8 (c1_c rfl c1_n) (Nat.le_of_ble_eq_true rfl)) d12_13_7 (fun H locs cells slots hw => ?_)
  clear hc
  refine W.eq (g2 := F0 m 10 ls [.int x14, .ref (Zd 1)]) rfl ?_
  obtain ⟨x18, hr, h⟩ := ob h
  refine xa_i hx hb hE hw (i := x14) hr d12_13_10 ?_
  clear hr
  obtain ⟨e19, hX, h⟩ := ob h
  have hj : ∀ (H : Heap) (locs : List Loc) (cells slots : Nat) (ls : Array Slot), lw ls 3 [(0, va_rf a0), (1, va_rf a1), (2, .int a2)] → wsH G Zd A s e19 H locs → W p l e (rmH Zd (Dv + 8) st.1) s m args below meth c H locs cells slots Q (F0 m 144 ls []) := by
    intro H locs cells slots ls hl hw
    cases h
    exact finH_v hQ hx hb hr hlk hE hw d12_13_144
  clear h
  by_cases n21c : x18 = (1 : Int32)
  ·
    replace h := (if_pos n21c).symm.trans hX
    refine W.eq (g2 := F0 m 11 ls [.int 1]) (by rw [n21c]) ?_
    refine lv_tableIn (tgt := 48) (off := 37) hx hb d12_13_11 (by decide) (by decide) rfl rfl ?_
    refine xq_aload_n (r := a1) hx hb d12_13_48 rfl (lv_at hl.1 1 rfl) ?_
    refine va_ldcS hx hb hown (hZ.2.2.1 ("PagedValues$Value", 90, "null", 20) (List.mem_of_getElem? (i := 8) rfl)) d12_13_49 ?_
    refine W.eq (g2 := F0 m 51 ls [.ref (Zd 20), va_rf a1]) rfl ?_
    obtain ⟨a22z, hn22, h⟩ := ob h
    have hn22 : a1 = some a22z := hn22
    refine W.eq (g2 := F0 m 51 ls [.ref (Zd 20), .ref a22z]) (by rw [hn22]; rfl) ?_
    obtain ⟨u9, ho, h⟩ := ob h
    obtain ⟨⟨x23, st24⟩, hc, h⟩ := ob h
    refine hV_q (ci := 2) (As := [.ref (Zd 20)]) (rest := []) ⟨hx, hb, hml, hown, hts⟩ (cc_StringBuilder_append_q l G Zd K a22z (some (Zd 20)) st x23 st24 hc) (kw_V (n := 1) hts k1015 k1012 k4 k1013 k1014 (by decide +kernel) ⟨(show 5 + 1 ≤ Dv + 8 by omega), (show 8 + (2 + 11) + 64 * (5) ≤ 64 * (Dv + 8) by omega)⟩) hE hw rfl rfl ho rfl hl.1.1 rfl (c1_8 c1_n (Nat.le_of_ble_eq_true rfl)) d12_13_51 (fun H locs cells slots hw => ?_)
    clear hc ho u9
    refine W.eq (g2 := F0 m 54 ls [va_rf x23]) rfl ?_
    refine lv_pop hx hb d12_13_54 (rf_cat _) ?_
    refine lv_goto (tgt := 144) hx hb d12_13_55 rfl ?_
    have e9 := Option.some.inj h
    subst e19
    have hl := lw_sub hl (l' := [(0, va_rf a0), (1, va_rf a1), (2, .int a2)]) [0, 1, 2] rfl
    exact hj _ _ _ _ _ hl hw
  replace hX := (if_neg n21c).symm.trans hX
  by_cases n26c : x18 = (2 : Int32)
  ·
    replace h := (if_pos n26c).symm.trans hX
    refine W.eq (g2 := F0 m 11 ls [.int 2]) (by rw [n26c]) ?_
    refine lv_tableIn (tgt := 58) (off := 47) hx hb d12_13_11 (by decide) (by decide) rfl rfl ?_
    refine xq_aload_n (r := a1) hx hb d12_13_58 rfl (lv_at hl.1 1 rfl) ?_
    refine va_ldcS hx hb hown (hZ.2.2.1 ("PagedValues$Value", 98, "true", 21) (List.mem_of_getElem? (i := 9) rfl)) d12_13_59 ?_
    refine W.eq (g2 := F0 m 61 ls [.ref (Zd 21), va_rf a1]) rfl ?_
    obtain ⟨a27z, hn27, h⟩ := ob h
    have hn27 : a1 = some a27z := hn27
    refine W.eq (g2 := F0 m 61 ls [.ref (Zd 21), .ref a27z]) (by rw [hn27]; rfl) ?_
    obtain ⟨u9, ho, h⟩ := ob h
    obtain ⟨⟨x28, st29⟩, hc, h⟩ := ob h
    refine hV_q (ci := 2) (As := [.ref (Zd 21)]) (rest := []) ⟨hx, hb, hml, hown, hts⟩ (cc_StringBuilder_append_q l G Zd K a27z (some (Zd 21)) st x28 st29 hc) (kw_V (n := 1) hts k1015 k1012 k4 k1013 k1014 (by decide +kernel) ⟨(show 5 + 1 ≤ Dv + 8 by omega), (show 8 + (2 + 11) + 64 * (5) ≤ 64 * (Dv + 8) by omega)⟩) hE hw rfl rfl ho rfl hl.1.1 rfl (c1_8 c1_n (Nat.le_of_ble_eq_true rfl)) d12_13_61 (fun H locs cells slots hw => ?_)
    clear hc ho u9
    refine W.eq (g2 := F0 m 64 ls [va_rf x28]) rfl ?_
    refine lv_pop hx hb d12_13_64 (rf_cat _) ?_
    refine lv_goto (tgt := 144) hx hb d12_13_65 rfl ?_
    have e9 := Option.some.inj h
    subst e19
    have hl := lw_sub hl (l' := [(0, va_rf a0), (1, va_rf a1), (2, .int a2)]) [0, 1, 2] rfl
    exact hj _ _ _ _ _ hl hw
  replace hX := (if_neg n26c).symm.trans hX
  by_cases n31c : x18 = (3 : Int32)
  ·
    replace h := (if_pos n31c).symm.trans hX
    refine W.eq (g2 := F0 m 11 ls [.int 3]) (by rw [n31c]) ?_
    refine lv_tableIn (tgt := 68) (off := 57) hx hb d12_13_11 (by decide) (by decide) rfl rfl ?_
    refine xq_aload_n (r := a1) hx hb d12_13_68 rfl (lv_at hl.1 1 rfl) ?_
    refine va_ldcS hx hb hown (hZ.2.2.1 ("PagedValues$Value", 100, "false", 22) (List.mem_of_getElem? (i := 10) rfl)) d12_13_69 ?_
    refine W.eq (g2 := F0 m 71 ls [.ref (Zd 22), va_rf a1]) rfl ?_
    obtain ⟨a32z, hn32, h⟩ := ob h
    have hn32 : a1 = some a32z := hn32
    refine W.eq (g2 := F0 m 71 ls [.ref (Zd 22), .ref a32z]) (by rw [hn32]; rfl) ?_
    obtain ⟨u9, ho, h⟩ := ob h
    obtain ⟨⟨x33, st34⟩, hc, h⟩ := ob h
    refine hV_q (ci := 2) (As := [.ref (Zd 22)]) (rest := []) ⟨hx, hb, hml, hown, hts⟩ (cc_StringBuilder_append_q l G Zd K a32z (some (Zd 22)) st x33 st34 hc) (kw_V (n := 1) hts k1015 k1012 k4 k1013 k1014 (by decide +kernel) ⟨(show 5 + 1 ≤ Dv + 8 by omega), (show 8 + (2 + 11) + 64 * (5) ≤ 64 * (Dv + 8) by omega)⟩) hE hw rfl rfl ho rfl hl.1.1 rfl (c1_8 c1_n (Nat.le_of_ble_eq_true rfl)) d12_13_71 (fun H locs cells slots hw => ?_)
    clear hc ho u9
    refine W.eq (g2 := F0 m 74 ls [va_rf x33]) rfl ?_
    refine lv_pop hx hb d12_13_74 (rf_cat _) ?_
    refine lv_goto (tgt := 144) hx hb d12_13_75 rfl ?_
    have e9 := Option.some.inj h
    subst e19
    have hl := lw_sub hl (l' := [(0, va_rf a0), (1, va_rf a1), (2, .int a2)]) [0, 1, 2] rfl
    exact hj _ _ _ _ _ hl hw
  replace hX := (if_neg n31c).symm.trans hX
  by_cases n36c : x18 = (4 : Int32)
  ·
    replace h := (if_pos n36c).symm.trans hX
    refine W.eq (g2 := F0 m 11 ls [.int 4]) (by rw [n36c]) ?_
    refine lv_tableIn (tgt := 78) (off := 67) hx hb d12_13_11 (by decide) (by decide) rfl rfl ?_
    refine xq_aload_n (r := a1) hx hb d12_13_78 rfl (lv_at hl.1 1 rfl) ?_
    refine xq_aload_n (r := a0) hx hb d12_13_79 rfl (lv_at hl.1 0 rfl) ?_
    refine W.eq (g2 := F0 m 80 ls [.ref a11z, va_rf a1]) (by rw [hn11]; rfl) ?_
    obtain ⟨x37, hr, h⟩ := ob h
    refine xg_i (ci := 11) (C := r_11) (T := f_11) (N := 6) (ref := "PagedValues$Value") hx hb hts (fun w h => List.mem_cons_of_mem _ (ly_11 w h)) hown hE hw rfl 1 (by decide) (hts _ (List.mem_cons_of_mem _ k352)) (fun _ h9 => h9) hr d12_13_80 ?_
    clear hr
    obtain ⟨a38z, hn38, h⟩ := ob h
    have hn38 : a1 = some a38z := hn38
    refine W.eq (g2 := F0 m 83 ls [.int x37, .ref a38z]) (by rw [hn38]; rfl) ?_
    obtain ⟨u9, ho, h⟩ := ob h
    obtain ⟨⟨x39, st40⟩, hc, h⟩ := ob h
    refine hV_q (ci := 2) (As := [.int x37]) (rest := []) ⟨hx, hb, hml, hown, hts⟩ (cc_StringBuilder_append_I l G Zd K a38z x37 st x39 st40 hc) (kw_V (n := 1) hts k1056 k1053 k4 k1054 k1055 (by decide +kernel) ⟨(show 5 + 1 ≤ Dv + 8 by omega), (show 8 + (2 + 11) + 64 * (5) ≤ 64 * (Dv + 8) by omega)⟩) hE hw rfl rfl ho rfl hl.1.1 rfl (c1_8 c1_n (Nat.le_of_ble_eq_true rfl)) d12_13_83 (fun H locs cells slots hw => ?_)
    clear hc ho u9
    refine W.eq (g2 := F0 m 86 ls [va_rf x39]) rfl ?_
    refine lv_pop hx hb d12_13_86 (rf_cat _) ?_
    refine lv_goto (tgt := 144) hx hb d12_13_87 rfl ?_
    have e9 := Option.some.inj h
    subst e19
    have hl := lw_sub hl (l' := [(0, va_rf a0), (1, va_rf a1), (2, .int a2)]) [0, 1, 2] rfl
    exact hj _ _ _ _ _ hl hw
  replace hX := (if_neg n36c).symm.trans hX
  by_cases n42c : x18 = (5 : Int32)
  ·
    replace h := (if_pos n42c).symm.trans hX
    refine W.eq (g2 := F0 m 11 ls [.int 5]) (by rw [n42c]) ?_
    refine lv_tableIn (tgt := 90) (off := 79) hx hb d12_13_11 (by decide) (by decide) rfl rfl ?_
    refine xq_aload_n (r := a0) hx hb d12_13_90 rfl (lv_at hl.1 0 rfl) ?_
    refine W.eq (g2 := F0 m 91 ls [.ref a11z]) (by rw [hn11]; rfl) ?_
    obtain ⟨x43, hr, h⟩ := ob h
    refine xg_q (ci := 11) (C := r_11) (T := f_11) (N := 6) (ref := "PagedValues$Value") hx hb hts (fun w h => List.mem_cons_of_mem _ (ly_11 w h)) hown hE hw rfl 2 (by decide) (hts _ (List.mem_cons_of_mem _ k353)) (fun _ h9 => h9) hr d12_13_91 ?_
    clear hr
    refine xq_aload_n (r := a1) hx hb d12_13_94 rfl (lv_at hl.1 1 rfl) ?_
    obtain ⟨st45, hc, h⟩ := ob h
    refine hS_v (As := [va_rf x43, va_rf a1]) (rest := []) ⟨hx, hb, hml, hown, hts⟩ (cc_Value_writeString l G Zd K x43 a1 st st45 hc) (kw_S (n := 2) hts k1080 k1078 k18 k1079 (by decide +kernel) ⟨(show 6 + 1 ≤ Dv + 8 by omega), (show 8 + (4 + 11) + 64 * (6) ≤ 64 * (Dv + 8) by omega)⟩) hE hw rfl hl.1.1 rfl (c1_8 c1_n (Nat.le_of_ble_eq_true rfl)) d12_13_95 (fun H locs cells slots hw => ?_)
    clear hc
    refine W.eq (g2 := F0 m 98 ls []) rfl ?_
    refine lv_goto (tgt := 144) hx hb d12_13_98 rfl ?_
    have e9 := Option.some.inj h
    subst e19
    have hl := lw_sub hl (l' := [(0, va_rf a0), (1, va_rf a1), (2, .int a2)]) [0, 1, 2] rfl
    exact hj _ _ _ _ _ hl hw
  replace hX := (if_neg n42c).symm.trans hX
  by_cases n47c : x18 = (6 : Int32)
  ·
    replace h := (if_pos n47c).symm.trans hX
    refine W.eq (g2 := F0 m 11 ls [.int 6]) (by rw [n47c]) ?_
    refine lv_tableIn (tgt := 101) (off := 90) hx hb d12_13_11 (by decide) (by decide) rfl rfl ?_
    refine xq_aload_n (r := a1) hx hb d12_13_101 rfl (lv_at hl.1 1 rfl) ?_
    refine lv_bipush (v := 91) hx hb d12_13_102 (by decide) ?_
    obtain ⟨a48z, hn48, h⟩ := ob h
    have hn48 : a1 = some a48z := hn48
    refine W.eq (g2 := F0 m 104 ls [.int 91, .ref a48z]) (by rw [hn48]; rfl) ?_
    obtain ⟨u9, ho, h⟩ := ob h
    obtain ⟨⟨x49, st50⟩, hc, h⟩ := ob h
    refine hV_q (ci := 2) (As := [.int 91]) (rest := []) ⟨hx, hb, hml, hown, hts⟩ (cc_StringBuilder_append_C l G Zd K a48z (91 : Int32) st x49 st50 hc) (kw_V (n := 1) hts k545 k1081 k4 k543 k544 (by decide +kernel) ⟨(show 5 + 1 ≤ Dv + 8 by omega), (show 8 + (2 + 11) + 64 * (5) ≤ 64 * (Dv + 8) by omega)⟩) hE hw rfl rfl ho rfl hl.1.1 rfl (c1_8 c1_n (Nat.le_of_ble_eq_true rfl)) d12_13_104 (fun H locs cells slots hw => ?_)
    clear hc ho u9
    refine W.eq (g2 := F0 m 107 ls [va_rf x49]) rfl ?_
    refine lv_pop hx hb d12_13_107 (rf_cat _) ?_
    refine xq_aload_n (r := a0) hx hb d12_13_108 rfl (lv_at hl.1 0 rfl) ?_
    refine xq_aload_n (r := a1) hx hb d12_13_109 rfl (lv_at hl.1 1 rfl) ?_
    refine lv_iload_n hx hb d12_13_110 rfl (lv_at hl.1 2 rfl) ?_
    obtain ⟨st53, hc, h⟩ := ob h
    refine hS_v (As := [va_rf a0, va_rf a1, .int a2]) (rest := []) ⟨hx, hb, hml, hown, hts⟩ (cc_Value_writeParts l G Zd K fv Dv hv a0 a1 a2 st50 st53 hc) (kw_S (n := 3) hts k1086 k1084 k18 k1085 (by decide +kernel) ⟨(show Dv + 7 + 1 ≤ Dv + 8 by omega), (show 8 + (4 + 11) + 64 * (Dv + 7) ≤ 64 * (Dv + 8) by omega)⟩) hE hw rfl hl.1.1 rfl (c1_8 c1_n (Nat.le_of_ble_eq_true rfl)) d12_13_111 (fun H locs cells slots hw => ?_)
    clear hc
    refine W.eq (g2 := F0 m 114 ls []) rfl ?_
    refine xq_aload_n (r := a1) hx hb d12_13_114 rfl (lv_at hl.1 1 rfl) ?_
    refine lv_bipush (v := 93) hx hb d12_13_115 (by decide) ?_
    refine W.eq (g2 := F0 m 117 ls [.int 93, .ref a48z]) (by rw [hn48]; rfl) ?_
    obtain ⟨u9, ho, h⟩ := ob h
    obtain ⟨⟨x55, st56⟩, hc, h⟩ := ob h
    refine hV_q (ci := 2) (As := [.int 93]) (rest := []) ⟨hx, hb, hml, hown, hts⟩ (cc_StringBuilder_append_C l G Zd K a48z (93 : Int32) st53 x55 st56 hc) (kw_V (n := 1) hts k545 k1081 k4 k543 k544 (by decide +kernel) ⟨(show 5 + 1 ≤ Dv + 8 by omega), (show 8 + (2 + 11) + 64 * (5) ≤ 64 * (Dv + 8) by omega)⟩) hE hw rfl rfl ho rfl hl.1.1 rfl (c1_8 c1_n (Nat.le_of_ble_eq_true rfl)) d12_13_117 (fun H locs cells slots hw => ?_)
    clear hc ho u9
    refine W.eq (g2 := F0 m 120 ls [va_rf x55]) rfl ?_
    refine lv_pop hx hb d12_13_120 (rf_cat _) ?_
    refine lv_goto (tgt := 144) hx hb d12_13_121 rfl ?_
    have e9 := Option.some.inj h
    subst e19
    have hl := lw_sub hl (l' := [(0, va_rf a0), (1, va_rf a1), (2, .int a2)]) [0, 1, 2] rfl
    exact hj _ _ _ _ _ hl hw
  replace hX := (if_neg n47c).symm.trans hX
  refine lv_tableOut (tgt := 124) hx hb d12_13_11 (by have L9 := lits; have fn21c := n21c; simp only [Int32.lt_iff_toInt_lt, Int32.le_iff_toInt_le, ← Int32.toInt_inj, ne_eq, Decidable.not_not] at fn21c; have fn26c := n26c; simp only [Int32.lt_iff_toInt_lt, Int32.le_iff_toInt_le, ← Int32.toInt_inj, ne_eq, Decidable.not_not] at fn26c; have fn31c := n31c; simp only [Int32.lt_iff_toInt_lt, Int32.le_iff_toInt_le, ← Int32.toInt_inj, ne_eq, Decidable.not_not] at fn31c; have fn36c := n36c; simp only [Int32.lt_iff_toInt_lt, Int32.le_iff_toInt_le, ← Int32.toInt_inj, ne_eq, Decidable.not_not] at fn36c; have fn42c := n42c; simp only [Int32.lt_iff_toInt_lt, Int32.le_iff_toInt_le, ← Int32.toInt_inj, ne_eq, Decidable.not_not] at fn42c; have fn47c := n47c; simp only [Int32.lt_iff_toInt_lt, Int32.le_iff_toInt_le, ← Int32.toInt_inj, ne_eq, Decidable.not_not] at fn47c; omega) rfl ?_
  have h := hX
  refine xq_aload_n (r := a1) hx hb d12_13_124 rfl (lv_at hl.1 1 rfl) ?_
  refine lv_bipush (v := 123) hx hb d12_13_125 (by decide) ?_
  obtain ⟨a58z, hn58, h⟩ := ob h
  have hn58 : a1 = some a58z := hn58
  refine W.eq (g2 := F0 m 127 ls [.int 123, .ref a58z]) (by rw [hn58]; rfl) ?_
  obtain ⟨u9, ho, h⟩ := ob h
  obtain ⟨⟨x59, st60⟩, hc, h⟩ := ob h
  refine hV_q (ci := 2) (As := [.int 123]) (rest := []) ⟨hx, hb, hml, hown, hts⟩ (cc_StringBuilder_append_C l G Zd K a58z (123 : Int32) st x59 st60 hc) (kw_V (n := 1) hts k545 k1081 k4 k543 k544 (by decide +kernel) ⟨(show 5 + 1 ≤ Dv + 8 by omega), (show 8 + (2 + 11) + 64 * (5) ≤ 64 * (Dv + 8) by omega)⟩) hE hw rfl rfl ho rfl hl.1.1 rfl (c1_8 c1_n (Nat.le_of_ble_eq_true rfl)) d12_13_127 (fun H locs cells slots hw => ?_)
  clear hc ho u9
  refine W.eq (g2 := F0 m 130 ls [va_rf x59]) rfl ?_
  refine lv_pop hx hb d12_13_130 (rf_cat _) ?_
  refine xq_aload_n (r := a0) hx hb d12_13_131 rfl (lv_at hl.1 0 rfl) ?_
  refine xq_aload_n (r := a1) hx hb d12_13_132 rfl (lv_at hl.1 1 rfl) ?_
  refine lv_iload_n hx hb d12_13_133 rfl (lv_at hl.1 2 rfl) ?_
  obtain ⟨st63, hc, h⟩ := ob h
  refine hS_v (As := [va_rf a0, va_rf a1, .int a2]) (rest := []) ⟨hx, hb, hml, hown, hts⟩ (cc_Value_writeParts l G Zd K fv Dv hv a0 a1 a2 st60 st63 hc) (kw_S (n := 3) hts k1086 k1084 k18 k1085 (by decide +kernel) ⟨(show Dv + 7 + 1 ≤ Dv + 8 by omega), (show 8 + (4 + 11) + 64 * (Dv + 7) ≤ 64 * (Dv + 8) by omega)⟩) hE hw rfl hl.1.1 rfl (c1_8 c1_n (Nat.le_of_ble_eq_true rfl)) d12_13_134 (fun H locs cells slots hw => ?_)
  clear hc
  refine W.eq (g2 := F0 m 137 ls []) rfl ?_
  refine xq_aload_n (r := a1) hx hb d12_13_137 rfl (lv_at hl.1 1 rfl) ?_
  refine lv_bipush (v := 125) hx hb d12_13_138 (by decide) ?_
  refine W.eq (g2 := F0 m 140 ls [.int 125, .ref a58z]) (by rw [hn58]; rfl) ?_
  obtain ⟨u9, ho, h⟩ := ob h
  obtain ⟨⟨x65, st66⟩, hc, h⟩ := ob h
  refine hV_q (ci := 2) (As := [.int 125]) (rest := []) ⟨hx, hb, hml, hown, hts⟩ (cc_StringBuilder_append_C l G Zd K a58z (125 : Int32) st63 x65 st66 hc) (kw_V (n := 1) hts k545 k1081 k4 k543 k544 (by decide +kernel) ⟨(show 5 + 1 ≤ Dv + 8 by omega), (show 8 + (2 + 11) + 64 * (5) ≤ 64 * (Dv + 8) by omega)⟩) hE hw rfl rfl ho rfl hl.1.1 rfl (c1_8 c1_n (Nat.le_of_ble_eq_true rfl)) d12_13_140 (fun H locs cells slots hw => ?_)
  clear hc ho u9
  refine W.eq (g2 := F0 m 143 ls [va_rf x65]) rfl ?_
  refine lv_pop hx hb d12_13_143 (rf_cat _) ?_
  have e9 := Option.some.inj h
  subst e19
  have hl := lw_sub hl (l' := [(0, va_rf a0), (1, va_rf a1), (2, .int a2)]) [0, 1, 2] rfl
  exact hj _ _ _ _ _ hl hw
