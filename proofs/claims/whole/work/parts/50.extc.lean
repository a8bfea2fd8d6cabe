def c_Store_draftHalf_l1 (Zd : Nat → Nat) (K : KE) (o : Nat) (a0 : Int32) (a1 : Int32) (a2 : Option Nat) : Nat → (Int32 × Int32 × CS) → Option (Int32 × Int32 × CS)
  | 0, _ => none
  | n9 + 1, e9 => if (4 : Int32) ≤ e9.2.1 then (some (e9.1, e9.2.1, e9.2.2)) else ((some (a0 * (4 : Int32))).bind fun y19 => (some (y19 + e9.2.1)).bind fun y20 => (gQ K e9.2.2 o 9 5).bind fun x21 => (if y20 = a1 then (some a2) else ((isO K e9.2.2 o 9).bind fun _ => (c_Store_currentRoot Zd K o e9.2.2).bind fun x35 => (isO K e9.2.2 o 9).bind fun _ => (c_Store_document Zd K o x35 y20 e9.2.2).bind fun x38 => some x38)).bind fun e22 => x21.bind fun a24z => (wQ e9.2.2 a24z 5 11 e9.2.1 e22).bind fun st25 => (if e9.1 = (0 : Int32) then ((gQ K st25 o 9 5).bind fun x30 => x30.bind fun a31z => (rQ K st25 a31z 5 e9.2.1).bind fun x32 => nl x32 (some (0 : Int32)) (fun a33z => some (1 : Int32))) else (some (1 : Int32))).bind fun e26 => (some (e9.2.1 + 1)).bind fun y28 => c_Store_draftHalf_l1 Zd K o a0 a1 a2 n9 (e26, y28, st25))
theorem c_Store_draftHalf_l1_s (Zd : Nat → Nat) (K : KE) (o : Nat) (a0 : Int32) (a1 : Int32) (a2 : Option Nat) (n9 : Nat) (e9 : Int32 × Int32 × CS) : c_Store_draftHalf_l1 Zd K o a0 a1 a2 (n9 + 1) e9 = (if (4 : Int32) ≤ e9.2.1 then (some (e9.1, e9.2.1, e9.2.2)) else ((some (a0 * (4 : Int32))).bind fun y19 => (some (y19 + e9.2.1)).bind fun y20 => (gQ K e9.2.2 o 9 5).bind fun x21 => (if y20 = a1 then (some a2) else ((isO K e9.2.2 o 9).bind fun _ => (c_Store_currentRoot Zd K o e9.2.2).bind fun x35 => (isO K e9.2.2 o 9).bind fun _ => (c_Store_document Zd K o x35 y20 e9.2.2).bind fun x38 => some x38)).bind fun e22 => x21.bind fun a24z => (wQ e9.2.2 a24z 5 11 e9.2.1 e22).bind fun st25 => (if e9.1 = (0 : Int32) then ((gQ K st25 o 9 5).bind fun x30 => x30.bind fun a31z => (rQ K st25 a31z 5 e9.2.1).bind fun x32 => nl x32 (some (0 : Int32)) (fun a33z => some (1 : Int32))) else (some (1 : Int32))).bind fun e26 => (some (e9.2.1 + 1)).bind fun y28 => c_Store_draftHalf_l1 Zd K o a0 a1 a2 n9 (e26, y28, st25))) := rfl
def c_Store_draftHalf (Zd : Nat → Nat) (K : KE) (o : Nat) (a0 : Int32) (a1 : Int32) (a2 : Option Nat) (st : CS) : Option (Int32 × CS) := (c_Store_draftHalf_l1 Zd K o a0 a1 a2 4096 ((0 : Int32), (0 : Int32), st)).bind fun e11 => (bz e11.1).bind fun _ => some (e11.1, e11.2.2)
set_option maxHeartbeats 4000000 in
set_option maxRecDepth 100000 in
theorem cc_Store_draftHalf (l : Launch) (G : Gk) (Zd : Nat → Nat) (K : KE) (o : Nat) (a0 : Int32) (a1 : Int32) (a2 : Option Nat) (st : CS) (r0 : Int32) (st0 : CS) (hm : c_Store_draftHalf Zd K o a0 a1 a2 st = some (r0, st0)) : CT l y10_17 prog_10_method_17_code 7 (some .boolean) G Zd K (2) [.ref o, .int a0, .int a1, va_rf a2] st (hI G Zd r0 st0) := by
  refine goH (d := 2) (y := y10_17) (cc := prog_10_method_17_code) (maxL := 7) (ret := (some .boolean)) (av := [.ref o, .int a0, .int a1, va_rf a2]) (Qc := hI G Zd r0 st0) "PagedValues$Store" rfl (by decide) (c1_c rfl (c1_c rfl (c1_c rfl (c1_c (rf_cat _) c1_n)))) (Nat.le_of_ble_eq_true rfl) ?_
  intro p e s m below meth c ls A args Q hQ hx hb hr hlk hml hown hts hin hl hE hw
  have hl : lw ls 7 [(0, .ref o), (1, .int a0), (2, .int a1), (3, va_rf a2)] := hl
  have hZ := hE.2.2.1
  have h := hm
  clear hm
  refine lv_iconst (v := 0) hx hb d10_17_0 (by decide) ?_
  refine xt_istore (x := 0) (lv' := [(4, .int 0), (0, .ref o), (1, .int a0), (2, .int a1), (3, va_rf a2)]) hx hb d10_17_1 hl (by decide) rfl (fun ls hl => ?_)
  refine lv_iconst (v := 0) hx hb d10_17_3 (by decide) ?_
  refine xt_istore (x := 0) (lv' := [(5, .int 0), (4, .int 0), (0, .ref o), (1, .int a0), (2, .int a1), (3, va_rf a2)]) hx hb d10_17_4 hl (by decide) rfl (fun ls hl => ?_)
  obtain ⟨e11, hX, hrest⟩ := ob h
  clear h
  have hj : ∀ (v15 : Int32) (v16 : Int32) (v17 : CS), e11 = (v15, v16, v17) → ∀ (H : Heap) (locs : List Loc) (cells slots : Nat) (ls : Array Slot), lw ls 7 [(0, .ref o), (1, .int a0), (2, .int a1), (3, va_rf a2), (4, .int v15), (5, .int v16)] → wsH G Zd A s v17 H locs → W p l e (rmH Zd (2) st.1) s m args below meth c H locs cells slots Q (F0 m 75 ls []) := by
    intro v15 v16 v17 he H locs cells slots ls hl hw
    subst e11
    have h := hrest
    clear hrest
    refine lv_iload hx hb d10_17_75 (lv_at hl.1 4 rfl) ?_
    obtain ⟨u9, hr9, h⟩ := ob h
    have hi := bz_some hr9
    clear hr9 u9
    cases h
    exact finH_z hQ hx hb hr hlk (nar01 hi) hE hw d10_17_77
  have hloop : ∀ (n9 : Nat) (v12 : Int32) (v13 : Int32) (v14 : CS), c_Store_draftHalf_l1 Zd K o a0 a1 a2 n9 (v12, v13, v14) = some e11 → ∀ (H : Heap) (locs : List Loc) (cells slots : Nat) (ls : Array Slot), lw ls 7 [(0, .ref o), (1, .int a0), (2, .int a1), (3, va_rf a2), (4, .int v12), (5, .int v13)] → wsH G Zd A s v14 H locs → W p l e (rmH Zd (2) st.1) s m args below meth c H locs cells slots Q (F0 m 6 ls []) := by
    intro n9
    induction n9 with
    | zero =>
      intro v12 v13 v14 h
      cases h
    | succ n9 ih =>
      intro v12 v13 v14 h H locs cells slots ls hl hw
      replace h := (c_Store_draftHalf_l1_s Zd K o a0 a1 a2 n9 (v12, v13, v14)).symm.trans h
      refine lv_iload hx hb d10_17_6 (lv_at hl.1 5 rfl) ?_
      refine lv_iconst (v := 4) hx hb d10_17_8 (by decide) ?_
      refine lv_icmp_ge (tgt := 75) hx hb d10_17_9 rfl (fun c18 => ?_) (fun c18 => ?_)
      ·
        replace h := (if_pos c18).symm.trans h
        have e9 := Option.some.inj h
        subst e11
        have hl := lw_sub hl (l' := [(0, .ref o), (1, .int a0), (2, .int a1), (3, va_rf a2), (4, .int v12), (5, .int v13)]) [0, 1, 2, 3, 4, 5] rfl
        exact hj _ _ _ rfl _ _ _ _ _ hl hw
      ·
        replace h := (if_neg c18).symm.trans h
        refine lv_iload_n hx hb d10_17_12 rfl (lv_at hl.1 1 rfl) ?_
        refine lv_iconst (v := 4) hx hb d10_17_13 (by decide) ?_
        refine lv_imul hx hb d10_17_14 ?_
        obtain ⟨y19, hr, h⟩ := ob h
        refine lv_topi (fun y9 ey => ?_)
        have e9 := ey.trans (Option.some.inj hr)
        clear ey
        subst y9
        clear hr
        refine lv_iload hx hb d10_17_15 (lv_at hl.1 5 rfl) ?_
        refine lv_iadd hx hb d10_17_17 ?_
        obtain ⟨y20, hr, h⟩ := ob h
        refine lv_topi (fun y9 ey => ?_)
        have e9 := ey.trans (Option.some.inj hr)
        clear ey
        subst y9
        clear hr
        refine xt_istore (x := y20) (lv' := [(6, .int y20), (0, .ref o), (1, .int a0), (2, .int a1), (3, va_rf a2), (4, .int v12), (5, .int v13)]) hx hb d10_17_18 hl (by decide) rfl (fun ls hl => ?_)
        refine lv_aload_n hx hb d10_17_20 rfl (lv_at hl.1 1 rfl) ?_
        obtain ⟨x21, hr, h⟩ := ob h
        refine xg_q (ci := 9) (C := r_9) (T := f_9) (N := 9) (ref := "PagedValues$Store") hx hb hts (fun w h => List.mem_cons_of_mem _ (ly_9 w h)) hown hE hw rfl 5 (by decide) (hts _ (List.mem_cons_of_mem _ k242)) (fun _ h9 => h9) hr d10_17_21 ?_
        clear hr
        refine lv_iload hx hb d10_17_24 (lv_at hl.1 6 rfl) ?_
        refine lv_iload hx hb d10_17_26 (lv_at hl.1 0 rfl) ?_
        refine lv_iload_n hx hb d10_17_28 rfl (lv_at hl.1 3 rfl) ?_
        obtain ⟨e22, hX, h⟩ := ob h
        have hj : ∀ (H : Heap) (locs : List Loc) (cells slots : Nat) (ls : Array Slot), lw ls 7 [(0, .ref o), (1, .int a0), (2, .int a1), (3, va_rf a2), (4, .int v12), (5, .int v13), (6, .int y20)] → wsH G Zd A s v14 H locs → W p l e (rmH Zd (2) st.1) s m args below meth c H locs cells slots Q (F0 m 46 ls [va_rf e22, .int v13, va_rf x21]) := by
          intro H locs cells slots ls hl hw
          obtain ⟨a24z, hn24, h⟩ := ob h
          have hn24 : x21 = some a24z := hn24
          refine W.eq (g2 := F0 m 46 ls [va_rf e22, .int v13, .ref a24z]) (by rw [hn24]; rfl) ?_
          obtain ⟨st25, hr, h⟩ := ob h
          refine xs_q (ci := 11) (t := 5) hx hb hE hw rfl rfl (i := v13) (v := e22) hr d10_17_46 (fun H locs hw => ?_)
          clear hr
          refine lv_iload hx hb d10_17_47 (lv_at hl.1 4 rfl) ?_
          obtain ⟨e26, hX, h⟩ := ob h
          have hj : ∀ (H : Heap) (locs : List Loc) (cells slots : Nat) (ls : Array Slot), lw ls 7 [(0, .ref o), (1, .int a0), (2, .int a1), (3, va_rf a2), (4, .int v12), (5, .int v13), (6, .int y20)] → wsH G Zd A s st25 H locs → W p l e (rmH Zd (2) st.1) s m args below meth c H locs cells slots Q (F0 m 67 ls [.int e26]) := by
            intro H locs cells slots ls hl hw
            refine xt_istore (x := e26) (lv' := [(4, .int e26), (0, .ref o), (1, .int a0), (2, .int a1), (3, va_rf a2), (5, .int v13), (6, .int y20)]) hx hb d10_17_67 hl (by decide) rfl (fun ls hl => ?_)
            obtain ⟨y28, hr, h⟩ := ob h
            refine xt_iinc (k := 5) (v := y28) (lv' := [(5, .int y28), (4, .int e26), (0, .ref o), (1, .int a0), (2, .int a1), (3, va_rf a2), (6, .int y20)]) hx hb d10_17_69 hl rfl hr (by decide) rfl (fun ls hl => ?_)
            clear hr
            refine lv_goto (tgt := 6) hx hb d10_17_72 rfl ?_
            have hl := lw_sub hl (l' := [(0, .ref o), (1, .int a0), (2, .int a1), (3, va_rf a2), (4, .int e26), (5, .int y28)]) [2, 3, 4, 5, 1, 0] rfl
            exact ih _ _ _ h _ _ _ _ _ hl hw
          clear h
          refine lv_if_ne (tgt := 62) hx hb d10_17_49 rfl (fun c29 => ?_) (fun c29 => ?_)
          ·
            replace h := (if_neg c29).symm.trans hX
            refine lv_iconst (v := 1) hx hb d10_17_62 (by decide) ?_
            refine lv_goto (tgt := 67) hx hb d10_17_63 rfl ?_
            have e9 := Option.some.inj h
            subst e26
            have hl := lw_sub hl (l' := [(0, .ref o), (1, .int a0), (2, .int a1), (3, va_rf a2), (4, .int v12), (5, .int v13), (6, .int y20)]) [0, 1, 2, 3, 4, 5, 6] rfl
            exact hj _ _ _ _ _ hl hw
          ·
            replace h := (if_pos c29).symm.trans hX
            refine lv_aload_n hx hb d10_17_52 rfl (lv_at hl.1 0 rfl) ?_
            obtain ⟨x30, hr, h⟩ := ob h
            refine xg_q (ci := 9) (C := r_9) (T := f_9) (N := 9) (ref := "PagedValues$Store") hx hb hts (fun w h => List.mem_cons_of_mem _ (ly_9 w h)) hown hE hw rfl 5 (by decide) (hts _ (List.mem_cons_of_mem _ k242)) (fun _ h9 => h9) hr d10_17_53 ?_
            clear hr
            refine lv_iload hx hb d10_17_56 (lv_at hl.1 5 rfl) ?_
            obtain ⟨a31z, hn31, h⟩ := ob h
            have hn31 : x30 = some a31z := hn31
            refine W.eq (g2 := F0 m 58 ls [.int v13, .ref a31z]) (by rw [hn31]; rfl) ?_
            obtain ⟨x32, hr, h⟩ := ob h
            refine xa_q hx hb hE hw (t := 5) rfl (i := v13) hr d10_17_58 ?_
            clear hr
            rcases nl_case h with ⟨hn33, h⟩ | ⟨a33z, hn33, h⟩
            ·
              have hn33 : x32 = none := hn33
              refine W.eq (g2 := F0 m 59 ls [.null]) (by rw [hn33]; rfl) ?_
              refine lv_ifnullN (tgt := 66) hx hb d10_17_59 rfl ?_
              refine lv_iconst (v := 0) hx hb d10_17_66 (by decide) ?_
              have e9 := Option.some.inj h
              subst e26
              have hl := lw_sub hl (l' := [(0, .ref o), (1, .int a0), (2, .int a1), (3, va_rf a2), (4, .int v12), (5, .int v13), (6, .int y20)]) [0, 1, 2, 3, 4, 5, 6] rfl
              exact hj _ _ _ _ _ hl hw
            ·
              have hn33 : x32 = some a33z := hn33
              refine W.eq (g2 := F0 m 59 ls [.ref a33z]) (by rw [hn33]; rfl) ?_
              refine lv_ifnull hx hb d10_17_59 ?_
              refine lv_iconst (v := 1) hx hb d10_17_62 (by decide) ?_
              refine lv_goto (tgt := 67) hx hb d10_17_63 rfl ?_
              have e9 := Option.some.inj h
              subst e26
              have hl := lw_sub hl (l' := [(0, .ref o), (1, .int a0), (2, .int a1), (3, va_rf a2), (4, .int v12), (5, .int v13), (6, .int y20)]) [0, 1, 2, 3, 4, 5, 6] rfl
              exact hj _ _ _ _ _ hl hw
        clear h
        refine lv_icmp_ne (tgt := 36) hx hb d10_17_29 rfl (fun c34 => ?_) (fun c34 => ?_)
        ·
          replace h := (if_neg c34).symm.trans hX
          refine lv_aload_n hx hb d10_17_36 rfl (lv_at hl.1 1 rfl) ?_
          refine lv_aload_n hx hb d10_17_37 rfl (lv_at hl.1 1 rfl) ?_
          obtain ⟨u9, ho, h⟩ := ob h
          obtain ⟨x35, hc, h⟩ := ob h
          refine hV_i (ci := 9) (As := []) (rest := [.ref o, .int v13, va_rf x21]) ⟨hx, hb, hml, hown, hts⟩ (cc_Store_currentRoot l G Zd K o v14 x35 hc) (kw_V (n := 0) hts k686 k683 k13 k684 k685 (by decide +kernel) ⟨Nat.le_of_ble_eq_true rfl, Nat.le_of_ble_eq_true rfl⟩) hE hw rfl rfl ho rfl hl.1.1 rfl (c1_8 (c1_c rfl (c1_c rfl (c1_c (rf_cat _) c1_n))) (Nat.le_of_ble_eq_true rfl)) d10_17_38 (fun H locs cells slots hw => ?_)
          clear hc ho u9
          refine W.eq (g2 := F0 m 41 ls [.int x35, .ref o, .int v13, va_rf x21]) rfl ?_
          refine lv_iload hx hb d10_17_41 (lv_at hl.1 0 rfl) ?_
          obtain ⟨u9, ho, h⟩ := ob h
          obtain ⟨x38, hc, h⟩ := ob h
          refine hV_q (ci := 9) (As := [.int x35, .int y20]) (rest := [.int v13, va_rf x21]) ⟨hx, hb, hml, hown, hts⟩ (cc_Store_document l G Zd K o x35 y20 v14 x38 hc) (kw_V (n := 2) hts k702 k699 k13 k700 k701 (by decide +kernel) ⟨Nat.le_of_ble_eq_true rfl, Nat.le_of_ble_eq_true rfl⟩) hE hw rfl rfl ho rfl hl.1.1 rfl (c1_8 (c1_c rfl (c1_c (rf_cat _) c1_n)) (Nat.le_of_ble_eq_true rfl)) d10_17_43 (fun H locs cells slots hw => ?_)
          clear hc ho u9
          refine W.eq (g2 := F0 m 46 ls [va_rf x38, .int v13, va_rf x21]) rfl ?_
          have e9 := Option.some.inj h
          subst e22
          have hl := lw_sub hl (l' := [(0, .ref o), (1, .int a0), (2, .int a1), (3, va_rf a2), (4, .int v12), (5, .int v13), (6, .int y20)]) [1, 2, 3, 4, 5, 6, 0] rfl
          exact hj _ _ _ _ _ hl hw
        ·
          replace h := (if_pos c34).symm.trans hX
          refine xq_aload_n (r := a2) hx hb d10_17_32 rfl (lv_at hl.1 4 rfl) ?_
          refine lv_goto (tgt := 46) hx hb d10_17_33 rfl ?_
          have e9 := Option.some.inj h
          subst e22
          have hl := lw_sub hl (l' := [(0, .ref o), (1, .int a0), (2, .int a1), (3, va_rf a2), (4, .int v12), (5, .int v13), (6, .int y20)]) [1, 2, 3, 4, 5, 6, 0] rfl
          exact hj _ _ _ _ _ hl hw
  have hl := lw_sub hl (l' := [(0, .ref o), (1, .int a0), (2, .int a1), (3, va_rf a2), (4, .int 0), (5, .int 0)]) [2, 3, 4, 5, 1, 0] rfl
  exact hloop _ _ _ _ hX _ _ _ _ _ hl hw
def c_Store_useUnder (Zd : Nat → Nat) (K : KE) (o : Nat) (a0 : Int32) (a1 : Int32) (st : CS) : Option (Int32) := if a0 = a1 then (some (1 : Int32)) else ((isO K st o 9).bind fun _ => (c_Store_leafOf Zd K o a0 (0 : Int32) st).bind fun x12 => (if x12 = a1 then (some (2 : Int32)) else ((isO K st o 9).bind fun _ => (c_Store_leafOf Zd K o a0 (1 : Int32) st).bind fun x18 => if x18 = a1 then (some (2 : Int32)) else (some (0 : Int32)))).bind fun e15 => some e15)
set_option maxHeartbeats 4000000 in
set_option maxRecDepth 100000 in
theorem cc_Store_useUnder (l : Launch) (G : Gk) (Zd : Nat → Nat) (K : KE) (o : Nat) (a0 : Int32) (a1 : Int32) (st : CS) (r0 : Int32) (hm : c_Store_useUnder Zd K o a0 a1 st = some r0) : CT l y10_14 prog_10_method_14_code 3 (some .int) G Zd K (1) [.ref o, .int a0, .int a1] st (hI G Zd r0 st) := by
  refine goH (d := 1) (y := y10_14) (cc := prog_10_method_14_code) (maxL := 3) (ret := (some .int)) (av := [.ref o, .int a0, .int a1]) (Qc := hI G Zd r0 st) "PagedValues$Store" rfl (by decide) (c1_c rfl (c1_c rfl (c1_c rfl c1_n))) (Nat.le_of_ble_eq_true rfl) ?_
  intro p e s m below meth c ls A args Q hQ hx hb hr hlk hml hown hts hin hl hE hw
  have hl : lw ls 3 [(0, .ref o), (1, .int a0), (2, .int a1)] := hl
  have hZ := hE.2.2.1
  have h := hm
  clear hm
  refine lv_iload_n hx hb d10_14_0 rfl (lv_at hl.1 1 rfl) ?_
  refine lv_iload_n hx hb d10_14_1 rfl (lv_at hl.1 2 rfl) ?_
  refine lv_icmp_ne (tgt := 7) hx hb d10_14_2 rfl (fun c11 => ?_) (fun c11 => ?_)
  ·
    replace h := (if_neg c11).symm.trans h
    refine lv_aload_n hx hb d10_14_7 rfl (lv_at hl.1 0 rfl) ?_
    refine lv_iload_n hx hb d10_14_8 rfl (lv_at hl.1 1 rfl) ?_
    refine lv_iconst (v := 0) hx hb d10_14_9 (by decide) ?_
    obtain ⟨u9, ho, h⟩ := ob h
    obtain ⟨x12, hc, h⟩ := ob h
    refine hV_i (ci := 9) (As := [.int a0, .int 0]) (rest := []) ⟨hx, hb, hml, hown, hts⟩ (cc_Store_leafOf l G Zd K o a0 (0 : Int32) st x12 hc) (kw_V (n := 2) hts k694 k691 k13 k693 ks8 (by decide +kernel) ⟨Nat.le_of_ble_eq_true rfl, Nat.le_of_ble_eq_true rfl⟩) hE hw rfl rfl ho rfl hl.1.1 rfl (c1_8 c1_n (Nat.le_of_ble_eq_true rfl)) d10_14_10 (fun H locs cells slots hw => ?_)
    clear hc ho u9
    refine W.eq (g2 := F0 m 13 ls [.int x12]) rfl ?_
    refine lv_iload_n hx hb d10_14_13 rfl (lv_at hl.1 2 rfl) ?_
    obtain ⟨e15, hX, h⟩ := ob h
    have hj : ∀ (H : Heap) (locs : List Loc) (cells slots : Nat) (ls : Array Slot), lw ls 3 [(0, .ref o), (1, .int a0), (2, .int a1)] → wsH G Zd A s st H locs → W p l e (rmH Zd (1) st.1) s m args below meth c H locs cells slots Q (F0 m 32 ls [.int e15]) := by
      intro H locs cells slots ls hl hw
      cases h
      exact finH_i hQ hx hb hr hlk hE hw d10_14_32
    clear h
    refine lv_icmp_eq (tgt := 27) hx hb d10_14_14 rfl (fun c17 => ?_) (fun c17 => ?_)
    ·
      replace h := (if_pos c17).symm.trans hX
      refine lv_iconst (v := 2) hx hb d10_14_27 (by decide) ?_
      refine lv_goto (tgt := 32) hx hb d10_14_28 rfl ?_
      have e9 := Option.some.inj h
      subst e15
      have hl := lw_sub hl (l' := [(0, .ref o), (1, .int a0), (2, .int a1)]) [0, 1, 2] rfl
      exact hj _ _ _ _ _ hl hw
    ·
      replace h := (if_neg c17).symm.trans hX
      refine lv_aload_n hx hb d10_14_17 rfl (lv_at hl.1 0 rfl) ?_
      refine lv_iload_n hx hb d10_14_18 rfl (lv_at hl.1 1 rfl) ?_
      refine lv_iconst (v := 1) hx hb d10_14_19 (by decide) ?_
      obtain ⟨u9, ho, h⟩ := ob h
      obtain ⟨x18, hc, h⟩ := ob h
      refine hV_i (ci := 9) (As := [.int a0, .int 1]) (rest := []) ⟨hx, hb, hml, hown, hts⟩ (cc_Store_leafOf l G Zd K o a0 (1 : Int32) st x18 hc) (kw_V (n := 2) hts k694 k691 k13 k693 ks8 (by decide +kernel) ⟨Nat.le_of_ble_eq_true rfl, Nat.le_of_ble_eq_true rfl⟩) hE hw rfl rfl ho rfl hl.1.1 rfl (c1_8 c1_n (Nat.le_of_ble_eq_true rfl)) d10_14_20 (fun H locs cells slots hw => ?_)
      clear hc ho u9
      refine W.eq (g2 := F0 m 23 ls [.int x18]) rfl ?_
      refine lv_iload_n hx hb d10_14_23 rfl (lv_at hl.1 2 rfl) ?_
      refine lv_icmp_ne (tgt := 31) hx hb d10_14_24 rfl (fun c21 => ?_) (fun c21 => ?_)
      ·
        replace h := (if_neg c21).symm.trans h
        refine lv_iconst (v := 0) hx hb d10_14_31 (by decide) ?_
        have e9 := Option.some.inj h
        subst e15
        have hl := lw_sub hl (l' := [(0, .ref o), (1, .int a0), (2, .int a1)]) [0, 1, 2] rfl
        exact hj _ _ _ _ _ hl hw
      ·
        replace h := (if_pos c21).symm.trans h
        refine lv_iconst (v := 2) hx hb d10_14_27 (by decide) ?_
        refine lv_goto (tgt := 32) hx hb d10_14_28 rfl ?_
        have e9 := Option.some.inj h
        subst e15
        have hl := lw_sub hl (l' := [(0, .ref o), (1, .int a0), (2, .int a1)]) [0, 1, 2] rfl
        exact hj _ _ _ _ _ hl hw
  ·
    replace h := (if_pos c11).symm.trans h
    refine lv_iconst (v := 1) hx hb d10_14_5 (by decide) ?_
    cases h
    exact finH_i hQ hx hb hr hlk hE hw d10_14_6
def c_Store_useOf_l2 (Zd : Nat → Nat) (K : KE) (o : Nat) (a0 : Int32) (st : CS) : Nat → (Int32 × Int32) → Option (Int32 × Int32)
  | 0, _ => none
  | n9 + 1, e9 => if (3 : Int32) ≤ e9.2 then (some (e9.1, e9.2)) else ((gQ K st o 9 3).bind fun x22 => x22.bind fun a23z => (rA K st a23z 3 e9.2).bind fun x24 => (if x24 = (0 : Int32) then (some e9.1) else ((gQ K st o 9 4).bind fun x29 => x29.bind fun a30z => (rA K st a30z 1 e9.2).bind fun x31 => (isO K st o 9).bind fun _ => (c_Store_useUnder Zd K o x31 a0 st).bind fun x32 => (some (if e9.1 < x32 then x32 else e9.1)).bind fun y35 => some y35)).bind fun e25 => (some (e9.2 + 1)).bind fun y27 => c_Store_useOf_l2 Zd K o a0 st n9 (e25, y27))
theorem c_Store_useOf_l2_s (Zd : Nat → Nat) (K : KE) (o : Nat) (a0 : Int32) (st : CS) (n9 : Nat) (e9 : Int32 × Int32) : c_Store_useOf_l2 Zd K o a0 st (n9 + 1) e9 = (if (3 : Int32) ≤ e9.2 then (some (e9.1, e9.2)) else ((gQ K st o 9 3).bind fun x22 => x22.bind fun a23z => (rA K st a23z 3 e9.2).bind fun x24 => (if x24 = (0 : Int32) then (some e9.1) else ((gQ K st o 9 4).bind fun x29 => x29.bind fun a30z => (rA K st a30z 1 e9.2).bind fun x31 => (isO K st o 9).bind fun _ => (c_Store_useUnder Zd K o x31 a0 st).bind fun x32 => (some (if e9.1 < x32 then x32 else e9.1)).bind fun y35 => some y35)).bind fun e25 => (some (e9.2 + 1)).bind fun y27 => c_Store_useOf_l2 Zd K o a0 st n9 (e25, y27))) := rfl
def c_Store_useOf_l1 (Zd : Nat → Nat) (K : KE) (o : Nat) (a0 : Int32) (st : CS) : Nat → (Int32 × Int32) → Option (Int32 × Int32)
  | 0, _ => none
  | n9 + 1, e9 => if (2 : Int32) ≤ e9.2 then (some (e9.1, e9.2)) else ((gQ K st o 9 2).bind fun x37 => x37.bind fun a38z => (rA K st a38z 1 e9.2).bind fun x39 => (isO K st o 9).bind fun _ => (c_Store_useUnder Zd K o x39 a0 st).bind fun x40 => (some (if e9.1 < x40 then x40 else e9.1)).bind fun y43 => (some (e9.2 + 1)).bind fun y44 => c_Store_useOf_l1 Zd K o a0 st n9 (y43, y44))
theorem c_Store_useOf_l1_s (Zd : Nat → Nat) (K : KE) (o : Nat) (a0 : Int32) (st : CS) (n9 : Nat) (e9 : Int32 × Int32) : c_Store_useOf_l1 Zd K o a0 st (n9 + 1) e9 = (if (2 : Int32) ≤ e9.2 then (some (e9.1, e9.2)) else ((gQ K st o 9 2).bind fun x37 => x37.bind fun a38z => (rA K st a38z 1 e9.2).bind fun x39 => (isO K st o 9).bind fun _ => (c_Store_useUnder Zd K o x39 a0 st).bind fun x40 => (some (if e9.1 < x40 then x40 else e9.1)).bind fun y43 => (some (e9.2 + 1)).bind fun y44 => c_Store_useOf_l1 Zd K o a0 st n9 (y43, y44))) := rfl
def c_Store_useOf (Zd : Nat → Nat) (K : KE) (o : Nat) (a0 : Int32) (st : CS) : Option (Int32) := (c_Store_useOf_l1 Zd K o a0 st 4096 ((0 : Int32), (0 : Int32))).bind fun e11 => (c_Store_useOf_l2 Zd K o a0 st 4096 (e11.1, (0 : Int32))).bind fun e16 => some e16.1
set_option maxHeartbeats 4000000 in
set_option maxRecDepth 100000 in
theorem cc_Store_useOf (l : Launch) (G : Gk) (Zd : Nat → Nat) (K : KE) (o : Nat) (a0 : Int32) (st : CS) (r0 : Int32) (hm : c_Store_useOf Zd K o a0 st = some r0) : CT l y10_13 prog_10_method_13_code 4 (some .int) G Zd K (2) [.ref o, .int a0] st (hI G Zd r0 st) := by
  refine goH (d := 2) (y := y10_13) (cc := prog_10_method_13_code) (maxL := 4) (ret := (some .int)) (av := [.ref o, .int a0]) (Qc := hI G Zd r0 st) "PagedValues$Store" rfl (by decide) (c1_c rfl (c1_c rfl c1_n)) (Nat.le_of_ble_eq_true rfl) ?_
  intro p e s m below meth c ls A args Q hQ hx hb hr hlk hml hown hts hin hl hE hw
  have hl : lw ls 4 [(0, .ref o), (1, .int a0)] := hl
  have hZ := hE.2.2.1
  have h := hm
  clear hm
  refine lv_iconst (v := 0) hx hb d10_13_0 (by decide) ?_
  refine xt_istore_n (x := 0) (lv' := [(2, .int 0), (0, .ref o), (1, .int a0)]) hx hb d10_13_1 rfl hl (by decide) rfl (fun ls hl => ?_)
  refine lv_iconst (v := 0) hx hb d10_13_2 (by decide) ?_
  refine xt_istore_n (x := 0) (lv' := [(3, .int 0), (2, .int 0), (0, .ref o), (1, .int a0)]) hx hb d10_13_3 rfl hl (by decide) rfl (fun ls hl => ?_)
  obtain ⟨e11, hX, hrest⟩ := ob h
  clear h
  have hj : ∀ (v14 : Int32) (v15 : Int32), e11 = (v14, v15) → ∀ (H : Heap) (locs : List Loc) (cells slots : Nat) (ls : Array Slot), lw ls 4 [(0, .ref o), (1, .int a0), (2, .int v14), (3, .int v15)] → wsH G Zd A s st H locs → W p l e (rmH Zd (2) st.1) s m args below meth c H locs cells slots Q (F0 m 31 ls []) := by
    intro v14 v15 he H locs cells slots ls hl hw
    subst e11
    have h := hrest
    clear hrest
    refine lv_iconst (v := 0) hx hb d10_13_31 (by decide) ?_
    refine xt_istore_n (x := 0) (lv' := [(3, .int 0), (0, .ref o), (1, .int a0), (2, .int v14)]) hx hb d10_13_32 rfl hl (by decide) rfl (fun ls hl => ?_)
    obtain ⟨e16, hX, hrest⟩ := ob h
    clear h
    have hj : ∀ (v19 : Int32) (v20 : Int32), e16 = (v19, v20) → ∀ (H : Heap) (locs : List Loc) (cells slots : Nat) (ls : Array Slot), lw ls 4 [(0, .ref o), (1, .int a0), (2, .int v19), (3, .int v20)] → wsH G Zd A s st H locs → W p l e (rmH Zd (2) st.1) s m args below meth c H locs cells slots Q (F0 m 69 ls []) := by
      intro v19 v20 he H locs cells slots ls hl hw
      subst e16
      have h := hrest
      clear hrest
      refine lv_iload_n hx hb d10_13_69 rfl (lv_at hl.1 2 rfl) ?_
      cases h
      exact finH_i hQ hx hb hr hlk hE hw d10_13_70
    have hloop : ∀ (n9 : Nat) (v17 : Int32) (v18 : Int32), c_Store_useOf_l2 Zd K o a0 st n9 (v17, v18) = some e16 → ∀ (H : Heap) (locs : List Loc) (cells slots : Nat) (ls : Array Slot), lw ls 4 [(0, .ref o), (1, .int a0), (2, .int v17), (3, .int v18)] → wsH G Zd A s st H locs → W p l e (rmH Zd (2) st.1) s m args below meth c H locs cells slots Q (F0 m 33 ls []) := by
      intro n9
      induction n9 with
      | zero =>
        intro v17 v18 h
        cases h
      | succ n9 ih =>
        intro v17 v18 h H locs cells slots ls hl hw
        replace h := (c_Store_useOf_l2_s Zd K o a0 st n9 (v17, v18)).symm.trans h
        refine lv_iload_n hx hb d10_13_33 rfl (lv_at hl.1 3 rfl) ?_
        refine lv_iconst (v := 3) hx hb d10_13_34 (by decide) ?_
        refine lv_icmp_ge (tgt := 69) hx hb d10_13_35 rfl (fun c21 => ?_) (fun c21 => ?_)
        ·
          replace h := (if_pos c21).symm.trans h
          have e9 := Option.some.inj h
          subst e16
          have hl := lw_sub hl (l' := [(0, .ref o), (1, .int a0), (2, .int v17), (3, .int v18)]) [0, 1, 2, 3] rfl
          exact hj _ _ rfl _ _ _ _ _ hl hw
        ·
          replace h := (if_neg c21).symm.trans h
          refine lv_aload_n hx hb d10_13_38 rfl (lv_at hl.1 0 rfl) ?_
          obtain ⟨x22, hr, h⟩ := ob h
          refine xg_q (ci := 9) (C := r_9) (T := f_9) (N := 9) (ref := "PagedValues$Store") hx hb hts (fun w h => List.mem_cons_of_mem _ (ly_9 w h)) hown hE hw rfl 3 (by decide) (hts _ (List.mem_cons_of_mem _ k240)) (fun _ h9 => h9) hr d10_13_39 ?_
          clear hr
          refine lv_iload_n hx hb d10_13_42 rfl (lv_at hl.1 3 rfl) ?_
          obtain ⟨a23z, hn23, h⟩ := ob h
          have hn23 : x22 = some a23z := hn23
          refine W.eq (g2 := F0 m 43 ls [.int v18, .ref a23z]) (by rw [hn23]; rfl) ?_
          obtain ⟨x24, hr, h⟩ := ob h
          refine xa_z hx hb hE hw (i := v18) hr d10_13_43 ?_
          clear hr
          obtain ⟨e25, hX, h⟩ := ob h
          have hj : ∀ (H : Heap) (locs : List Loc) (cells slots : Nat) (ls : Array Slot), lw ls 4 [(0, .ref o), (1, .int a0), (2, .int e25), (3, .int v18)] → wsH G Zd A s st H locs → W p l e (rmH Zd (2) st.1) s m args below meth c H locs cells slots Q (F0 m 63 ls []) := by
            intro H locs cells slots ls hl hw
            obtain ⟨y27, hr, h⟩ := ob h
            refine xt_iinc (k := 3) (v := y27) (lv' := [(3, .int y27), (0, .ref o), (1, .int a0), (2, .int e25)]) hx hb d10_13_63 hl rfl hr (by decide) rfl (fun ls hl => ?_)
            clear hr
            refine lv_goto (tgt := 33) hx hb d10_13_66 rfl ?_
            have hl := lw_sub hl (l' := [(0, .ref o), (1, .int a0), (2, .int e25), (3, .int y27)]) [1, 2, 3, 0] rfl
            exact ih _ _ h _ _ _ _ _ hl hw
          clear h
          refine lv_if_eq (tgt := 63) hx hb d10_13_44 rfl (fun c28 => ?_) (fun c28 => ?_)
          ·
            replace h := (if_pos c28).symm.trans hX
            have e9 := Option.some.inj h
            subst e25
            have hl := lw_sub hl (l' := [(0, .ref o), (1, .int a0), (2, .int v17), (3, .int v18)]) [0, 1, 2, 3] rfl
            exact hj _ _ _ _ _ hl hw
          ·
            replace h := (if_neg c28).symm.trans hX
            refine lv_iload_n hx hb d10_13_47 rfl (lv_at hl.1 2 rfl) ?_
            refine lv_aload_n hx hb d10_13_48 rfl (lv_at hl.1 0 rfl) ?_
            refine lv_aload_n hx hb d10_13_49 rfl (lv_at hl.1 0 rfl) ?_
            obtain ⟨x29, hr, h⟩ := ob h
            refine xg_q (ci := 9) (C := r_9) (T := f_9) (N := 9) (ref := "PagedValues$Store") hx hb hts (fun w h => List.mem_cons_of_mem _ (ly_9 w h)) hown hE hw rfl 4 (by decide) (hts _ (List.mem_cons_of_mem _ k241)) (fun _ h9 => h9) hr d10_13_50 ?_
            clear hr
            refine lv_iload_n hx hb d10_13_53 rfl (lv_at hl.1 3 rfl) ?_
            obtain ⟨a30z, hn30, h⟩ := ob h
            have hn30 : x29 = some a30z := hn30
            refine W.eq (g2 := F0 m 54 ls [.int v18, .ref a30z, .ref o, .int v17]) (by rw [hn30]; rfl) ?_
            obtain ⟨x31, hr, h⟩ := ob h
            refine xa_i hx hb hE hw (i := v18) hr d10_13_54 ?_
            clear hr
            refine lv_iload_n hx hb d10_13_55 rfl (lv_at hl.1 1 rfl) ?_
            obtain ⟨u9, ho, h⟩ := ob h
            obtain ⟨x32, hc, h⟩ := ob h
            refine hV_i (ci := 9) (As := [.int x31, .int a0]) (rest := [.int v17]) ⟨hx, hb, hml, hown, hts⟩ (cc_Store_useUnder l G Zd K o x31 a0 st x32 hc) (kw_V (n := 2) hts k715 k712 k13 k714 ks11 (by decide +kernel) ⟨Nat.le_of_ble_eq_true rfl, Nat.le_of_ble_eq_true rfl⟩) hE hw rfl rfl ho rfl hl.1.1 rfl (c1_8 (c1_c rfl c1_n) (Nat.le_of_ble_eq_true rfl)) d10_13_56 (fun H locs cells slots hw => ?_)
            clear hc ho u9
            refine W.eq (g2 := F0 m 59 ls [.int x32, .int v17]) rfl ?_
            refine xmax (x := v17) (y := x32) (rest := []) hx hb (by rw [hml]; exact hl.1.1.symm) hown (hts _ (List.mem_cons_of_mem _ k716)) (hts _ (List.mem_cons_of_mem _ k414)) (hts _ (List.mem_cons_of_mem _ k20)) (hts _ (List.mem_cons_of_mem _ kmax)) hE hw (show 1 ≤ 2 by omega) (by rw [c1_sum c1_n]; show 0 + 13 ≤ 64 * (2); omega) d10_13_59 (fun cells slots => ?_)
            obtain ⟨y35, hr, h⟩ := ob h
            refine lv_topi (fun y9 ey => ?_)
            have e9 := ey.trans (Option.some.inj hr)
            clear ey
            subst y9
            clear hr
            refine xt_istore_n (x := y35) (lv' := [(2, .int y35), (0, .ref o), (1, .int a0), (3, .int v18)]) hx hb d10_13_62 rfl hl (by decide) rfl (fun ls hl => ?_)
            have e9 := Option.some.inj h
            subst e25
            have hl := lw_sub hl (l' := [(0, .ref o), (1, .int a0), (2, .int y35), (3, .int v18)]) [1, 2, 0, 3] rfl
            exact hj _ _ _ _ _ hl hw
    have hl := lw_sub hl (l' := [(0, .ref o), (1, .int a0), (2, .int v14), (3, .int 0)]) [1, 2, 3, 0] rfl
    exact hloop _ _ _ hX _ _ _ _ _ hl hw
  have hloop : ∀ (n9 : Nat) (v12 : Int32) (v13 : Int32), c_Store_useOf_l1 Zd K o a0 st n9 (v12, v13) = some e11 → ∀ (H : Heap) (locs : List Loc) (cells slots : Nat) (ls : Array Slot), lw ls 4 [(0, .ref o), (1, .int a0), (2, .int v12), (3, .int v13)] → wsH G Zd A s st H locs → W p l e (rmH Zd (2) st.1) s m args below meth c H locs cells slots Q (F0 m 4 ls []) := by
    intro n9
    induction n9 with
    | zero =>
      intro v12 v13 h
      cases h
    | succ n9 ih =>
      intro v12 v13 h H locs cells slots ls hl hw
      replace h := (c_Store_useOf_l1_s Zd K o a0 st n9 (v12, v13)).symm.trans h
      refine lv_iload_n hx hb d10_13_4 rfl (lv_at hl.1 3 rfl) ?_
      refine lv_iconst (v := 2) hx hb d10_13_5 (by decide) ?_
      refine lv_icmp_ge (tgt := 31) hx hb d10_13_6 rfl (fun c36 => ?_) (fun c36 => ?_)
      ·
        replace h := (if_pos c36).symm.trans h
        have e9 := Option.some.inj h
        subst e11
        have hl := lw_sub hl (l' := [(0, .ref o), (1, .int a0), (2, .int v12), (3, .int v13)]) [0, 1, 2, 3] rfl
        exact hj _ _ rfl _ _ _ _ _ hl hw
      ·
        replace h := (if_neg c36).symm.trans h
        refine lv_iload_n hx hb d10_13_9 rfl (lv_at hl.1 2 rfl) ?_
        refine lv_aload_n hx hb d10_13_10 rfl (lv_at hl.1 0 rfl) ?_
        refine lv_aload_n hx hb d10_13_11 rfl (lv_at hl.1 0 rfl) ?_
        obtain ⟨x37, hr, h⟩ := ob h
        refine xg_q (ci := 9) (C := r_9) (T := f_9) (N := 9) (ref := "PagedValues$Store") hx hb hts (fun w h => List.mem_cons_of_mem _ (ly_9 w h)) hown hE hw rfl 2 (by decide) (hts _ (List.mem_cons_of_mem _ k239)) (fun _ h9 => h9) hr d10_13_12 ?_
        clear hr
        refine lv_iload_n hx hb d10_13_15 rfl (lv_at hl.1 3 rfl) ?_
        obtain ⟨a38z, hn38, h⟩ := ob h
        have hn38 : x37 = some a38z := hn38
        refine W.eq (g2 := F0 m 16 ls [.int v13, .ref a38z, .ref o, .int v12]) (by rw [hn38]; rfl) ?_
        obtain ⟨x39, hr, h⟩ := ob h
        refine xa_i hx hb hE hw (i := v13) hr d10_13_16 ?_
        clear hr
        refine lv_iload_n hx hb d10_13_17 rfl (lv_at hl.1 1 rfl) ?_
        obtain ⟨u9, ho, h⟩ := ob h
        obtain ⟨x40, hc, h⟩ := ob h
        refine hV_i (ci := 9) (As := [.int x39, .int a0]) (rest := [.int v12]) ⟨hx, hb, hml, hown, hts⟩ (cc_Store_useUnder l G Zd K o x39 a0 st x40 hc) (kw_V (n := 2) hts k715 k712 k13 k714 ks11 (by decide +kernel) ⟨Nat.le_of_ble_eq_true rfl, Nat.le_of_ble_eq_true rfl⟩) hE hw rfl rfl ho rfl hl.1.1 rfl (c1_8 (c1_c rfl c1_n) (Nat.le_of_ble_eq_true rfl)) d10_13_18 (fun H locs cells slots hw => ?_)
        clear hc ho u9
        refine W.eq (g2 := F0 m 21 ls [.int x40, .int v12]) rfl ?_
        refine xmax (x := v12) (y := x40) (rest := []) hx hb (by rw [hml]; exact hl.1.1.symm) hown (hts _ (List.mem_cons_of_mem _ k716)) (hts _ (List.mem_cons_of_mem _ k414)) (hts _ (List.mem_cons_of_mem _ k20)) (hts _ (List.mem_cons_of_mem _ kmax)) hE hw (show 1 ≤ 2 by omega) (by rw [c1_sum c1_n]; show 0 + 13 ≤ 64 * (2); omega) d10_13_21 (fun cells slots => ?_)
        obtain ⟨y43, hr, h⟩ := ob h
        refine lv_topi (fun y9 ey => ?_)
        have e9 := ey.trans (Option.some.inj hr)
        clear ey
        subst y9
        clear hr
        refine xt_istore_n (x := y43) (lv' := [(2, .int y43), (0, .ref o), (1, .int a0), (3, .int v13)]) hx hb d10_13_24 rfl hl (by decide) rfl (fun ls hl => ?_)
        obtain ⟨y44, hr, h⟩ := ob h
        refine xt_iinc (k := 3) (v := y44) (lv' := [(3, .int y44), (2, .int y43), (0, .ref o), (1, .int a0)]) hx hb d10_13_25 hl rfl hr (by decide) rfl (fun ls hl => ?_)
        clear hr
        refine lv_goto (tgt := 4) hx hb d10_13_28 rfl ?_
        have hl := lw_sub hl (l' := [(0, .ref o), (1, .int a0), (2, .int y43), (3, .int y44)]) [2, 3, 1, 0] rfl
        exact ih _ _ h _ _ _ _ _ hl hw
  have hl := lw_sub hl (l' := [(0, .ref o), (1, .int a0), (2, .int 0), (3, .int 0)]) [2, 3, 1, 0] rfl
  exact hloop _ _ _ hX _ _ _ _ _ hl hw
def c_Store_freeFrom_l1 (Zd : Nat → Nat) (K : KE) (o : Nat) (st : CS) : Nat → (Int32) → Option ((Int32) ⊕ (Int32))
  | 0, _ => none
  | n9 + 1, e9 => if (12 : Int32) ≤ e9 then (some (.inr e9)) else ((isO K st o 9).bind fun _ => (c_Store_useOf Zd K o e9 st).bind fun x15 => if x15 = (0 : Int32) then (some (.inl e9)) else ((some (e9 + 1)).bind fun y19 => c_Store_freeFrom_l1 Zd K o st n9 y19))
theorem c_Store_freeFrom_l1_s (Zd : Nat → Nat) (K : KE) (o : Nat) (st : CS) (n9 : Nat) (e9 : Int32) : c_Store_freeFrom_l1 Zd K o st (n9 + 1) e9 = (if (12 : Int32) ≤ e9 then (some (.inr e9)) else ((isO K st o 9).bind fun _ => (c_Store_useOf Zd K o e9 st).bind fun x15 => if x15 = (0 : Int32) then (some (.inl e9)) else ((some (e9 + 1)).bind fun y19 => c_Store_freeFrom_l1 Zd K o st n9 y19))) := rfl
def c_Store_freeFrom (Zd : Nat → Nat) (K : KE) (o : Nat) (a0 : Int32) (st : CS) : Option (Int32) := (c_Store_freeFrom_l1 Zd K o st 4096 a0).bind fun e11 => match e11 with | .inl o9 => some o9 | .inr e8 => some ((-1) : Int32)
set_option maxHeartbeats 4000000 in
set_option maxRecDepth 100000 in
theorem cc_Store_freeFrom (l : Launch) (G : Gk) (Zd : Nat → Nat) (K : KE) (o : Nat) (a0 : Int32) (st : CS) (r0 : Int32) (hm : c_Store_freeFrom Zd K o a0 st = some r0) : CT l y10_15 prog_10_method_15_code 3 (some .int) G Zd K (3) [.ref o, .int a0] st (hI G Zd r0 st) := by
  refine goH (d := 3) (y := y10_15) (cc := prog_10_method_15_code) (maxL := 3) (ret := (some .int)) (av := [.ref o, .int a0]) (Qc := hI G Zd r0 st) "PagedValues$Store" rfl (by decide) (c1_c rfl (c1_c rfl c1_n)) (Nat.le_of_ble_eq_true rfl) ?_
  intro p e s m below meth c ls A args Q hQ hx hb hr hlk hml hown hts hin hl hE hw
  have hl : lw ls 3 [(0, .ref o), (1, .int a0)] := hl
  have hZ := hE.2.2.1
  have h := hm
  clear hm
  refine lv_iload_n hx hb d10_15_0 rfl (lv_at hl.1 1 rfl) ?_
  refine xt_istore_n (x := a0) (lv' := [(2, .int a0), (0, .ref o), (1, .int a0)]) hx hb d10_15_1 rfl hl (by decide) rfl (fun ls hl => ?_)
  obtain ⟨e11, hX, hrest⟩ := ob h
  clear h
  have hj : ∀ (v13 : Int32), e11 = .inr (v13) → ∀ (H : Heap) (locs : List Loc) (cells slots : Nat) (ls : Array Slot), lw ls 3 [(0, .ref o), (1, .int a0), (2, .int v13)] → wsH G Zd A s st H locs → W p l e (rmH Zd (3) st.1) s m args below meth c H locs cells slots Q (F0 m 24 ls []) := by
    intro v13 he H locs cells slots ls hl hw
    subst e11
    have h := hrest
    clear hrest
    refine lv_iconst (v := (-1)) hx hb d10_15_24 (by decide) ?_
    cases h
    exact finH_i hQ hx hb hr hlk hE hw d10_15_25
  have hloop : ∀ (n9 : Nat) (v12 : Int32), c_Store_freeFrom_l1 Zd K o st n9 (v12) = some e11 → ∀ (H : Heap) (locs : List Loc) (cells slots : Nat) (ls : Array Slot), lw ls 3 [(0, .ref o), (1, .int a0), (2, .int v12)] → wsH G Zd A s st H locs → W p l e (rmH Zd (3) st.1) s m args below meth c H locs cells slots Q (F0 m 2 ls []) := by
    intro n9
    induction n9 with
    | zero =>
      intro v12 h
      cases h
    | succ n9 ih =>
      intro v12 h H locs cells slots ls hl hw
      replace h := (c_Store_freeFrom_l1_s Zd K o st n9 (v12)).symm.trans h
      refine lv_iload_n hx hb d10_15_2 rfl (lv_at hl.1 2 rfl) ?_
      refine lv_bipush (v := 12) hx hb d10_15_3 (by decide) ?_
      refine lv_icmp_ge (tgt := 24) hx hb d10_15_5 rfl (fun c14 => ?_) (fun c14 => ?_)
      ·
        replace h := (if_pos c14).symm.trans h
        have e9 := Option.some.inj h
        subst e11
        have hl := lw_sub hl (l' := [(0, .ref o), (1, .int a0), (2, .int v12)]) [0, 1, 2] rfl
        exact hj _ rfl _ _ _ _ _ hl hw
      ·
        replace h := (if_neg c14).symm.trans h
        refine lv_aload_n hx hb d10_15_8 rfl (lv_at hl.1 0 rfl) ?_
        refine lv_iload_n hx hb d10_15_9 rfl (lv_at hl.1 2 rfl) ?_
        obtain ⟨u9, ho, h⟩ := ob h
        obtain ⟨x15, hc, h⟩ := ob h
        refine hV_i (ci := 9) (As := [.int v12]) (rest := []) ⟨hx, hb, hml, hown, hts⟩ (cc_Store_useOf l G Zd K o v12 st x15 hc) (kw_V (n := 1) hts k711 k708 k13 k709 k710 (by decide +kernel) ⟨Nat.le_of_ble_eq_true rfl, Nat.le_of_ble_eq_true rfl⟩) hE hw rfl rfl ho rfl hl.1.1 rfl (c1_8 c1_n (Nat.le_of_ble_eq_true rfl)) d10_15_10 (fun H locs cells slots hw => ?_)
        clear hc ho u9
        refine W.eq (g2 := F0 m 13 ls [.int x15]) rfl ?_
        refine lv_if_ne (tgt := 18) hx hb d10_15_13 rfl (fun c18 => ?_) (fun c18 => ?_)
        ·
          replace h := (if_neg c18).symm.trans h
          obtain ⟨y19, hr, h⟩ := ob h
          refine xt_iinc (k := 2) (v := y19) (lv' := [(2, .int y19), (0, .ref o), (1, .int a0)]) hx hb d10_15_18 hl rfl hr (by decide) rfl (fun ls hl => ?_)
          clear hr
          refine lv_goto (tgt := 2) hx hb d10_15_21 rfl ?_
          have hl := lw_sub hl (l' := [(0, .ref o), (1, .int a0), (2, .int y19)]) [1, 2, 0] rfl
          exact ih _ h _ _ _ _ _ hl hw
        ·
          replace h := (if_pos c18).symm.trans h
          refine lv_iload_n hx hb d10_15_16 rfl (lv_at hl.1 2 rfl) ?_
          cases h
          cases hrest
          exact finH_i hQ hx hb hr hlk hE hw d10_15_17
  have hl := lw_sub hl (l' := [(0, .ref o), (1, .int a0), (2, .int a0)]) [1, 2, 0] rfl
  exact hloop _ _ hX _ _ _ _ _ hl hw
def c_Store_stop_l1 (K : KE) (o : Nat) : Nat → (Int32 × CS) → Option (Int32 × CS)
  | 0, _ => none
  | n9 + 1, e9 => if (3 : Int32) ≤ e9.1 then (some (e9.1, e9.2)) else ((gQ K e9.2 o 9 3).bind fun x18 => x18.bind fun a19z => (wA e9.2 a19z 3 e9.1 (vp_nar .boolean (0 : Int32))).bind fun st20 => (some (e9.1 + 1)).bind fun y21 => c_Store_stop_l1 K o n9 (y21, st20))
theorem c_Store_stop_l1_s (K : KE) (o : Nat) (n9 : Nat) (e9 : Int32 × CS) : c_Store_stop_l1 K o (n9 + 1) e9 = (if (3 : Int32) ≤ e9.1 then (some (e9.1, e9.2)) else ((gQ K e9.2 o 9 3).bind fun x18 => x18.bind fun a19z => (wA e9.2 a19z 3 e9.1 (vp_nar .boolean (0 : Int32))).bind fun st20 => (some (e9.1 + 1)).bind fun y21 => c_Store_stop_l1 K o n9 (y21, st20))) := rfl
def c_Store_stop (Zd : Nat → Nat) (K : KE) (o : Nat) (st : CS) : Option (CS) := (sF st o 9 8 (.int 1)).bind fun st11 => (c_Store_stop_l1 K o 4096 ((0 : Int32), st11)).bind fun e12 => some e12.2
set_option maxHeartbeats 4000000 in
set_option maxRecDepth 100000 in
theorem cc_Store_stop (l : Launch) (G : Gk) (Zd : Nat → Nat) (K : KE) (o : Nat) (st : CS) (st0 : CS) (hm : c_Store_stop Zd K o st = some st0) : CT l y10_22 prog_10_method_22_code 2 none G Zd K (0) [.ref o] st (hV G Zd st0) := by
  refine goH (d := 0) (y := y10_22) (cc := prog_10_method_22_code) (maxL := 2) (ret := none) (av := [.ref o]) (Qc := hV G Zd st0) "PagedValues$Store" rfl (by decide) (c1_c rfl c1_n) (Nat.le_of_ble_eq_true rfl) ?_
  intro p e s m below meth c ls A args Q hQ hx hb hr hlk hml hown hts hin hl hE hw
  have hl : lw ls 2 [(0, .ref o)] := hl
  have hZ := hE.2.2.1
  have h := hm
  clear hm
  refine lv_aload_n hx hb d10_22_0 rfl (lv_at hl.1 0 rfl) ?_
  refine lv_iconst (v := 1) hx hb d10_22_1 (by decide) ?_
  obtain ⟨st11, hr, h⟩ := ob h
  refine xp (ci := 9) (ty := .boolean) (C := r_9) (T := f_9) (N := 9) (ref := "PagedValues$Store") hx hb hts (fun w h => List.mem_cons_of_mem _ (ly_9 w h)) ft_9 ft_9_ok nm_9 hown hE hw rfl 8 (by decide) (hts _ (List.mem_cons_of_mem _ k248)) (fun _ h9 => h9) rfl hr (by decide +kernel) (by decide) (by decide) d10_22_2 (fun H locs hw => ?_)
  clear hr
  refine lv_iconst (v := 0) hx hb d10_22_5 (by decide) ?_
  refine xt_istore_n (x := 0) (lv' := [(1, .int 0), (0, .ref o)]) hx hb d10_22_6 rfl hl (by decide) rfl (fun ls hl => ?_)
  obtain ⟨e12, hX, hrest⟩ := ob h
  clear h
  have hj : ∀ (v15 : Int32) (v16 : CS), e12 = (v15, v16) → ∀ (H : Heap) (locs : List Loc) (cells slots : Nat) (ls : Array Slot), lw ls 2 [(0, .ref o), (1, .int v15)] → wsH G Zd A s v16 H locs → W p l e (rmH Zd (0) st.1) s m args below meth c H locs cells slots Q (F0 m 25 ls []) := by
    intro v15 v16 he H locs cells slots ls hl hw
    subst e12
    have h := hrest
    clear hrest
    cases h
    exact finH_v hQ hx hb hr hlk hE hw d10_22_25
  have hloop : ∀ (n9 : Nat) (v13 : Int32) (v14 : CS), c_Store_stop_l1 K o n9 (v13, v14) = some e12 → ∀ (H : Heap) (locs : List Loc) (cells slots : Nat) (ls : Array Slot), lw ls 2 [(0, .ref o), (1, .int v13)] → wsH G Zd A s v14 H locs → W p l e (rmH Zd (0) st.1) s m args below meth c H locs cells slots Q (F0 m 7 ls []) := by
    intro n9
    induction n9 with
    | zero =>
      intro v13 v14 h
      cases h
    | succ n9 ih =>
      intro v13 v14 h H locs cells slots ls hl hw
      replace h := (c_Store_stop_l1_s K o n9 (v13, v14)).symm.trans h
      refine lv_iload_n hx hb d10_22_7 rfl (lv_at hl.1 1 rfl) ?_
      refine lv_iconst (v := 3) hx hb d10_22_8 (by decide) ?_
      refine lv_icmp_ge (tgt := 25) hx hb d10_22_9 rfl (fun c17 => ?_) (fun c17 => ?_)
      ·
        replace h := (if_pos c17).symm.trans h
        have e9 := Option.some.inj h
        subst e12
        have hl := lw_sub hl (l' := [(0, .ref o), (1, .int v13)]) [0, 1] rfl
        exact hj _ _ rfl _ _ _ _ _ hl hw
      ·
        replace h := (if_neg c17).symm.trans h
        refine lv_aload_n hx hb d10_22_12 rfl (lv_at hl.1 0 rfl) ?_
        obtain ⟨x18, hr, h⟩ := ob h
        refine xg_q (ci := 9) (C := r_9) (T := f_9) (N := 9) (ref := "PagedValues$Store") hx hb hts (fun w h => List.mem_cons_of_mem _ (ly_9 w h)) hown hE hw rfl 3 (by decide) (hts _ (List.mem_cons_of_mem _ k240)) (fun _ h9 => h9) hr d10_22_13 ?_
        clear hr
        refine lv_iload_n hx hb d10_22_16 rfl (lv_at hl.1 1 rfl) ?_
        refine lv_iconst (v := 0) hx hb d10_22_17 (by decide) ?_
        obtain ⟨a19z, hn19, h⟩ := ob h
        have hn19 : x18 = some a19z := hn19
        refine W.eq (g2 := F0 m 18 ls [.int 0, .int v13, .ref a19z]) (by rw [hn19]; rfl) ?_
        obtain ⟨st20, hr, h⟩ := ob h
        refine xs_z hx hb hE hw (i := v13) (v := (0 : Int32)) hr d10_22_18 (fun H locs hw => ?_)
        clear hr
        obtain ⟨y21, hr, h⟩ := ob h
        refine xt_iinc (k := 1) (v := y21) (lv' := [(1, .int y21), (0, .ref o)]) hx hb d10_22_19 hl rfl hr (by decide) rfl (fun ls hl => ?_)
        clear hr
        refine lv_goto (tgt := 7) hx hb d10_22_22 rfl ?_
        have hl := lw_sub hl (l' := [(0, .ref o), (1, .int y21)]) [1, 0] rfl
        exact ih _ _ h _ _ _ _ _ hl hw
  have hl := lw_sub hl (l' := [(0, .ref o), (1, .int 0)]) [1, 0] rfl
  exact hloop _ _ _ hX _ _ _ _ _ hl hw
def c_Store_countBlock (Zd : Nat → Nat) (K : KE) (o : Nat) (st : CS) : Option (CS) := (gI K st o 9 6).bind fun x11 => (some (x11 + (1 : Int32))).bind fun y12 => (sF st o 9 6 (.int y12)).bind fun st13 => (gI K st13 o 9 7).bind fun x14 => (if x14 ≤ (0 : Int32) then (some st13) else ((gI K st13 o 9 7).bind fun x18 => (some (x18 - (1 : Int32))).bind fun y19 => (sF st13 o 9 7 (.int y19)).bind fun st20 => (gI K st20 o 9 7).bind fun x21 => if x21 = (0 : Int32) then ((isO K st20 o 9).bind fun _ => (c_Store_stop Zd K o st20).bind fun st24 => some st24) else (some st20))).bind fun e15 => some e15
set_option maxHeartbeats 4000000 in
set_option maxRecDepth 100000 in
theorem cc_Store_countBlock (l : Launch) (G : Gk) (Zd : Nat → Nat) (K : KE) (o : Nat) (st : CS) (st0 : CS) (hm : c_Store_countBlock Zd K o st = some st0) : CT l y10_21 prog_10_method_21_code 1 none G Zd K (1) [.ref o] st (hV G Zd st0) := by
  refine goH (d := 1) (y := y10_21) (cc := prog_10_method_21_code) (maxL := 1) (ret := none) (av := [.ref o]) (Qc := hV G Zd st0) "PagedValues$Store" rfl (by decide) (c1_c rfl c1_n) (Nat.le_of_ble_eq_true rfl) ?_
  intro p e s m below meth c ls A args Q hQ hx hb hr hlk hml hown hts hin hl hE hw
  have hl : lw ls 1 [(0, .ref o)] := hl
  have hZ := hE.2.2.1
  have h := hm
  clear hm
  refine lv_aload_n hx hb d10_21_0 rfl (lv_at hl.1 0 rfl) ?_
  refine lv_dup hx hb d10_21_1 rfl ?_
  obtain ⟨x11, hr, h⟩ := ob h
  refine xg_i (ci := 9) (C := r_9) (T := f_9) (N := 9) (ref := "PagedValues$Store") hx hb hts (fun w h => List.mem_cons_of_mem _ (ly_9 w h)) hown hE hw rfl 6 (by decide) (hts _ (List.mem_cons_of_mem _ k244)) (fun _ h9 => h9) hr d10_21_2 ?_
  clear hr
  refine lv_iconst (v := 1) hx hb d10_21_5 (by decide) ?_
  refine lv_iadd hx hb d10_21_6 ?_
  obtain ⟨y12, hr, h⟩ := ob h
  refine lv_topi (fun y9 ey => ?_)
  have e9 := ey.trans (Option.some.inj hr)
  clear ey
  subst y9
  clear hr
  obtain ⟨st13, hr, h⟩ := ob h
  refine xp (ci := 9) (ty := .int) (C := r_9) (T := f_9) (N := 9) (ref := "PagedValues$Store") hx hb hts (fun w h => List.mem_cons_of_mem _ (ly_9 w h)) ft_9 ft_9_ok nm_9 hown hE hw rfl 6 (by decide) (hts _ (List.mem_cons_of_mem _ k244)) (fun _ h9 => h9) rfl hr (by decide +kernel) rfl rfl d10_21_7 (fun H locs hw => ?_)
  clear hr
  refine lv_aload_n hx hb d10_21_10 rfl (lv_at hl.1 0 rfl) ?_
  obtain ⟨x14, hr, h⟩ := ob h
  refine xg_i (ci := 9) (C := r_9) (T := f_9) (N := 9) (ref := "PagedValues$Store") hx hb hts (fun w h => List.mem_cons_of_mem _ (ly_9 w h)) hown hE hw rfl 7 (by decide) (hts _ (List.mem_cons_of_mem _ k246)) (fun _ h9 => h9) hr d10_21_11 ?_
  clear hr
  obtain ⟨e15, hX, h⟩ := ob h
  have hj : ∀ (H : Heap) (locs : List Loc) (cells slots : Nat) (ls : Array Slot), lw ls 1 [(0, .ref o)] → wsH G Zd A s e15 H locs → W p l e (rmH Zd (1) st.1) s m args below meth c H locs cells slots Q (F0 m 38 ls []) := by
    intro H locs cells slots ls hl hw
    cases h
    exact finH_v hQ hx hb hr hlk hE hw d10_21_38
  clear h
  refine lv_if_le (tgt := 38) hx hb d10_21_14 rfl (fun c17 => ?_) (fun c17 => ?_)
  ·
    replace h := (if_pos c17).symm.trans hX
    have e9 := Option.some.inj h
    subst e15
    have hl := lw_sub hl (l' := [(0, .ref o)]) [0] rfl
    exact hj _ _ _ _ _ hl hw
  ·
    replace h := (if_neg c17).symm.trans hX
    refine lv_aload_n hx hb d10_21_17 rfl (lv_at hl.1 0 rfl) ?_
    refine lv_dup hx hb d10_21_18 rfl ?_
    obtain ⟨x18, hr, h⟩ := ob h
    refine xg_i (ci := 9) (C := r_9) (T := f_9) (N := 9) (ref := "PagedValues$Store") hx hb hts (fun w h => List.mem_cons_of_mem _ (ly_9 w h)) hown hE hw rfl 7 (by decide) (hts _ (List.mem_cons_of_mem _ k246)) (fun _ h9 => h9) hr d10_21_19 ?_
    clear hr
    refine lv_iconst (v := 1) hx hb d10_21_22 (by decide) ?_
    refine lv_isub hx hb d10_21_23 ?_
    obtain ⟨y19, hr, h⟩ := ob h
    refine lv_topi (fun y9 ey => ?_)
    have e9 := ey.trans (Option.some.inj hr)
    clear ey
    subst y9
    clear hr
    obtain ⟨st20, hr, h⟩ := ob h
    refine xp (ci := 9) (ty := .int) (C := r_9) (T := f_9) (N := 9) (ref := "PagedValues$Store") hx hb hts (fun w h => List.mem_cons_of_mem _ (ly_9 w h)) ft_9 ft_9_ok nm_9 hown hE hw rfl 7 (by decide) (hts _ (List.mem_cons_of_mem _ k246)) (fun _ h9 => h9) rfl hr (by decide +kernel) rfl rfl d10_21_24 (fun H locs hw => ?_)
    clear hr
    refine lv_aload_n hx hb d10_21_27 rfl (lv_at hl.1 0 rfl) ?_
    obtain ⟨x21, hr, h⟩ := ob h
    refine xg_i (ci := 9) (C := r_9) (T := f_9) (N := 9) (ref := "PagedValues$Store") hx hb hts (fun w h => List.mem_cons_of_mem _ (ly_9 w h)) hown hE hw rfl 7 (by decide) (hts _ (List.mem_cons_of_mem _ k246)) (fun _ h9 => h9) hr d10_21_28 ?_
    clear hr
    refine lv_if_ne (tgt := 38) hx hb d10_21_31 rfl (fun c22 => ?_) (fun c22 => ?_)
    ·
      replace h := (if_neg c22).symm.trans h
      have e9 := Option.some.inj h
      subst e15
      have hl := lw_sub hl (l' := [(0, .ref o)]) [0] rfl
      exact hj _ _ _ _ _ hl hw
    ·
      replace h := (if_pos c22).symm.trans h
      refine lv_aload_n hx hb d10_21_34 rfl (lv_at hl.1 0 rfl) ?_
      obtain ⟨u9, ho, h⟩ := ob h
      obtain ⟨st24, hc, h⟩ := ob h
      refine hV_v (ci := 9) (As := []) (rest := []) ⟨hx, hb, hml, hown, hts⟩ (cc_Store_stop l G Zd K o st20 st24 hc) (kw_V (n := 0) hts k728 k725 k13 k727 ks14 (by decide +kernel) ⟨Nat.le_of_ble_eq_true rfl, Nat.le_of_ble_eq_true rfl⟩) hE hw rfl rfl ho rfl hl.1.1 rfl (c1_8 c1_n (Nat.le_of_ble_eq_true rfl)) d10_21_35 (fun H locs cells slots hw => ?_)
      clear hc ho u9
      refine W.eq (g2 := F0 m 38 ls []) rfl ?_
      have e9 := Option.some.inj h
      subst e15
      have hl := lw_sub hl (l' := [(0, .ref o)]) [0] rfl
      exact hj _ _ _ _ _ hl hw
def c_Store_writeLeaf_l1 (K : KE) (o : Nat) (a0 : Int32) : Nat → (Int32 × CS) → Option (Int32 × CS)
  | 0, _ => none
  | n9 + 1, e9 => if (4 : Int32) ≤ e9.1 then (some (e9.1, e9.2)) else ((gQ K e9.2 o 9 0).bind fun x20 => x20.bind fun a21z => (rQ K e9.2 a21z 6 a0).bind fun x22 => x22.bind fun a23z => (gQ K e9.2 a23z 10 0).bind fun x24 => (gQ K e9.2 o 9 5).bind fun x25 => x25.bind fun a26z => (rQ K e9.2 a26z 5 e9.1).bind fun x27 => x24.bind fun a28z => (wQ e9.2 a28z 5 11 e9.1 x27).bind fun st29 => (some (e9.1 + 1)).bind fun y30 => c_Store_writeLeaf_l1 K o a0 n9 (y30, st29))
theorem c_Store_writeLeaf_l1_s (K : KE) (o : Nat) (a0 : Int32) (n9 : Nat) (e9 : Int32 × CS) : c_Store_writeLeaf_l1 K o a0 (n9 + 1) e9 = (if (4 : Int32) ≤ e9.1 then (some (e9.1, e9.2)) else ((gQ K e9.2 o 9 0).bind fun x20 => x20.bind fun a21z => (rQ K e9.2 a21z 6 a0).bind fun x22 => x22.bind fun a23z => (gQ K e9.2 a23z 10 0).bind fun x24 => (gQ K e9.2 o 9 5).bind fun x25 => x25.bind fun a26z => (rQ K e9.2 a26z 5 e9.1).bind fun x27 => x24.bind fun a28z => (wQ e9.2 a28z 5 11 e9.1 x27).bind fun st29 => (some (e9.1 + 1)).bind fun y30 => c_Store_writeLeaf_l1 K o a0 n9 (y30, st29))) := rfl
def c_Store_writeLeaf (Zd : Nat → Nat) (K : KE) (o : Nat) (a0 : Int32) (st : CS) : Option (CS) := (c_Store_writeLeaf_l1 K o a0 4096 ((0 : Int32), st)).bind fun e11 => (isO K e11.2 o 9).bind fun _ => (c_Store_countBlock Zd K o e11.2).bind fun st17 => some st17
set_option maxHeartbeats 4000000 in
set_option maxRecDepth 100000 in
theorem cc_Store_writeLeaf (l : Launch) (G : Gk) (Zd : Nat → Nat) (K : KE) (o : Nat) (a0 : Int32) (st : CS) (st0 : CS) (hm : c_Store_writeLeaf Zd K o a0 st = some st0) : CT l y10_18 prog_10_method_18_code 3 none G Zd K (2) [.ref o, .int a0] st (hV G Zd st0) := by
  refine goH (d := 2) (y := y10_18) (cc := prog_10_method_18_code) (maxL := 3) (ret := none) (av := [.ref o, .int a0]) (Qc := hV G Zd st0) "PagedValues$Store" rfl (by decide) (c1_c rfl (c1_c rfl c1_n)) (Nat.le_of_ble_eq_true rfl) ?_
  intro p e s m below meth c ls A args Q hQ hx hb hr hlk hml hown hts hin hl hE hw
  have hl : lw ls 3 [(0, .ref o), (1, .int a0)] := hl
  have hZ := hE.2.2.1
  have h := hm
  clear hm
  refine lv_iconst (v := 0) hx hb d10_18_0 (by decide) ?_
  refine xt_istore_n (x := 0) (lv' := [(2, .int 0), (0, .ref o), (1, .int a0)]) hx hb d10_18_1 rfl hl (by decide) rfl (fun ls hl => ?_)
  obtain ⟨e11, hX, hrest⟩ := ob h
  clear h
  have hj : ∀ (v14 : Int32) (v15 : CS), e11 = (v14, v15) → ∀ (H : Heap) (locs : List Loc) (cells slots : Nat) (ls : Array Slot), lw ls 3 [(0, .ref o), (1, .int a0), (2, .int v14)] → wsH G Zd A s v15 H locs → W p l e (rmH Zd (2) st.1) s m args below meth c H locs cells slots Q (F0 m 30 ls []) := by
    intro v14 v15 he H locs cells slots ls hl hw
    subst e11
    have h := hrest
    clear hrest
    refine lv_aload_n hx hb d10_18_30 rfl (lv_at hl.1 0 rfl) ?_
    obtain ⟨u9, ho, h⟩ := ob h
    obtain ⟨st17, hc, h⟩ := ob h
    refine hV_v (ci := 9) (As := []) (rest := []) ⟨hx, hb, hml, hown, hts⟩ (cc_Store_countBlock l G Zd K o v15 st17 hc) (kw_V (n := 0) hts k724 k721 k13 k723 ks13 (by decide +kernel) ⟨Nat.le_of_ble_eq_true rfl, Nat.le_of_ble_eq_true rfl⟩) hE hw rfl rfl ho rfl hl.1.1 rfl (c1_8 c1_n (Nat.le_of_ble_eq_true rfl)) d10_18_31 (fun H locs cells slots hw => ?_)
    clear hc ho u9
    refine W.eq (g2 := F0 m 34 ls []) rfl ?_
    cases h
    exact finH_v hQ hx hb hr hlk hE hw d10_18_34
  have hloop : ∀ (n9 : Nat) (v12 : Int32) (v13 : CS), c_Store_writeLeaf_l1 K o a0 n9 (v12, v13) = some e11 → ∀ (H : Heap) (locs : List Loc) (cells slots : Nat) (ls : Array Slot), lw ls 3 [(0, .ref o), (1, .int a0), (2, .int v12)] → wsH G Zd A s v13 H locs → W p l e (rmH Zd (2) st.1) s m args below meth c H locs cells slots Q (F0 m 2 ls []) := by
    intro n9
    induction n9 with
    | zero =>
      intro v12 v13 h
      cases h
    | succ n9 ih =>
      intro v12 v13 h H locs cells slots ls hl hw
      replace h := (c_Store_writeLeaf_l1_s K o a0 n9 (v12, v13)).symm.trans h
      refine lv_iload_n hx hb d10_18_2 rfl (lv_at hl.1 2 rfl) ?_
      refine lv_iconst (v := 4) hx hb d10_18_3 (by decide) ?_
      refine lv_icmp_ge (tgt := 30) hx hb d10_18_4 rfl (fun c19 => ?_) (fun c19 => ?_)
      ·
        replace h := (if_pos c19).symm.trans h
        have e9 := Option.some.inj h
        subst e11
        have hl := lw_sub hl (l' := [(0, .ref o), (1, .int a0), (2, .int v12)]) [0, 1, 2] rfl
        exact hj _ _ rfl _ _ _ _ _ hl hw
      ·
        replace h := (if_neg c19).symm.trans h
        refine lv_aload_n hx hb d10_18_7 rfl (lv_at hl.1 0 rfl) ?_
        obtain ⟨x20, hr, h⟩ := ob h
        refine xg_q (ci := 9) (C := r_9) (T := f_9) (N := 9) (ref := "PagedValues$Store") hx hb hts (fun w h => List.mem_cons_of_mem _ (ly_9 w h)) hown hE hw rfl 0 (by decide) (hts _ (List.mem_cons_of_mem _ k236)) (fun _ h9 => h9) hr d10_18_8 ?_
        clear hr
        refine lv_iload_n hx hb d10_18_11 rfl (lv_at hl.1 1 rfl) ?_
        obtain ⟨a21z, hn21, h⟩ := ob h
        have hn21 : x20 = some a21z := hn21
        refine W.eq (g2 := F0 m 12 ls [.int a0, .ref a21z]) (by rw [hn21]; rfl) ?_
        obtain ⟨x22, hr, h⟩ := ob h
        refine xa_q hx hb hE hw (t := 6) rfl (i := a0) hr d10_18_12 ?_
        clear hr
        obtain ⟨a23z, hn23, h⟩ := ob h
        have hn23 : x22 = some a23z := hn23
        refine W.eq (g2 := F0 m 13 ls [.ref a23z]) (by rw [hn23]; rfl) ?_
        obtain ⟨x24, hr, h⟩ := ob h
        refine xgN_q (ci := 10) (C := r_10) (T := f_10) (N := 2) (ref := "PagedValues$Page") hx hb hts (fun w h => List.mem_cons_of_mem _ (ly_10 w h)) hown hE hw rfl 0 (by decide) (va_Nw.use rfl (hZ.1.1 _ kn227)) (fun _ h9 => h9) hr d10_18_13 ?_
        clear hr
        refine lv_iload_n hx hb d10_18_16 rfl (lv_at hl.1 2 rfl) ?_
        refine lv_aload_n hx hb d10_18_17 rfl (lv_at hl.1 0 rfl) ?_
        obtain ⟨x25, hr, h⟩ := ob h
        refine xg_q (ci := 9) (C := r_9) (T := f_9) (N := 9) (ref := "PagedValues$Store") hx hb hts (fun w h => List.mem_cons_of_mem _ (ly_9 w h)) hown hE hw rfl 5 (by decide) (hts _ (List.mem_cons_of_mem _ k242)) (fun _ h9 => h9) hr d10_18_18 ?_
        clear hr
        refine lv_iload_n hx hb d10_18_21 rfl (lv_at hl.1 2 rfl) ?_
        obtain ⟨a26z, hn26, h⟩ := ob h
        have hn26 : x25 = some a26z := hn26
        refine W.eq (g2 := F0 m 22 ls [.int v12, .ref a26z, .int v12, va_rf x24]) (by rw [hn26]; rfl) ?_
        obtain ⟨x27, hr, h⟩ := ob h
        refine xa_q hx hb hE hw (t := 5) rfl (i := v12) hr d10_18_22 ?_
        clear hr
        obtain ⟨a28z, hn28, h⟩ := ob h
        have hn28 : x24 = some a28z := hn28
        refine W.eq (g2 := F0 m 23 ls [va_rf x27, .int v12, .ref a28z]) (by rw [hn28]; rfl) ?_
        obtain ⟨st29, hr, h⟩ := ob h
        refine xs_q (ci := 11) (t := 5) hx hb hE hw rfl rfl (i := v12) (v := x27) hr d10_18_23 (fun H locs hw => ?_)
        clear hr
        obtain ⟨y30, hr, h⟩ := ob h
        refine xt_iinc (k := 2) (v := y30) (lv' := [(2, .int y30), (0, .ref o), (1, .int a0)]) hx hb d10_18_24 hl rfl hr (by decide) rfl (fun ls hl => ?_)
        clear hr
        refine lv_goto (tgt := 2) hx hb d10_18_27 rfl ?_
        have hl := lw_sub hl (l' := [(0, .ref o), (1, .int a0), (2, .int y30)]) [1, 2, 0] rfl
        exact ih _ _ h _ _ _ _ _ hl hw
  have hl := lw_sub hl (l' := [(0, .ref o), (1, .int a0), (2, .int 0)]) [1, 2, 0] rfl
  exact hloop _ _ _ hX _ _ _ _ _ hl hw
def c_Store_writeRoot (Zd : Nat → Nat) (K : KE) (o : Nat) (a0 : Int32) (a1 : Int32) (a2 : Int32) (a3 : Int32) (st : CS) : Option (CS) := (gQ K st o 9 0).bind fun x11 => x11.bind fun a12z => (rQ K st a12z 6 a0).bind fun x13 => x13.bind fun a14z => (gQ K st a14z 10 1).bind fun x15 => x15.bind fun a16z => (wA st a16z 1 a1 (a2)).bind fun st17 => (gQ K st17 o 9 0).bind fun x18 => x18.bind fun a19z => (rQ K st17 a19z 6 a0).bind fun x20 => x20.bind fun a21z => (gQ K st17 a21z 10 1).bind fun x22 => (some ((1 : Int32) - a1)).bind fun y23 => x22.bind fun a24z => (wA st17 a24z 1 y23 (a3)).bind fun st25 => (isO K st25 o 9).bind fun _ => (c_Store_countBlock Zd K o st25).bind fun st27 => some st27
set_option maxHeartbeats 4000000 in
set_option maxRecDepth 100000 in
theorem cc_Store_writeRoot (l : Launch) (G : Gk) (Zd : Nat → Nat) (K : KE) (o : Nat) (a0 : Int32) (a1 : Int32) (a2 : Int32) (a3 : Int32) (st : CS) (st0 : CS) (hm : c_Store_writeRoot Zd K o a0 a1 a2 a3 st = some st0) : CT l y10_19 prog_10_method_19_code 5 none G Zd K (2) [.ref o, .int a0, .int a1, .int a2, .int a3] st (hV G Zd st0) := by
  refine goH (d := 2) (y := y10_19) (cc := prog_10_method_19_code) (maxL := 5) (ret := none) (av := [.ref o, .int a0, .int a1, .int a2, .int a3]) (Qc := hV G Zd st0) "PagedValues$Store" rfl (by decide) (c1_c rfl (c1_c rfl (c1_c rfl (c1_c rfl (c1_c rfl c1_n))))) (Nat.le_of_ble_eq_true rfl) ?_
  intro p e s m below meth c ls A args Q hQ hx hb hr hlk hml hown hts hin hl hE hw
  have hl : lw ls 5 [(0, .ref o), (1, .int a0), (2, .int a1), (3, .int a2), (4, .int a3)] := hl
  have hZ := hE.2.2.1
  have h := hm
  clear hm
  refine lv_aload_n hx hb d10_19_0 rfl (lv_at hl.1 0 rfl) ?_
  obtain ⟨x11, hr, h⟩ := ob h
  refine xg_q (ci := 9) (C := r_9) (T := f_9) (N := 9) (ref := "PagedValues$Store") hx hb hts (fun w h => List.mem_cons_of_mem _ (ly_9 w h)) hown hE hw rfl 0 (by decide) (hts _ (List.mem_cons_of_mem _ k236)) (fun _ h9 => h9) hr d10_19_1 ?_
  clear hr
  refine lv_iload_n hx hb d10_19_4 rfl (lv_at hl.1 1 rfl) ?_
  obtain ⟨a12z, hn12, h⟩ := ob h
  have hn12 : x11 = some a12z := hn12
  refine W.eq (g2 := F0 m 5 ls [.int a0, .ref a12z]) (by rw [hn12]; rfl) ?_
  obtain ⟨x13, hr, h⟩ := ob h
  refine xa_q hx hb hE hw (t := 6) rfl (i := a0) hr d10_19_5 ?_
  clear hr
  obtain ⟨a14z, hn14, h⟩ := ob h
  have hn14 : x13 = some a14z := hn14
  refine W.eq (g2 := F0 m 6 ls [.ref a14z]) (by rw [hn14]; rfl) ?_
  obtain ⟨x15, hr, h⟩ := ob h
  refine xgN_q (ci := 10) (C := r_10) (T := f_10) (N := 2) (ref := "PagedValues$Page") hx hb hts (fun w h => List.mem_cons_of_mem _ (ly_10 w h)) hown hE hw rfl 1 (by decide) (va_Nw.use rfl (hZ.1.1 _ kn229)) (fun _ h9 => h9) hr d10_19_6 ?_
  clear hr
  refine lv_iload_n hx hb d10_19_9 rfl (lv_at hl.1 2 rfl) ?_
  refine lv_iload_n hx hb d10_19_10 rfl (lv_at hl.1 3 rfl) ?_
  obtain ⟨a16z, hn16, h⟩ := ob h
  have hn16 : x15 = some a16z := hn16
  refine W.eq (g2 := F0 m 11 ls [.int a2, .int a1, .ref a16z]) (by rw [hn16]; rfl) ?_
  obtain ⟨st17, hr, h⟩ := ob h
  refine xs_i hx hb hE hw (i := a1) (v := a2) hr d10_19_11 (fun H locs hw => ?_)
  clear hr
  refine lv_aload_n hx hb d10_19_12 rfl (lv_at hl.1 0 rfl) ?_
  obtain ⟨x18, hr, h⟩ := ob h
  refine xg_q (ci := 9) (C := r_9) (T := f_9) (N := 9) (ref := "PagedValues$Store") hx hb hts (fun w h => List.mem_cons_of_mem _ (ly_9 w h)) hown hE hw rfl 0 (by decide) (hts _ (List.mem_cons_of_mem _ k236)) (fun _ h9 => h9) hr d10_19_13 ?_
  clear hr
  refine lv_iload_n hx hb d10_19_16 rfl (lv_at hl.1 1 rfl) ?_
  obtain ⟨a19z, hn19, h⟩ := ob h
  have hn19 : x18 = some a19z := hn19
  refine W.eq (g2 := F0 m 17 ls [.int a0, .ref a19z]) (by rw [hn19]; rfl) ?_
  obtain ⟨x20, hr, h⟩ := ob h
  refine xa_q hx hb hE hw (t := 6) rfl (i := a0) hr d10_19_17 ?_
  clear hr
  obtain ⟨a21z, hn21, h⟩ := ob h
  have hn21 : x20 = some a21z := hn21
  refine W.eq (g2 := F0 m 18 ls [.ref a21z]) (by rw [hn21]; rfl) ?_
  obtain ⟨x22, hr, h⟩ := ob h
  refine xgN_q (ci := 10) (C := r_10) (T := f_10) (N := 2) (ref := "PagedValues$Page") hx hb hts (fun w h => List.mem_cons_of_mem _ (ly_10 w h)) hown hE hw rfl 1 (by decide) (va_Nw.use rfl (hZ.1.1 _ kn229)) (fun _ h9 => h9) hr d10_19_18 ?_
  clear hr
  refine lv_iconst (v := 1) hx hb d10_19_21 (by decide) ?_
  refine lv_iload_n hx hb d10_19_22 rfl (lv_at hl.1 2 rfl) ?_
  refine lv_isub hx hb d10_19_23 ?_
  obtain ⟨y23, hr, h⟩ := ob h
  refine lv_topi (fun y9 ey => ?_)
  have e9 := ey.trans (Option.some.inj hr)
  clear ey
  subst y9
  clear hr
  refine lv_iload hx hb d10_19_24 (lv_at hl.1 4 rfl) ?_
  obtain ⟨a24z, hn24, h⟩ := ob h
  have hn24 : x22 = some a24z := hn24
  refine W.eq (g2 := F0 m 26 ls [.int a3, .int y23, .ref a24z]) (by rw [hn24]; rfl) ?_
  obtain ⟨st25, hr, h⟩ := ob h
  refine xs_i hx hb hE hw (i := y23) (v := a3) hr d10_19_26 (fun H locs hw => ?_)
  clear hr
  refine lv_aload_n hx hb d10_19_27 rfl (lv_at hl.1 0 rfl) ?_
  obtain ⟨u9, ho, h⟩ := ob h
  obtain ⟨st27, hc, h⟩ := ob h
  refine hV_v (ci := 9) (As := []) (rest := []) ⟨hx, hb, hml, hown, hts⟩ (cc_Store_countBlock l G Zd K o st25 st27 hc) (kw_V (n := 0) hts k724 k721 k13 k723 ks13 (by decide +kernel) ⟨Nat.le_of_ble_eq_true rfl, Nat.le_of_ble_eq_true rfl⟩) hE hw rfl rfl ho rfl hl.1.1 rfl (c1_8 c1_n (Nat.le_of_ble_eq_true rfl)) d10_19_28 (fun H locs cells slots hw => ?_)
  clear hc ho u9
  refine W.eq (g2 := F0 m 31 ls []) rfl ?_
  cases h
  exact finH_v hQ hx hb hr hlk hE hw d10_19_31
def c_Store_writeMeta (Zd : Nat → Nat) (K : KE) (o : Nat) (a0 : Int32) (st : CS) : Option (CS) := (isO K st o 9).bind fun _ => (c_Store_currentMeta Zd K o st).bind fun x11 => (gQ K st o 9 2).bind fun x14 => (some ((1 : Int32) - x11)).bind fun y15 => x14.bind fun a16z => (wA st a16z 1 y15 (a0)).bind fun st17 => (gQ K st17 o 9 1).bind fun x18 => (some ((1 : Int32) - x11)).bind fun y19 => (gQ K st17 o 9 1).bind fun x20 => x20.bind fun a21z => (rA K st17 a21z 1 x11).bind fun x22 => (some (x22 + (1 : Int32))).bind fun y23 => x18.bind fun a24z => (wA st17 a24z 1 y19 (y23)).bind fun st25 => (isO K st25 o 9).bind fun _ => (c_Store_countBlock Zd K o st25).bind fun st27 => some st27
set_option maxHeartbeats 4000000 in
set_option maxRecDepth 100000 in
theorem cc_Store_writeMeta (l : Launch) (G : Gk) (Zd : Nat → Nat) (K : KE) (o : Nat) (a0 : Int32) (st : CS) (st0 : CS) (hm : c_Store_writeMeta Zd K o a0 st = some st0) : CT l y10_20 prog_10_method_20_code 3 none G Zd K (2) [.ref o, .int a0] st (hV G Zd st0) := by
  refine goH (d := 2) (y := y10_20) (cc := prog_10_method_20_code) (maxL := 3) (ret := none) (av := [.ref o, .int a0]) (Qc := hV G Zd st0) "PagedValues$Store" rfl (by decide) (c1_c rfl (c1_c rfl c1_n)) (Nat.le_of_ble_eq_true rfl) ?_
  intro p e s m below meth c ls A args Q hQ hx hb hr hlk hml hown hts hin hl hE hw
  have hl : lw ls 3 [(0, .ref o), (1, .int a0)] := hl
  have hZ := hE.2.2.1
  have h := hm
  clear hm
  refine lv_aload_n hx hb d10_20_0 rfl (lv_at hl.1 0 rfl) ?_
  obtain ⟨u9, ho, h⟩ := ob h
  obtain ⟨x11, hc, h⟩ := ob h
  refine hV_i (ci := 9) (As := []) (rest := []) ⟨hx, hb, hml, hown, hts⟩ (cc_Store_currentMeta l G Zd K o st x11 hc) (kw_V (n := 0) hts k690 k687 k13 k688 k689 (by decide +kernel) ⟨Nat.le_of_ble_eq_true rfl, Nat.le_of_ble_eq_true rfl⟩) hE hw rfl rfl ho rfl hl.1.1 rfl (c1_8 c1_n (Nat.le_of_ble_eq_true rfl)) d10_20_1 (fun H locs cells slots hw => ?_)
  clear hc ho u9
  refine W.eq (g2 := F0 m 4 ls [.int x11]) rfl ?_
  refine xt_istore_n (x := x11) (lv' := [(2, .int x11), (0, .ref o), (1, .int a0)]) hx hb d10_20_4 rfl hl (by decide) rfl (fun ls hl => ?_)
  refine lv_aload_n hx hb d10_20_5 rfl (lv_at hl.1 1 rfl) ?_
  obtain ⟨x14, hr, h⟩ := ob h
  refine xg_q (ci := 9) (C := r_9) (T := f_9) (N := 9) (ref := "PagedValues$Store") hx hb hts (fun w h => List.mem_cons_of_mem _ (ly_9 w h)) hown hE hw rfl 2 (by decide) (hts _ (List.mem_cons_of_mem _ k239)) (fun _ h9 => h9) hr d10_20_6 ?_
  clear hr
  refine lv_iconst (v := 1) hx hb d10_20_9 (by decide) ?_
  refine lv_iload_n hx hb d10_20_10 rfl (lv_at hl.1 0 rfl) ?_
  refine lv_isub hx hb d10_20_11 ?_
  obtain ⟨y15, hr, h⟩ := ob h
  refine lv_topi (fun y9 ey => ?_)
  have e9 := ey.trans (Option.some.inj hr)
  clear ey
  subst y9
  clear hr
  refine lv_iload_n hx hb d10_20_12 rfl (lv_at hl.1 2 rfl) ?_
  obtain ⟨a16z, hn16, h⟩ := ob h
  have hn16 : x14 = some a16z := hn16
  refine W.eq (g2 := F0 m 13 ls [.int a0, .int y15, .ref a16z]) (by rw [hn16]; rfl) ?_
  obtain ⟨st17, hr, h⟩ := ob h
  refine xs_i hx hb hE hw (i := y15) (v := a0) hr d10_20_13 (fun H locs hw => ?_)
  clear hr
  refine lv_aload_n hx hb d10_20_14 rfl (lv_at hl.1 1 rfl) ?_
  obtain ⟨x18, hr, h⟩ := ob h
  refine xg_q (ci := 9) (C := r_9) (T := f_9) (N := 9) (ref := "PagedValues$Store") hx hb hts (fun w h => List.mem_cons_of_mem _ (ly_9 w h)) hown hE hw rfl 1 (by decide) (hts _ (List.mem_cons_of_mem _ k237)) (fun _ h9 => h9) hr d10_20_15 ?_
  clear hr
  refine lv_iconst (v := 1) hx hb d10_20_18 (by decide) ?_
  refine lv_iload_n hx hb d10_20_19 rfl (lv_at hl.1 0 rfl) ?_
  refine lv_isub hx hb d10_20_20 ?_
  obtain ⟨y19, hr, h⟩ := ob h
  refine lv_topi (fun y9 ey => ?_)
  have e9 := ey.trans (Option.some.inj hr)
  clear ey
  subst y9
  clear hr
  refine lv_aload_n hx hb d10_20_21 rfl (lv_at hl.1 1 rfl) ?_
  obtain ⟨x20, hr, h⟩ := ob h
  refine xg_q (ci := 9) (C := r_9) (T := f_9) (N := 9) (ref := "PagedValues$Store") hx hb hts (fun w h => List.mem_cons_of_mem _ (ly_9 w h)) hown hE hw rfl 1 (by decide) (hts _ (List.mem_cons_of_mem _ k237)) (fun _ h9 => h9) hr d10_20_22 ?_
  clear hr
  refine lv_iload_n hx hb d10_20_25 rfl (lv_at hl.1 0 rfl) ?_
  obtain ⟨a21z, hn21, h⟩ := ob h
  have hn21 : x20 = some a21z := hn21
  refine W.eq (g2 := F0 m 26 ls [.int x11, .ref a21z, .int y19, va_rf x18]) (by rw [hn21]; rfl) ?_
  obtain ⟨x22, hr, h⟩ := ob h
  refine xa_i hx hb hE hw (i := x11) hr d10_20_26 ?_
  clear hr
  refine lv_iconst (v := 1) hx hb d10_20_27 (by decide) ?_
  refine lv_iadd hx hb d10_20_28 ?_
  obtain ⟨y23, hr, h⟩ := ob h
  refine lv_topi (fun y9 ey => ?_)
  have e9 := ey.trans (Option.some.inj hr)
  clear ey
  subst y9
  clear hr
  obtain ⟨a24z, hn24, h⟩ := ob h
  have hn24 : x18 = some a24z := hn24
  refine W.eq (g2 := F0 m 29 ls [.int y23, .int y19, .ref a24z]) (by rw [hn24]; rfl) ?_
  obtain ⟨st25, hr, h⟩ := ob h
  refine xs_i hx hb hE hw (i := y19) (v := y23) hr d10_20_29 (fun H locs hw => ?_)
  clear hr
  refine lv_aload_n hx hb d10_20_30 rfl (lv_at hl.1 1 rfl) ?_
  obtain ⟨u9, ho, h⟩ := ob h
  obtain ⟨st27, hc, h⟩ := ob h
  refine hV_v (ci := 9) (As := []) (rest := []) ⟨hx, hb, hml, hown, hts⟩ (cc_Store_countBlock l G Zd K o st25 st27 hc) (kw_V (n := 0) hts k724 k721 k13 k723 ks13 (by decide +kernel) ⟨Nat.le_of_ble_eq_true rfl, Nat.le_of_ble_eq_true rfl⟩) hE hw rfl rfl ho rfl hl.1.1 rfl (c1_8 c1_n (Nat.le_of_ble_eq_true rfl)) d10_20_31 (fun H locs cells slots hw => ?_)
  clear hc ho u9
  refine W.eq (g2 := F0 m 34 ls []) rfl ?_
  cases h
  exact finH_v hQ hx hb hr hlk hE hw d10_20_34
def c_Store_change (Zd : Nat → Nat) (K : KE) (o : Nat) (a0 : Int32) (a1 : Option Nat) (st : CS) : Option (Int32 × CS) := (some (a0 / (4 : Int32))).bind fun y11 => (isO K st o 9).bind fun _ => (c_Store_currentRoot Zd K o st).bind fun x12 => (some ((1 : Int32) - y11)).bind fun y15 => (isO K st o 9).bind fun _ => (c_Store_leafOf Zd K o x12 y15 st).bind fun x16 => (isO K st o 9).bind fun _ => (c_Store_draftHalf Zd K o y11 a0 a1 st).bind fun r21 => (if r21.1 = (0 : Int32) then (if x16 = ((-1) : Int32) then (some (0 : Int32)) else (some (1 : Int32))) else (some (1 : Int32))).bind fun e22 => (if r21.1 = (0 : Int32) then (some ((-1) : Int32)) else ((isO K r21.2 o 9).bind fun _ => (c_Store_freeFrom Zd K o (0 : Int32) r21.2).bind fun x140 => some x140)).bind fun e24 => (if e22 = (0 : Int32) then (some ((-1) : Int32)) else ((some (e24 + (1 : Int32))).bind fun y135 => (isO K r21.2 o 9).bind fun _ => (c_Store_freeFrom Zd K o y135 r21.2).bind fun x136 => some x136)).bind fun e26 => if r21.1 = (0 : Int32) then (if e22 = (0 : Int32) then ((if r21.1 = (0 : Int32) then (some r21.2) else ((isO K r21.2 o 9).bind fun _ => (c_Store_writeLeaf Zd K o e24 r21.2).bind fun st53 => some st53)).bind fun e30 => (if e22 = (0 : Int32) then (some e30) else ((gI K e30 o 9 8).bind fun x46 => if x46 = (0 : Int32) then ((isO K e30 o 9).bind fun _ => (c_Store_writeRoot Zd K o e26 y11 e24 x16 e30).bind fun st49 => some st49) else (some e30))).bind fun e32 => (gI K e32 o 9 8).bind fun x34 => (if x34 = (0 : Int32) then ((isO K e32 o 9).bind fun _ => (c_Store_writeMeta Zd K o e26 e32).bind fun st43 => some st43) else (some e32)).bind fun e35 => (gI K e35 o 9 8).bind fun x37 => (if x37 = (0 : Int32) then (some (0 : Int32)) else (some ((-9) : Int32))).bind fun e38 => some (e38, e35)) else (if e26 = ((-1) : Int32) then (some (((-2) : Int32), r21.2)) else ((if r21.1 = (0 : Int32) then (some r21.2) else ((isO K r21.2 o 9).bind fun _ => (c_Store_writeLeaf Zd K o e24 r21.2).bind fun st79 => some st79)).bind fun e56 => (if e22 = (0 : Int32) then (some e56) else ((gI K e56 o 9 8).bind fun x72 => if x72 = (0 : Int32) then ((isO K e56 o 9).bind fun _ => (c_Store_writeRoot Zd K o e26 y11 e24 x16 e56).bind fun st75 => some st75) else (some e56))).bind fun e58 => (gI K e58 o 9 8).bind fun x60 => (if x60 = (0 : Int32) then ((isO K e58 o 9).bind fun _ => (c_Store_writeMeta Zd K o e26 e58).bind fun st69 => some st69) else (some e58)).bind fun e61 => (gI K e61 o 9 8).bind fun x63 => (if x63 = (0 : Int32) then (some (0 : Int32)) else (some ((-9) : Int32))).bind fun e64 => some (e64, e61)))) else (if e24 = ((-1) : Int32) then (some (((-2) : Int32), r21.2)) else (if e22 = (0 : Int32) then ((if r21.1 = (0 : Int32) then (some r21.2) else ((isO K r21.2 o 9).bind fun _ => (c_Store_writeLeaf Zd K o e24 r21.2).bind fun st106 => some st106)).bind fun e83 => (if e22 = (0 : Int32) then (some e83) else ((gI K e83 o 9 8).bind fun x99 => if x99 = (0 : Int32) then ((isO K e83 o 9).bind fun _ => (c_Store_writeRoot Zd K o e26 y11 e24 x16 e83).bind fun st102 => some st102) else (some e83))).bind fun e85 => (gI K e85 o 9 8).bind fun x87 => (if x87 = (0 : Int32) then ((isO K e85 o 9).bind fun _ => (c_Store_writeMeta Zd K o e26 e85).bind fun st96 => some st96) else (some e85)).bind fun e88 => (gI K e88 o 9 8).bind fun x90 => (if x90 = (0 : Int32) then (some (0 : Int32)) else (some ((-9) : Int32))).bind fun e91 => some (e91, e88)) else (if e26 = ((-1) : Int32) then (some (((-2) : Int32), r21.2)) else ((if r21.1 = (0 : Int32) then (some r21.2) else ((isO K r21.2 o 9).bind fun _ => (c_Store_writeLeaf Zd K o e24 r21.2).bind fun st132 => some st132)).bind fun e109 => (if e22 = (0 : Int32) then (some e109) else ((gI K e109 o 9 8).bind fun x125 => if x125 = (0 : Int32) then ((isO K e109 o 9).bind fun _ => (c_Store_writeRoot Zd K o e26 y11 e24 x16 e109).bind fun st128 => some st128) else (some e109))).bind fun e111 => (gI K e111 o 9 8).bind fun x113 => (if x113 = (0 : Int32) then ((isO K e111 o 9).bind fun _ => (c_Store_writeMeta Zd K o e26 e111).bind fun st122 => some st122) else (some e111)).bind fun e114 => (gI K e114 o 9 8).bind fun x116 => (if x116 = (0 : Int32) then (some (0 : Int32)) else (some ((-9) : Int32))).bind fun e117 => some (e117, e114)))))
set_option maxHeartbeats 4000000 in
set_option maxRecDepth 100000 in
theorem cc_Store_change (l : Launch) (G : Gk) (Zd : Nat → Nat) (K : KE) (o : Nat) (a0 : Int32) (a1 : Option Nat) (st : CS) (r0 : Int32) (st0 : CS) (hm : c_Store_change Zd K o a0 a1 st = some (r0, st0)) : CT l y10_16 prog_10_method_16_code 9 (some .int) G Zd K (4) [.ref o, .int a0, va_rf a1] st (hI G Zd r0 st0) := by
  refine goH (d := 4) (y := y10_16) (cc := prog_10_method_16_code) (maxL := 9) (ret := (some .int)) (av := [.ref o, .int a0, va_rf a1]) (Qc := hI G Zd r0 st0) "PagedValues$Store" rfl (by decide) (c1_c rfl (c1_c rfl (c1_c (rf_cat _) c1_n))) (Nat.le_of_ble_eq_true rfl) ?_
  intro p e s m below meth c ls A args Q hQ hx hb hr hlk hml hown hts hin hl hE hw
  have hl : lw ls 9 [(0, .ref o), (1, .int a0), (2, va_rf a1)] := hl
  have hZ := hE.2.2.1
  have h := hm
  clear hm
  refine lv_iload_n hx hb d10_16_0 rfl (lv_at hl.1 1 rfl) ?_
  refine lv_iconst (v := 4) hx hb d10_16_1 (by decide) ?_
  refine lv_idiv hx hb d10_16_2 (by decide) ?_
  obtain ⟨y11, hr, h⟩ := ob h
  refine lv_topi (fun y9 ey => ?_)
  have e9 := ey.trans (Option.some.inj hr)
  clear ey
  subst y9
  clear hr
  refine xt_istore_n (x := y11) (lv' := [(3, .int y11), (0, .ref o), (1, .int a0), (2, va_rf a1)]) hx hb d10_16_3 rfl hl (by decide) rfl (fun ls hl => ?_)
  refine lv_aload_n hx hb d10_16_4 rfl (lv_at hl.1 1 rfl) ?_
  refine lv_aload_n hx hb d10_16_5 rfl (lv_at hl.1 1 rfl) ?_
  obtain ⟨u9, ho, h⟩ := ob h
  obtain ⟨x12, hc, h⟩ := ob h
  refine hV_i (ci := 9) (As := []) (rest := [.ref o]) ⟨hx, hb, hml, hown, hts⟩ (cc_Store_currentRoot l G Zd K o st x12 hc) (kw_V (n := 0) hts k686 k683 k13 k684 k685 (by decide +kernel) ⟨Nat.le_of_ble_eq_true rfl, Nat.le_of_ble_eq_true rfl⟩) hE hw rfl rfl ho rfl hl.1.1 rfl (c1_8 (c1_c rfl c1_n) (Nat.le_of_ble_eq_true rfl)) d10_16_6 (fun H locs cells slots hw => ?_)
  clear hc ho u9
  refine W.eq (g2 := F0 m 9 ls [.int x12, .ref o]) rfl ?_
  refine lv_iconst (v := 1) hx hb d10_16_9 (by decide) ?_
  refine lv_iload_n hx hb d10_16_10 rfl (lv_at hl.1 0 rfl) ?_
  refine lv_isub hx hb d10_16_11 ?_
  obtain ⟨y15, hr, h⟩ := ob h
  refine lv_topi (fun y9 ey => ?_)
  have e9 := ey.trans (Option.some.inj hr)
  clear ey
  subst y9
  clear hr
  obtain ⟨u9, ho, h⟩ := ob h
  obtain ⟨x16, hc, h⟩ := ob h
  refine hV_i (ci := 9) (As := [.int x12, .int y15]) (rest := []) ⟨hx, hb, hml, hown, hts⟩ (cc_Store_leafOf l G Zd K o x12 y15 st x16 hc) (kw_V (n := 2) hts k694 k691 k13 k693 ks8 (by decide +kernel) ⟨Nat.le_of_ble_eq_true rfl, Nat.le_of_ble_eq_true rfl⟩) hE hw rfl rfl ho rfl hl.1.1 rfl (c1_8 c1_n (Nat.le_of_ble_eq_true rfl)) d10_16_12 (fun H locs cells slots hw => ?_)
  clear hc ho u9
  refine W.eq (g2 := F0 m 15 ls [.int x16]) rfl ?_
  refine xt_istore (x := x16) (lv' := [(4, .int x16), (3, .int y11), (0, .ref o), (1, .int a0), (2, va_rf a1)]) hx hb d10_16_15 hl (by decide) rfl (fun ls hl => ?_)
  refine lv_aload_n hx hb d10_16_17 rfl (lv_at hl.1 2 rfl) ?_
  refine lv_iload_n hx hb d10_16_18 rfl (lv_at hl.1 1 rfl) ?_
  refine lv_iload_n hx hb d10_16_19 rfl (lv_at hl.1 3 rfl) ?_
  refine xq_aload_n (r := a1) hx hb d10_16_20 rfl (lv_at hl.1 4 rfl) ?_
  obtain ⟨u9, ho, h⟩ := ob h
  obtain ⟨⟨x19, st20⟩, hc, h⟩ := ob h
  refine hV_i (ci := 9) (As := [.int y11, .int a0, va_rf a1]) (rest := []) ⟨hx, hb, hml, hown, hts⟩ (cc_Store_draftHalf l G Zd K o y11 a0 a1 st x19 st20 hc) (kw_V (n := 3) hts k698 k695 k13 k697 ks9 (by decide +kernel) ⟨Nat.le_of_ble_eq_true rfl, Nat.le_of_ble_eq_true rfl⟩) hE hw rfl rfl ho rfl hl.1.1 rfl (c1_8 c1_n (Nat.le_of_ble_eq_true rfl)) d10_16_21 (fun H locs cells slots hw => ?_)
  clear hc ho u9
  refine W.eq (g2 := F0 m 24 ls [.int x19]) rfl ?_
  refine xt_istore (x := x19) (lv' := [(5, .int x19), (4, .int x16), (3, .int y11), (0, .ref o), (1, .int a0), (2, va_rf a1)]) hx hb d10_16_24 hl (by decide) rfl (fun ls hl => ?_)
  refine lv_iload hx hb d10_16_26 (lv_at hl.1 0 rfl) ?_
  obtain ⟨e22, hX, h⟩ := ob h
  have hj : ∀ (H : Heap) (locs : List Loc) (cells slots : Nat) (ls : Array Slot), lw ls 9 [(0, .ref o), (1, .int a0), (2, va_rf a1), (3, .int y11), (4, .int x16), (5, .int x19)] → wsH G Zd A s st20 H locs → W p l e (rmH Zd (4) st.1) s m args below meth c H locs cells slots Q (F0 m 42 ls [.int e22]) := by
    intro H locs cells slots ls hl hw
    refine xt_istore (x := e22) (lv' := [(6, .int e22), (0, .ref o), (1, .int a0), (2, va_rf a1), (3, .int y11), (4, .int x16), (5, .int x19)]) hx hb d10_16_42 hl (by decide) rfl (fun ls hl => ?_)
    refine lv_iload hx hb d10_16_44 (lv_at hl.1 6 rfl) ?_
    obtain ⟨e24, hX, h⟩ := ob h
    have hj : ∀ (H : Heap) (locs : List Loc) (cells slots : Nat) (ls : Array Slot), lw ls 9 [(0, .ref o), (1, .int a0), (2, va_rf a1), (3, .int y11), (4, .int x16), (5, .int x19), (6, .int e22)] → wsH G Zd A s st20 H locs → W p l e (rmH Zd (4) st.1) s m args below meth c H locs cells slots Q (F0 m 58 ls [.int e24]) := by
      intro H locs cells slots ls hl hw
      refine xt_istore (x := e24) (lv' := [(7, .int e24), (0, .ref o), (1, .int a0), (2, va_rf a1), (3, .int y11), (4, .int x16), (5, .int x19), (6, .int e22)]) hx hb d10_16_58 hl (by decide) rfl (fun ls hl => ?_)
      refine lv_iload hx hb d10_16_60 (lv_at hl.1 7 rfl) ?_
      obtain ⟨e26, hX, h⟩ := ob h
      have hj : ∀ (H : Heap) (locs : List Loc) (cells slots : Nat) (ls : Array Slot), lw ls 9 [(0, .ref o), (1, .int a0), (2, va_rf a1), (3, .int y11), (4, .int x16), (5, .int x19), (6, .int e22), (7, .int e24)] → wsH G Zd A s st20 H locs → W p l e (rmH Zd (4) st.1) s m args below meth c H locs cells slots Q (F0 m 77 ls [.int e26]) := by
        intro H locs cells slots ls hl hw
        refine xt_istore (x := e26) (lv' := [(8, .int e26), (0, .ref o), (1, .int a0), (2, va_rf a1), (3, .int y11), (4, .int x16), (5, .int x19), (6, .int e22), (7, .int e24)]) hx hb d10_16_77 hl (by decide) rfl (fun ls hl => ?_)
        refine lv_iload hx hb d10_16_79 (lv_at hl.1 6 rfl) ?_
        refine lv_if_eq (tgt := 90) hx hb d10_16_81 rfl (fun c28 => ?_) (fun c28 => ?_)
        ·
          replace h := (if_pos c28).symm.trans h
          refine lv_iload hx hb d10_16_90 (lv_at hl.1 7 rfl) ?_
          refine lv_if_eq (tgt := 104) hx hb d10_16_92 rfl (fun c29 => ?_) (fun c29 => ?_)
          ·
            replace h := (if_pos c29).symm.trans h
            refine lv_iload hx hb d10_16_104 (lv_at hl.1 6 rfl) ?_
            obtain ⟨e30, hX, h⟩ := ob h
            have hj : ∀ (H : Heap) (locs : List Loc) (cells slots : Nat) (ls : Array Slot), lw ls 9 [(0, .ref o), (1, .int a0), (2, va_rf a1), (3, .int y11), (4, .int x16), (5, .int x19), (6, .int e22), (7, .int e24), (8, .int e26)] → wsH G Zd A s e30 H locs → W p l e (rmH Zd (4) st.1) s m args below meth c H locs cells slots Q (F0 m 115 ls []) := by
              intro H locs cells slots ls hl hw
              refine lv_iload hx hb d10_16_115 (lv_at hl.1 6 rfl) ?_
              obtain ⟨e32, hX, h⟩ := ob h
              have hj : ∀ (H : Heap) (locs : List Loc) (cells slots : Nat) (ls : Array Slot), lw ls 9 [(0, .ref o), (1, .int a0), (2, va_rf a1), (3, .int y11), (4, .int x16), (5, .int x19), (6, .int e22), (7, .int e24), (8, .int e26)] → wsH G Zd A s e32 H locs → W p l e (rmH Zd (4) st.1) s m args below meth c H locs cells slots Q (F0 m 138 ls []) := by
                intro H locs cells slots ls hl hw
                refine lv_aload_n hx hb d10_16_138 rfl (lv_at hl.1 0 rfl) ?_
                obtain ⟨x34, hr, h⟩ := ob h
                refine xg_i (ci := 9) (C := r_9) (T := f_9) (N := 9) (ref := "PagedValues$Store") hx hb hts (fun w h => List.mem_cons_of_mem _ (ly_9 w h)) hown hE hw rfl 8 (by decide) (hts _ (List.mem_cons_of_mem _ k248)) (fun _ h9 => h9) hr d10_16_139 ?_
                clear hr
                obtain ⟨e35, hX, h⟩ := ob h
                have hj : ∀ (H : Heap) (locs : List Loc) (cells slots : Nat) (ls : Array Slot), lw ls 9 [(0, .ref o), (1, .int a0), (2, va_rf a1), (3, .int y11), (4, .int x16), (5, .int x19), (6, .int e22), (7, .int e24), (8, .int e26)] → wsH G Zd A s e35 H locs → W p l e (rmH Zd (4) st.1) s m args below meth c H locs cells slots Q (F0 m 151 ls []) := by
                  intro H locs cells slots ls hl hw
                  refine lv_aload_n hx hb d10_16_151 rfl (lv_at hl.1 0 rfl) ?_
                  obtain ⟨x37, hr, h⟩ := ob h
                  refine xg_i (ci := 9) (C := r_9) (T := f_9) (N := 9) (ref := "PagedValues$Store") hx hb hts (fun w h => List.mem_cons_of_mem _ (ly_9 w h)) hown hE hw rfl 8 (by decide) (hts _ (List.mem_cons_of_mem _ k248)) (fun _ h9 => h9) hr d10_16_152 ?_
                  clear hr
                  obtain ⟨e38, hX, h⟩ := ob h
                  have hj : ∀ (H : Heap) (locs : List Loc) (cells slots : Nat) (ls : Array Slot), lw ls 9 [(0, .ref o), (1, .int a0), (2, va_rf a1), (3, .int y11), (4, .int x16), (5, .int x19), (6, .int e22), (7, .int e24), (8, .int e26)] → wsH G Zd A s e35 H locs → W p l e (rmH Zd (4) st.1) s m args below meth c H locs cells slots Q (F0 m 164 ls [.int e38]) := by
                    intro H locs cells slots ls hl hw
                    cases h
                    exact finH_i hQ hx hb hr hlk hE hw d10_16_164
                  clear h
                  refine lv_if_eq (tgt := 163) hx hb d10_16_155 rfl (fun c40 => ?_) (fun c40 => ?_)
                  ·
                    replace h := (if_pos c40).symm.trans hX
                    refine lv_iconst (v := 0) hx hb d10_16_163 (by decide) ?_
                    have e9 := Option.some.inj h
                    subst e38
                    have hl := lw_sub hl (l' := [(0, .ref o), (1, .int a0), (2, va_rf a1), (3, .int y11), (4, .int x16), (5, .int x19), (6, .int e22), (7, .int e24), (8, .int e26)]) [0, 1, 2, 3, 4, 5, 6, 7, 8] rfl
                    exact hj _ _ _ _ _ hl hw
                  ·
                    replace h := (if_neg c40).symm.trans hX
                    refine lv_bipush (v := (-9)) hx hb d10_16_158 (by decide) ?_
                    refine lv_goto (tgt := 164) hx hb d10_16_160 rfl ?_
                    have e9 := Option.some.inj h
                    subst e38
                    have hl := lw_sub hl (l' := [(0, .ref o), (1, .int a0), (2, va_rf a1), (3, .int y11), (4, .int x16), (5, .int x19), (6, .int e22), (7, .int e24), (8, .int e26)]) [0, 1, 2, 3, 4, 5, 6, 7, 8] rfl
                    exact hj _ _ _ _ _ hl hw
                clear h
                refine lv_if_ne (tgt := 151) hx hb d10_16_142 rfl (fun c41 => ?_) (fun c41 => ?_)
                ·
                  replace h := (if_neg c41).symm.trans hX
                  have e9 := Option.some.inj h
                  subst e35
                  have hl := lw_sub hl (l' := [(0, .ref o), (1, .int a0), (2, va_rf a1), (3, .int y11), (4, .int x16), (5, .int x19), (6, .int e22), (7, .int e24), (8, .int e26)]) [0, 1, 2, 3, 4, 5, 6, 7, 8] rfl
                  exact hj _ _ _ _ _ hl hw
                ·
                  replace h := (if_pos c41).symm.trans hX
                  refine lv_aload_n hx hb d10_16_145 rfl (lv_at hl.1 0 rfl) ?_
                  refine lv_iload hx hb d10_16_146 (lv_at hl.1 8 rfl) ?_
                  obtain ⟨u9, ho, h⟩ := ob h
                  obtain ⟨st43, hc, h⟩ := ob h
                  refine hV_v (ci := 9) (As := [.int e26]) (rest := []) ⟨hx, hb, hml, hown, hts⟩ (cc_Store_writeMeta l G Zd K o e26 e32 st43 hc) (kw_V (n := 1) hts k736 k733 k13 k735 ks16 (by decide +kernel) ⟨Nat.le_of_ble_eq_true rfl, Nat.le_of_ble_eq_true rfl⟩) hE hw rfl rfl ho rfl hl.1.1 rfl (c1_8 c1_n (Nat.le_of_ble_eq_true rfl)) d10_16_148 (fun H locs cells slots hw => ?_)
                  clear hc ho u9
                  refine W.eq (g2 := F0 m 151 ls []) rfl ?_
                  have e9 := Option.some.inj h
                  subst e35
                  have hl := lw_sub hl (l' := [(0, .ref o), (1, .int a0), (2, va_rf a1), (3, .int y11), (4, .int x16), (5, .int x19), (6, .int e22), (7, .int e24), (8, .int e26)]) [0, 1, 2, 3, 4, 5, 6, 7, 8] rfl
                  exact hj _ _ _ _ _ hl hw
              clear h
              refine lv_if_eq (tgt := 138) hx hb d10_16_117 rfl (fun c45 => ?_) (fun c45 => ?_)
              ·
                replace h := (if_pos c45).symm.trans hX
                have e9 := Option.some.inj h
                subst e32
                have hl := lw_sub hl (l' := [(0, .ref o), (1, .int a0), (2, va_rf a1), (3, .int y11), (4, .int x16), (5, .int x19), (6, .int e22), (7, .int e24), (8, .int e26)]) [0, 1, 2, 3, 4, 5, 6, 7, 8] rfl
                exact hj _ _ _ _ _ hl hw
              ·
                replace h := (if_neg c45).symm.trans hX
                refine lv_aload_n hx hb d10_16_120 rfl (lv_at hl.1 0 rfl) ?_
                obtain ⟨x46, hr, h⟩ := ob h
                refine xg_i (ci := 9) (C := r_9) (T := f_9) (N := 9) (ref := "PagedValues$Store") hx hb hts (fun w h => List.mem_cons_of_mem _ (ly_9 w h)) hown hE hw rfl 8 (by decide) (hts _ (List.mem_cons_of_mem _ k248)) (fun _ h9 => h9) hr d10_16_121 ?_
                clear hr
                refine lv_if_ne (tgt := 138) hx hb d10_16_124 rfl (fun c47 => ?_) (fun c47 => ?_)
                ·
                  replace h := (if_neg c47).symm.trans h
                  have e9 := Option.some.inj h
                  subst e32
                  have hl := lw_sub hl (l' := [(0, .ref o), (1, .int a0), (2, va_rf a1), (3, .int y11), (4, .int x16), (5, .int x19), (6, .int e22), (7, .int e24), (8, .int e26)]) [0, 1, 2, 3, 4, 5, 6, 7, 8] rfl
                  exact hj _ _ _ _ _ hl hw
                ·
                  replace h := (if_pos c47).symm.trans h
                  refine lv_aload_n hx hb d10_16_127 rfl (lv_at hl.1 0 rfl) ?_
                  refine lv_iload hx hb d10_16_128 (lv_at hl.1 8 rfl) ?_
                  refine lv_iload_n hx hb d10_16_130 rfl (lv_at hl.1 3 rfl) ?_
                  refine lv_iload hx hb d10_16_131 (lv_at hl.1 7 rfl) ?_
                  refine lv_iload hx hb d10_16_133 (lv_at hl.1 4 rfl) ?_
                  obtain ⟨u9, ho, h⟩ := ob h
                  obtain ⟨st49, hc, h⟩ := ob h
                  refine hV_v (ci := 9) (As := [.int e26, .int y11, .int e24, .int x16]) (rest := []) ⟨hx, hb, hml, hown, hts⟩ (cc_Store_writeRoot l G Zd K o e26 y11 e24 x16 e30 st49 hc) (kw_V (n := 4) hts k732 k729 k13 k731 ks15 (by decide +kernel) ⟨Nat.le_of_ble_eq_true rfl, Nat.le_of_ble_eq_true rfl⟩) hE hw rfl rfl ho rfl hl.1.1 rfl (c1_8 c1_n (Nat.le_of_ble_eq_true rfl)) d10_16_135 (fun H locs cells slots hw => ?_)
                  clear hc ho u9
                  refine W.eq (g2 := F0 m 138 ls []) rfl ?_
                  have e9 := Option.some.inj h
                  subst e32
                  have hl := lw_sub hl (l' := [(0, .ref o), (1, .int a0), (2, va_rf a1), (3, .int y11), (4, .int x16), (5, .int x19), (6, .int e22), (7, .int e24), (8, .int e26)]) [0, 1, 2, 3, 4, 5, 6, 7, 8] rfl
                  exact hj _ _ _ _ _ hl hw
            clear h
            refine lv_if_eq (tgt := 115) hx hb d10_16_106 rfl (fun c51 => ?_) (fun c51 => ?_)
            ·
              replace h := (if_pos c51).symm.trans hX
              have e9 := Option.some.inj h
              subst e30
              have hl := lw_sub hl (l' := [(0, .ref o), (1, .int a0), (2, va_rf a1), (3, .int y11), (4, .int x16), (5, .int x19), (6, .int e22), (7, .int e24), (8, .int e26)]) [1, 2, 3, 4, 5, 6, 7, 8, 0] rfl
              exact hj _ _ _ _ _ hl hw
            ·
              replace h := (if_neg c51).symm.trans hX
              refine lv_aload_n hx hb d10_16_109 rfl (lv_at hl.1 1 rfl) ?_
              refine lv_iload hx hb d10_16_110 (lv_at hl.1 8 rfl) ?_
              obtain ⟨u9, ho, h⟩ := ob h
              obtain ⟨st53, hc, h⟩ := ob h
              refine hV_v (ci := 9) (As := [.int e24]) (rest := []) ⟨hx, hb, hml, hown, hts⟩ (cc_Store_writeLeaf l G Zd K o e24 st20 st53 hc) (kw_V (n := 1) hts k720 k717 k13 k719 ks12 (by decide +kernel) ⟨Nat.le_of_ble_eq_true rfl, Nat.le_of_ble_eq_true rfl⟩) hE hw rfl rfl ho rfl hl.1.1 rfl (c1_8 c1_n (Nat.le_of_ble_eq_true rfl)) d10_16_112 (fun H locs cells slots hw => ?_)
              clear hc ho u9
              refine W.eq (g2 := F0 m 115 ls []) rfl ?_
              have e9 := Option.some.inj h
              subst e30
              have hl := lw_sub hl (l' := [(0, .ref o), (1, .int a0), (2, va_rf a1), (3, .int y11), (4, .int x16), (5, .int x19), (6, .int e22), (7, .int e24), (8, .int e26)]) [1, 2, 3, 4, 5, 6, 7, 8, 0] rfl
              exact hj _ _ _ _ _ hl hw
          ·
            replace h := (if_neg c29).symm.trans h
            refine lv_iload hx hb d10_16_95 (lv_at hl.1 0 rfl) ?_
            refine lv_iconst (v := (-1)) hx hb d10_16_97 (by decide) ?_
            refine lv_icmp_ne (tgt := 104) hx hb d10_16_98 rfl (fun c55 => ?_) (fun c55 => ?_)
            ·
              replace h := (if_neg c55).symm.trans h
              refine lv_iload hx hb d10_16_104 (lv_at hl.1 6 rfl) ?_
              obtain ⟨e56, hX, h⟩ := ob h
              have hj : ∀ (H : Heap) (locs : List Loc) (cells slots : Nat) (ls : Array Slot), lw ls 9 [(0, .ref o), (1, .int a0), (2, va_rf a1), (3, .int y11), (4, .int x16), (5, .int x19), (6, .int e22), (7, .int e24), (8, .int e26)] → wsH G Zd A s e56 H locs → W p l e (rmH Zd (4) st.1) s m args below meth c H locs cells slots Q (F0 m 115 ls []) := by
                intro H locs cells slots ls hl hw
                refine lv_iload hx hb d10_16_115 (lv_at hl.1 6 rfl) ?_
                obtain ⟨e58, hX, h⟩ := ob h
                have hj : ∀ (H : Heap) (locs : List Loc) (cells slots : Nat) (ls : Array Slot), lw ls 9 [(0, .ref o), (1, .int a0), (2, va_rf a1), (3, .int y11), (4, .int x16), (5, .int x19), (6, .int e22), (7, .int e24), (8, .int e26)] → wsH G Zd A s e58 H locs → W p l e (rmH Zd (4) st.1) s m args below meth c H locs cells slots Q (F0 m 138 ls []) := by
                  intro H locs cells slots ls hl hw
                  refine lv_aload_n hx hb d10_16_138 rfl (lv_at hl.1 0 rfl) ?_
                  obtain ⟨x60, hr, h⟩ := ob h
                  refine xg_i (ci := 9) (C := r_9) (T := f_9) (N := 9) (ref := "PagedValues$Store") hx hb hts (fun w h => List.mem_cons_of_mem _ (ly_9 w h)) hown hE hw rfl 8 (by decide) (hts _ (List.mem_cons_of_mem _ k248)) (fun _ h9 => h9) hr d10_16_139 ?_
                  clear hr
                  obtain ⟨e61, hX, h⟩ := ob h
                  have hj : ∀ (H : Heap) (locs : List Loc) (cells slots : Nat) (ls : Array Slot), lw ls 9 [(0, .ref o), (1, .int a0), (2, va_rf a1), (3, .int y11), (4, .int x16), (5, .int x19), (6, .int e22), (7, .int e24), (8, .int e26)] → wsH G Zd A s e61 H locs → W p l e (rmH Zd (4) st.1) s m args below meth c H locs cells slots Q (F0 m 151 ls []) := by
                    intro H locs cells slots ls hl hw
                    refine lv_aload_n hx hb d10_16_151 rfl (lv_at hl.1 0 rfl) ?_
                    obtain ⟨x63, hr, h⟩ := ob h
                    refine xg_i (ci := 9) (C := r_9) (T := f_9) (N := 9) (ref := "PagedValues$Store") hx hb hts (fun w h => List.mem_cons_of_mem _ (ly_9 w h)) hown hE hw rfl 8 (by decide) (hts _ (List.mem_cons_of_mem _ k248)) (fun _ h9 => h9) hr d10_16_152 ?_
                    clear hr
                    obtain ⟨e64, hX, h⟩ := ob h
                    have hj : ∀ (H : Heap) (locs : List Loc) (cells slots : Nat) (ls : Array Slot), lw ls 9 [(0, .ref o), (1, .int a0), (2, va_rf a1), (3, .int y11), (4, .int x16), (5, .int x19), (6, .int e22), (7, .int e24), (8, .int e26)] → wsH G Zd A s e61 H locs → W p l e (rmH Zd (4) st.1) s m args below meth c H locs cells slots Q (F0 m 164 ls [.int e64]) := by
                      intro H locs cells slots ls hl hw
                      cases h
                      exact finH_i hQ hx hb hr hlk hE hw d10_16_164
                    clear h
                    refine lv_if_eq (tgt := 163) hx hb d10_16_155 rfl (fun c66 => ?_) (fun c66 => ?_)
                    ·
                      replace h := (if_pos c66).symm.trans hX
                      refine lv_iconst (v := 0) hx hb d10_16_163 (by decide) ?_
                      have e9 := Option.some.inj h
                      subst e64
                      have hl := lw_sub hl (l' := [(0, .ref o), (1, .int a0), (2, va_rf a1), (3, .int y11), (4, .int x16), (5, .int x19), (6, .int e22), (7, .int e24), (8, .int e26)]) [0, 1, 2, 3, 4, 5, 6, 7, 8] rfl
                      exact hj _ _ _ _ _ hl hw
                    ·
                      replace h := (if_neg c66).symm.trans hX
                      refine lv_bipush (v := (-9)) hx hb d10_16_158 (by decide) ?_
                      refine lv_goto (tgt := 164) hx hb d10_16_160 rfl ?_
                      have e9 := Option.some.inj h
                      subst e64
                      have hl := lw_sub hl (l' := [(0, .ref o), (1, .int a0), (2, va_rf a1), (3, .int y11), (4, .int x16), (5, .int x19), (6, .int e22), (7, .int e24), (8, .int e26)]) [0, 1, 2, 3, 4, 5, 6, 7, 8] rfl
                      exact hj _ _ _ _ _ hl hw
                  clear h
                  refine lv_if_ne (tgt := 151) hx hb d10_16_142 rfl (fun c67 => ?_) (fun c67 => ?_)
                  ·
                    replace h := (if_neg c67).symm.trans hX
                    have e9 := Option.some.inj h
                    subst e61
                    have hl := lw_sub hl (l' := [(0, .ref o), (1, .int a0), (2, va_rf a1), (3, .int y11), (4, .int x16), (5, .int x19), (6, .int e22), (7, .int e24), (8, .int e26)]) [0, 1, 2, 3, 4, 5, 6, 7, 8] rfl
                    exact hj _ _ _ _ _ hl hw
                  ·
                    replace h := (if_pos c67).symm.trans hX
                    refine lv_aload_n hx hb d10_16_145 rfl (lv_at hl.1 0 rfl) ?_
                    refine lv_iload hx hb d10_16_146 (lv_at hl.1 8 rfl) ?_
                    obtain ⟨u9, ho, h⟩ := ob h
                    obtain ⟨st69, hc, h⟩ := ob h
                    refine hV_v (ci := 9) (As := [.int e26]) (rest := []) ⟨hx, hb, hml, hown, hts⟩ (cc_Store_writeMeta l G Zd K o e26 e58 st69 hc) (kw_V (n := 1) hts k736 k733 k13 k735 ks16 (by decide +kernel) ⟨Nat.le_of_ble_eq_true rfl, Nat.le_of_ble_eq_true rfl⟩) hE hw rfl rfl ho rfl hl.1.1 rfl (c1_8 c1_n (Nat.le_of_ble_eq_true rfl)) d10_16_148 (fun H locs cells slots hw => ?_)
                    clear hc ho u9
                    refine W.eq (g2 := F0 m 151 ls []) rfl ?_
                    have e9 := Option.some.inj h
                    subst e61
                    have hl := lw_sub hl (l' := [(0, .ref o), (1, .int a0), (2, va_rf a1), (3, .int y11), (4, .int x16), (5, .int x19), (6, .int e22), (7, .int e24), (8, .int e26)]) [0, 1, 2, 3, 4, 5, 6, 7, 8] rfl
                    exact hj _ _ _ _ _ hl hw
                clear h
                refine lv_if_eq (tgt := 138) hx hb d10_16_117 rfl (fun c71 => ?_) (fun c71 => ?_)
                ·
                  replace h := (if_pos c71).symm.trans hX
                  have e9 := Option.some.inj h
                  subst e58
                  have hl := lw_sub hl (l' := [(0, .ref o), (1, .int a0), (2, va_rf a1), (3, .int y11), (4, .int x16), (5, .int x19), (6, .int e22), (7, .int e24), (8, .int e26)]) [0, 1, 2, 3, 4, 5, 6, 7, 8] rfl
                  exact hj _ _ _ _ _ hl hw
                ·
                  replace h := (if_neg c71).symm.trans hX
                  refine lv_aload_n hx hb d10_16_120 rfl (lv_at hl.1 0 rfl) ?_
                  obtain ⟨x72, hr, h⟩ := ob h
                  refine xg_i (ci := 9) (C := r_9) (T := f_9) (N := 9) (ref := "PagedValues$Store") hx hb hts (fun w h => List.mem_cons_of_mem _ (ly_9 w h)) hown hE hw rfl 8 (by decide) (hts _ (List.mem_cons_of_mem _ k248)) (fun _ h9 => h9) hr d10_16_121 ?_
                  clear hr
                  refine lv_if_ne (tgt := 138) hx hb d10_16_124 rfl (fun c73 => ?_) (fun c73 => ?_)
                  ·
                    replace h := (if_neg c73).symm.trans h
                    have e9 := Option.some.inj h
                    subst e58
                    have hl := lw_sub hl (l' := [(0, .ref o), (1, .int a0), (2, va_rf a1), (3, .int y11), (4, .int x16), (5, .int x19), (6, .int e22), (7, .int e24), (8, .int e26)]) [0, 1, 2, 3, 4, 5, 6, 7, 8] rfl
                    exact hj _ _ _ _ _ hl hw
                  ·
                    replace h := (if_pos c73).symm.trans h
                    refine lv_aload_n hx hb d10_16_127 rfl (lv_at hl.1 0 rfl) ?_
                    refine lv_iload hx hb d10_16_128 (lv_at hl.1 8 rfl) ?_
                    refine lv_iload_n hx hb d10_16_130 rfl (lv_at hl.1 3 rfl) ?_
                    refine lv_iload hx hb d10_16_131 (lv_at hl.1 7 rfl) ?_
                    refine lv_iload hx hb d10_16_133 (lv_at hl.1 4 rfl) ?_
                    obtain ⟨u9, ho, h⟩ := ob h
                    obtain ⟨st75, hc, h⟩ := ob h
                    refine hV_v (ci := 9) (As := [.int e26, .int y11, .int e24, .int x16]) (rest := []) ⟨hx, hb, hml, hown, hts⟩ (cc_Store_writeRoot l G Zd K o e26 y11 e24 x16 e56 st75 hc) (kw_V (n := 4) hts k732 k729 k13 k731 ks15 (by decide +kernel) ⟨Nat.le_of_ble_eq_true rfl, Nat.le_of_ble_eq_true rfl⟩) hE hw rfl rfl ho rfl hl.1.1 rfl (c1_8 c1_n (Nat.le_of_ble_eq_true rfl)) d10_16_135 (fun H locs cells slots hw => ?_)
                    clear hc ho u9
                    refine W.eq (g2 := F0 m 138 ls []) rfl ?_
                    have e9 := Option.some.inj h
                    subst e58
                    have hl := lw_sub hl (l' := [(0, .ref o), (1, .int a0), (2, va_rf a1), (3, .int y11), (4, .int x16), (5, .int x19), (6, .int e22), (7, .int e24), (8, .int e26)]) [0, 1, 2, 3, 4, 5, 6, 7, 8] rfl
                    exact hj _ _ _ _ _ hl hw
              clear h
              refine lv_if_eq (tgt := 115) hx hb d10_16_106 rfl (fun c77 => ?_) (fun c77 => ?_)
              ·
                replace h := (if_pos c77).symm.trans hX
                have e9 := Option.some.inj h
                subst e56
                have hl := lw_sub hl (l' := [(0, .ref o), (1, .int a0), (2, va_rf a1), (3, .int y11), (4, .int x16), (5, .int x19), (6, .int e22), (7, .int e24), (8, .int e26)]) [1, 2, 3, 4, 5, 6, 7, 8, 0] rfl
                exact hj _ _ _ _ _ hl hw
              ·
                replace h := (if_neg c77).symm.trans hX
                refine lv_aload_n hx hb d10_16_109 rfl (lv_at hl.1 1 rfl) ?_
                refine lv_iload hx hb d10_16_110 (lv_at hl.1 8 rfl) ?_
                obtain ⟨u9, ho, h⟩ := ob h
                obtain ⟨st79, hc, h⟩ := ob h
                refine hV_v (ci := 9) (As := [.int e24]) (rest := []) ⟨hx, hb, hml, hown, hts⟩ (cc_Store_writeLeaf l G Zd K o e24 st20 st79 hc) (kw_V (n := 1) hts k720 k717 k13 k719 ks12 (by decide +kernel) ⟨Nat.le_of_ble_eq_true rfl, Nat.le_of_ble_eq_true rfl⟩) hE hw rfl rfl ho rfl hl.1.1 rfl (c1_8 c1_n (Nat.le_of_ble_eq_true rfl)) d10_16_112 (fun H locs cells slots hw => ?_)
                clear hc ho u9
                refine W.eq (g2 := F0 m 115 ls []) rfl ?_
                have e9 := Option.some.inj h
                subst e56
                have hl := lw_sub hl (l' := [(0, .ref o), (1, .int a0), (2, va_rf a1), (3, .int y11), (4, .int x16), (5, .int x19), (6, .int e22), (7, .int e24), (8, .int e26)]) [1, 2, 3, 4, 5, 6, 7, 8, 0] rfl
                exact hj _ _ _ _ _ hl hw
            ·
              replace h := (if_pos c55).symm.trans h
              refine lv_bipush (v := (-2)) hx hb d10_16_101 (by decide) ?_
              cases h
              exact finH_i hQ hx hb hr hlk hE hw d10_16_103
        ·
          replace h := (if_neg c28).symm.trans h
          refine lv_iload hx hb d10_16_84 (lv_at hl.1 8 rfl) ?_
          refine lv_iconst (v := (-1)) hx hb d10_16_86 (by decide) ?_
          refine lv_icmp_eq (tgt := 101) hx hb d10_16_87 rfl (fun c81 => ?_) (fun c81 => ?_)
          ·
            replace h := (if_pos c81).symm.trans h
            refine lv_bipush (v := (-2)) hx hb d10_16_101 (by decide) ?_
            cases h
            exact finH_i hQ hx hb hr hlk hE hw d10_16_103
          ·
            replace h := (if_neg c81).symm.trans h
            refine lv_iload hx hb d10_16_90 (lv_at hl.1 7 rfl) ?_
            refine lv_if_eq (tgt := 104) hx hb d10_16_92 rfl (fun c82 => ?_) (fun c82 => ?_)
            ·
              replace h := (if_pos c82).symm.trans h
              refine lv_iload hx hb d10_16_104 (lv_at hl.1 6 rfl) ?_
              obtain ⟨e83, hX, h⟩ := ob h
              have hj : ∀ (H : Heap) (locs : List Loc) (cells slots : Nat) (ls : Array Slot), lw ls 9 [(0, .ref o), (1, .int a0), (2, va_rf a1), (3, .int y11), (4, .int x16), (5, .int x19), (6, .int e22), (7, .int e24), (8, .int e26)] → wsH G Zd A s e83 H locs → W p l e (rmH Zd (4) st.1) s m args below meth c H locs cells slots Q (F0 m 115 ls []) := by
                intro H locs cells slots ls hl hw
                refine lv_iload hx hb d10_16_115 (lv_at hl.1 6 rfl) ?_
                obtain ⟨e85, hX, h⟩ := ob h
                have hj : ∀ (H : Heap) (locs : List Loc) (cells slots : Nat) (ls : Array Slot), lw ls 9 [(0, .ref o), (1, .int a0), (2, va_rf a1), (3, .int y11), (4, .int x16), (5, .int x19), (6, .int e22), (7, .int e24), (8, .int e26)] → wsH G Zd A s e85 H locs → W p l e (rmH Zd (4) st.1) s m args below meth c H locs cells slots Q (F0 m 138 ls []) := by
                  intro H locs cells slots ls hl hw
                  refine lv_aload_n hx hb d10_16_138 rfl (lv_at hl.1 0 rfl) ?_
                  obtain ⟨x87, hr, h⟩ := ob h
                  refine xg_i (ci := 9) (C := r_9) (T := f_9) (N := 9) (ref := "PagedValues$Store") hx hb hts (fun w h => List.mem_cons_of_mem _ (ly_9 w h)) hown hE hw rfl 8 (by decide) (hts _ (List.mem_cons_of_mem _ k248)) (fun _ h9 => h9) hr d10_16_139 ?_
                  clear hr
                  obtain ⟨e88, hX, h⟩ := ob h
                  have hj : ∀ (H : Heap) (locs : List Loc) (cells slots : Nat) (ls : Array Slot), lw ls 9 [(0, .ref o), (1, .int a0), (2, va_rf a1), (3, .int y11), (4, .int x16), (5, .int x19), (6, .int e22), (7, .int e24), (8, .int e26)] → wsH G Zd A s e88 H locs → W p l e (rmH Zd (4) st.1) s m args below meth c H locs cells slots Q (F0 m 151 ls []) := by
                    intro H locs cells slots ls hl hw
                    refine lv_aload_n hx hb d10_16_151 rfl (lv_at hl.1 0 rfl) ?_
                    obtain ⟨x90, hr, h⟩ := ob h
                    refine xg_i (ci := 9) (C := r_9) (T := f_9) (N := 9) (ref := "PagedValues$Store") hx hb hts (fun w h => List.mem_cons_of_mem _ (ly_9 w h)) hown hE hw rfl 8 (by decide) (hts _ (List.mem_cons_of_mem _ k248)) (fun _ h9 => h9) hr d10_16_152 ?_
                    clear hr
                    obtain ⟨e91, hX, h⟩ := ob h
                    have hj : ∀ (H : Heap) (locs : List Loc) (cells slots : Nat) (ls : Array Slot), lw ls 9 [(0, .ref o), (1, .int a0), (2, va_rf a1), (3, .int y11), (4, .int x16), (5, .int x19), (6, .int e22), (7, .int e24), (8, .int e26)] → wsH G Zd A s e88 H locs → W p l e (rmH Zd (4) st.1) s m args below meth c H locs cells slots Q (F0 m 164 ls [.int e91]) := by
                      intro H locs cells slots ls hl hw
                      cases h
                      exact finH_i hQ hx hb hr hlk hE hw d10_16_164
                    clear h
                    refine lv_if_eq (tgt := 163) hx hb d10_16_155 rfl (fun c93 => ?_) (fun c93 => ?_)
                    ·
                      replace h := (if_pos c93).symm.trans hX
                      refine lv_iconst (v := 0) hx hb d10_16_163 (by decide) ?_
                      have e9 := Option.some.inj h
                      subst e91
                      have hl := lw_sub hl (l' := [(0, .ref o), (1, .int a0), (2, va_rf a1), (3, .int y11), (4, .int x16), (5, .int x19), (6, .int e22), (7, .int e24), (8, .int e26)]) [0, 1, 2, 3, 4, 5, 6, 7, 8] rfl
                      exact hj _ _ _ _ _ hl hw
                    ·
                      replace h := (if_neg c93).symm.trans hX
                      refine lv_bipush (v := (-9)) hx hb d10_16_158 (by decide) ?_
                      refine lv_goto (tgt := 164) hx hb d10_16_160 rfl ?_
                      have e9 := Option.some.inj h
                      subst e91
                      have hl := lw_sub hl (l' := [(0, .ref o), (1, .int a0), (2, va_rf a1), (3, .int y11), (4, .int x16), (5, .int x19), (6, .int e22), (7, .int e24), (8, .int e26)]) [0, 1, 2, 3, 4, 5, 6, 7, 8] rfl
                      exact hj _ _ _ _ _ hl hw
                  clear h
                  refine lv_if_ne (tgt := 151) hx hb d10_16_142 rfl (fun c94 => ?_) (fun c94 => ?_)
                  ·
                    replace h := (if_neg c94).symm.trans hX
                    have e9 := Option.some.inj h
                    subst e88
                    have hl := lw_sub hl (l' := [(0, .ref o), (1, .int a0), (2, va_rf a1), (3, .int y11), (4, .int x16), (5, .int x19), (6, .int e22), (7, .int e24), (8, .int e26)]) [0, 1, 2, 3, 4, 5, 6, 7, 8] rfl
                    exact hj _ _ _ _ _ hl hw
                  ·
                    replace h := (if_pos c94).symm.trans hX
                    refine lv_aload_n hx hb d10_16_145 rfl (lv_at hl.1 0 rfl) ?_
                    refine lv_iload hx hb d10_16_146 (lv_at hl.1 8 rfl) ?_
                    obtain ⟨u9, ho, h⟩ := ob h
                    obtain ⟨st96, hc, h⟩ := ob h
                    refine hV_v (ci := 9) (As := [.int e26]) (rest := []) ⟨hx, hb, hml, hown, hts⟩ (cc_Store_writeMeta l G Zd K o e26 e85 st96 hc) (kw_V (n := 1) hts k736 k733 k13 k735 ks16 (by decide +kernel) ⟨Nat.le_of_ble_eq_true rfl, Nat.le_of_ble_eq_true rfl⟩) hE hw rfl rfl ho rfl hl.1.1 rfl (c1_8 c1_n (Nat.le_of_ble_eq_true rfl)) d10_16_148 (fun H locs cells slots hw => ?_)
                    clear hc ho u9
                    refine W.eq (g2 := F0 m 151 ls []) rfl ?_
                    have e9 := Option.some.inj h
                    subst e88
                    have hl := lw_sub hl (l' := [(0, .ref o), (1, .int a0), (2, va_rf a1), (3, .int y11), (4, .int x16), (5, .int x19), (6, .int e22), (7, .int e24), (8, .int e26)]) [0, 1, 2, 3, 4, 5, 6, 7, 8] rfl
                    exact hj _ _ _ _ _ hl hw
                clear h
                refine lv_if_eq (tgt := 138) hx hb d10_16_117 rfl (fun c98 => ?_) (fun c98 => ?_)
                ·
                  replace h := (if_pos c98).symm.trans hX
                  have e9 := Option.some.inj h
                  subst e85
                  have hl := lw_sub hl (l' := [(0, .ref o), (1, .int a0), (2, va_rf a1), (3, .int y11), (4, .int x16), (5, .int x19), (6, .int e22), (7, .int e24), (8, .int e26)]) [0, 1, 2, 3, 4, 5, 6, 7, 8] rfl
                  exact hj _ _ _ _ _ hl hw
                ·
                  replace h := (if_neg c98).symm.trans hX
                  refine lv_aload_n hx hb d10_16_120 rfl (lv_at hl.1 0 rfl) ?_
                  obtain ⟨x99, hr, h⟩ := ob h
                  refine xg_i (ci := 9) (C := r_9) (T := f_9) (N := 9) (ref := "PagedValues$Store") hx hb hts (fun w h => List.mem_cons_of_mem _ (ly_9 w h)) hown hE hw rfl 8 (by decide) (hts _ (List.mem_cons_of_mem _ k248)) (fun _ h9 => h9) hr d10_16_121 ?_
                  clear hr
                  refine lv_if_ne (tgt := 138) hx hb d10_16_124 rfl (fun c100 => ?_) (fun c100 => ?_)
                  ·
                    replace h := (if_neg c100).symm.trans h
                    have e9 := Option.some.inj h
                    subst e85
                    have hl := lw_sub hl (l' := [(0, .ref o), (1, .int a0), (2, va_rf a1), (3, .int y11), (4, .int x16), (5, .int x19), (6, .int e22), (7, .int e24), (8, .int e26)]) [0, 1, 2, 3, 4, 5, 6, 7, 8] rfl
                    exact hj _ _ _ _ _ hl hw
                  ·
                    replace h := (if_pos c100).symm.trans h
                    refine lv_aload_n hx hb d10_16_127 rfl (lv_at hl.1 0 rfl) ?_
                    refine lv_iload hx hb d10_16_128 (lv_at hl.1 8 rfl) ?_
                    refine lv_iload_n hx hb d10_16_130 rfl (lv_at hl.1 3 rfl) ?_
                    refine lv_iload hx hb d10_16_131 (lv_at hl.1 7 rfl) ?_
                    refine lv_iload hx hb d10_16_133 (lv_at hl.1 4 rfl) ?_
                    obtain ⟨u9, ho, h⟩ := ob h
                    obtain ⟨st102, hc, h⟩ := ob h
                    refine hV_v (ci := 9) (As := [.int e26, .int y11, .int e24, .int x16]) (rest := []) ⟨hx, hb, hml, hown, hts⟩ (cc_Store_writeRoot l G Zd K o e26 y11 e24 x16 e83 st102 hc) (kw_V (n := 4) hts k732 k729 k13 k731 ks15 (by decide +kernel) ⟨Nat.le_of_ble_eq_true rfl, Nat.le_of_ble_eq_true rfl⟩) hE hw rfl rfl ho rfl hl.1.1 rfl (c1_8 c1_n (Nat.le_of_ble_eq_true rfl)) d10_16_135 (fun H locs cells slots hw => ?_)
                    clear hc ho u9
                    refine W.eq (g2 := F0 m 138 ls []) rfl ?_
                    have e9 := Option.some.inj h
                    subst e85
                    have hl := lw_sub hl (l' := [(0, .ref o), (1, .int a0), (2, va_rf a1), (3, .int y11), (4, .int x16), (5, .int x19), (6, .int e22), (7, .int e24), (8, .int e26)]) [0, 1, 2, 3, 4, 5, 6, 7, 8] rfl
                    exact hj _ _ _ _ _ hl hw
              clear h
              refine lv_if_eq (tgt := 115) hx hb d10_16_106 rfl (fun c104 => ?_) (fun c104 => ?_)
              ·
                replace h := (if_pos c104).symm.trans hX
                have e9 := Option.some.inj h
                subst e83
                have hl := lw_sub hl (l' := [(0, .ref o), (1, .int a0), (2, va_rf a1), (3, .int y11), (4, .int x16), (5, .int x19), (6, .int e22), (7, .int e24), (8, .int e26)]) [1, 2, 3, 4, 5, 6, 7, 8, 0] rfl
                exact hj _ _ _ _ _ hl hw
              ·
                replace h := (if_neg c104).symm.trans hX
                refine lv_aload_n hx hb d10_16_109 rfl (lv_at hl.1 1 rfl) ?_
                refine lv_iload hx hb d10_16_110 (lv_at hl.1 8 rfl) ?_
                obtain ⟨u9, ho, h⟩ := ob h
                obtain ⟨st106, hc, h⟩ := ob h
                refine hV_v (ci := 9) (As := [.int e24]) (rest := []) ⟨hx, hb, hml, hown, hts⟩ (cc_Store_writeLeaf l G Zd K o e24 st20 st106 hc) (kw_V (n := 1) hts k720 k717 k13 k719 ks12 (by decide +kernel) ⟨Nat.le_of_ble_eq_true rfl, Nat.le_of_ble_eq_true rfl⟩) hE hw rfl rfl ho rfl hl.1.1 rfl (c1_8 c1_n (Nat.le_of_ble_eq_true rfl)) d10_16_112 (fun H locs cells slots hw => ?_)
                clear hc ho u9
                refine W.eq (g2 := F0 m 115 ls []) rfl ?_
                have e9 := Option.some.inj h
                subst e83
                have hl := lw_sub hl (l' := [(0, .ref o), (1, .int a0), (2, va_rf a1), (3, .int y11), (4, .int x16), (5, .int x19), (6, .int e22), (7, .int e24), (8, .int e26)]) [1, 2, 3, 4, 5, 6, 7, 8, 0] rfl
                exact hj _ _ _ _ _ hl hw
            ·
              replace h := (if_neg c82).symm.trans h
              refine lv_iload hx hb d10_16_95 (lv_at hl.1 0 rfl) ?_
              refine lv_iconst (v := (-1)) hx hb d10_16_97 (by decide) ?_
              refine lv_icmp_ne (tgt := 104) hx hb d10_16_98 rfl (fun c108 => ?_) (fun c108 => ?_)
              ·
                replace h := (if_neg c108).symm.trans h
                refine lv_iload hx hb d10_16_104 (lv_at hl.1 6 rfl) ?_
                obtain ⟨e109, hX, h⟩ := ob h
                have hj : ∀ (H : Heap) (locs : List Loc) (cells slots : Nat) (ls : Array Slot), lw ls 9 [(0, .ref o), (1, .int a0), (2, va_rf a1), (3, .int y11), (4, .int x16), (5, .int x19), (6, .int e22), (7, .int e24), (8, .int e26)] → wsH G Zd A s e109 H locs → W p l e (rmH Zd (4) st.1) s m args below meth c H locs cells slots Q (F0 m 115 ls []) := by
                  intro H locs cells slots ls hl hw
                  refine lv_iload hx hb d10_16_115 (lv_at hl.1 6 rfl) ?_
                  obtain ⟨e111, hX, h⟩ := ob h
                  have hj : ∀ (H : Heap) (locs : List Loc) (cells slots : Nat) (ls : Array Slot), lw ls 9 [(0, .ref o), (1, .int a0), (2, va_rf a1), (3, .int y11), (4, .int x16), (5, .int x19), (6, .int e22), (7, .int e24), (8, .int e26)] → wsH G Zd A s e111 H locs → W p l e (rmH Zd (4) st.1) s m args below meth c H locs cells slots Q (F0 m 138 ls []) := by
                    intro H locs cells slots ls hl hw
                    refine lv_aload_n hx hb d10_16_138 rfl (lv_at hl.1 0 rfl) ?_
                    obtain ⟨x113, hr, h⟩ := ob h
                    refine xg_i (ci := 9) (C := r_9) (T := f_9) (N := 9) (ref := "PagedValues$Store") hx hb hts (fun w h => List.mem_cons_of_mem _ (ly_9 w h)) hown hE hw rfl 8 (by decide) (hts _ (List.mem_cons_of_mem _ k248)) (fun _ h9 => h9) hr d10_16_139 ?_
                    clear hr
                    obtain ⟨e114, hX, h⟩ := ob h
                    have hj : ∀ (H : Heap) (locs : List Loc) (cells slots : Nat) (ls : Array Slot), lw ls 9 [(0, .ref o), (1, .int a0), (2, va_rf a1), (3, .int y11), (4, .int x16), (5, .int x19), (6, .int e22), (7, .int e24), (8, .int e26)] → wsH G Zd A s e114 H locs → W p l e (rmH Zd (4) st.1) s m args below meth c H locs cells slots Q (F0 m 151 ls []) := by
                      intro H locs cells slots ls hl hw
                      refine lv_aload_n hx hb d10_16_151 rfl (lv_at hl.1 0 rfl) ?_
                      obtain ⟨x116, hr, h⟩ := ob h
                      refine xg_i (ci := 9) (C := r_9) (T := f_9) (N := 9) (ref := "PagedValues$Store") hx hb hts (fun w h => List.mem_cons_of_mem _ (ly_9 w h)) hown hE hw rfl 8 (by decide) (hts _ (List.mem_cons_of_mem _ k248)) (fun _ h9 => h9) hr d10_16_152 ?_
                      clear hr
                      obtain ⟨e117, hX, h⟩ := ob h
                      have hj : ∀ (H : Heap) (locs : List Loc) (cells slots : Nat) (ls : Array Slot), lw ls 9 [(0, .ref o), (1, .int a0), (2, va_rf a1), (3, .int y11), (4, .int x16), (5, .int x19), (6, .int e22), (7, .int e24), (8, .int e26)] → wsH G Zd A s e114 H locs → W p l e (rmH Zd (4) st.1) s m args below meth c H locs cells slots Q (F0 m 164 ls [.int e117]) := by
                        intro H locs cells slots ls hl hw
                        cases h
                        exact finH_i hQ hx hb hr hlk hE hw d10_16_164
                      clear h
                      refine lv_if_eq (tgt := 163) hx hb d10_16_155 rfl (fun c119 => ?_) (fun c119 => ?_)
                      ·
                        replace h := (if_pos c119).symm.trans hX
                        refine lv_iconst (v := 0) hx hb d10_16_163 (by decide) ?_
                        have e9 := Option.some.inj h
                        subst e117
                        have hl := lw_sub hl (l' := [(0, .ref o), (1, .int a0), (2, va_rf a1), (3, .int y11), (4, .int x16), (5, .int x19), (6, .int e22), (7, .int e24), (8, .int e26)]) [0, 1, 2, 3, 4, 5, 6, 7, 8] rfl
                        exact hj _ _ _ _ _ hl hw
                      ·
                        replace h := (if_neg c119).symm.trans hX
                        refine lv_bipush (v := (-9)) hx hb d10_16_158 (by decide) ?_
                        refine lv_goto (tgt := 164) hx hb d10_16_160 rfl ?_
                        have e9 := Option.some.inj h
                        subst e117
                        have hl := lw_sub hl (l' := [(0, .ref o), (1, .int a0), (2, va_rf a1), (3, .int y11), (4, .int x16), (5, .int x19), (6, .int e22), (7, .int e24), (8, .int e26)]) [0, 1, 2, 3, 4, 5, 6, 7, 8] rfl
                        exact hj _ _ _ _ _ hl hw
                    clear h
                    refine lv_if_ne (tgt := 151) hx hb d10_16_142 rfl (fun c120 => ?_) (fun c120 => ?_)
                    ·
                      replace h := (if_neg c120).symm.trans hX
                      have e9 := Option.some.inj h
                      subst e114
                      have hl := lw_sub hl (l' := [(0, .ref o), (1, .int a0), (2, va_rf a1), (3, .int y11), (4, .int x16), (5, .int x19), (6, .int e22), (7, .int e24), (8, .int e26)]) [0, 1, 2, 3, 4, 5, 6, 7, 8] rfl
                      exact hj _ _ _ _ _ hl hw
                    ·
                      replace h := (if_pos c120).symm.trans hX
                      refine lv_aload_n hx hb d10_16_145 rfl (lv_at hl.1 0 rfl) ?_
                      refine lv_iload hx hb d10_16_146 (lv_at hl.1 8 rfl) ?_
                      obtain ⟨u9, ho, h⟩ := ob h
                      obtain ⟨st122, hc, h⟩ := ob h
                      refine hV_v (ci := 9) (As := [.int e26]) (rest := []) ⟨hx, hb, hml, hown, hts⟩ (cc_Store_writeMeta l G Zd K o e26 e111 st122 hc) (kw_V (n := 1) hts k736 k733 k13 k735 ks16 (by decide +kernel) ⟨Nat.le_of_ble_eq_true rfl, Nat.le_of_ble_eq_true rfl⟩) hE hw rfl rfl ho rfl hl.1.1 rfl (c1_8 c1_n (Nat.le_of_ble_eq_true rfl)) d10_16_148 (fun H locs cells slots hw => ?_)
                      clear hc ho u9
                      refine W.eq (g2 := F0 m 151 ls []) rfl ?_
                      have e9 := Option.some.inj h
                      subst e114
                      have hl := lw_sub hl (l' := [(0, .ref o), (1, .int a0), (2, va_rf a1), (3, .int y11), (4, .int x16), (5, .int x19), (6, .int e22), (7, .int e24), (8, .int e26)]) [0, 1, 2, 3, 4, 5, 6, 7, 8] rfl
                      exact hj _ _ _ _ _ hl hw
                  clear h
                  refine lv_if_eq (tgt := 138) hx hb d10_16_117 rfl (fun c124 => ?_) (fun c124 => ?_)
                  ·
                    replace h := (if_pos c124).symm.trans hX
                    have e9 := Option.some.inj h
                    subst e111
                    have hl := lw_sub hl (l' := [(0, .ref o), (1, .int a0), (2, va_rf a1), (3, .int y11), (4, .int x16), (5, .int x19), (6, .int e22), (7, .int e24), (8, .int e26)]) [0, 1, 2, 3, 4, 5, 6, 7, 8] rfl
                    exact hj _ _ _ _ _ hl hw
                  ·
                    replace h := (if_neg c124).symm.trans hX
                    refine lv_aload_n hx hb d10_16_120 rfl (lv_at hl.1 0 rfl) ?_
                    obtain ⟨x125, hr, h⟩ := ob h
                    refine xg_i (ci := 9) (C := r_9) (T := f_9) (N := 9) (ref := "PagedValues$Store") hx hb hts (fun w h => List.mem_cons_of_mem _ (ly_9 w h)) hown hE hw rfl 8 (by decide) (hts _ (List.mem_cons_of_mem _ k248)) (fun _ h9 => h9) hr d10_16_121 ?_
                    clear hr
                    refine lv_if_ne (tgt := 138) hx hb d10_16_124 rfl (fun c126 => ?_) (fun c126 => ?_)
                    ·
                      replace h := (if_neg c126).symm.trans h
                      have e9 := Option.some.inj h
                      subst e111
                      have hl := lw_sub hl (l' := [(0, .ref o), (1, .int a0), (2, va_rf a1), (3, .int y11), (4, .int x16), (5, .int x19), (6, .int e22), (7, .int e24), (8, .int e26)]) [0, 1, 2, 3, 4, 5, 6, 7, 8] rfl
                      exact hj _ _ _ _ _ hl hw
                    ·
                      replace h := (if_pos c126).symm.trans h
                      refine lv_aload_n hx hb d10_16_127 rfl (lv_at hl.1 0 rfl) ?_
                      refine lv_iload hx hb d10_16_128 (lv_at hl.1 8 rfl) ?_
                      refine lv_iload_n hx hb d10_16_130 rfl (lv_at hl.1 3 rfl) ?_
                      refine lv_iload hx hb d10_16_131 (lv_at hl.1 7 rfl) ?_
                      refine lv_iload hx hb d10_16_133 (lv_at hl.1 4 rfl) ?_
                      obtain ⟨u9, ho, h⟩ := ob h
                      obtain ⟨st128, hc, h⟩ := ob h
                      refine hV_v (ci := 9) (As := [.int e26, .int y11, .int e24, .int x16]) (rest := []) ⟨hx, hb, hml, hown, hts⟩ (cc_Store_writeRoot l G Zd K o e26 y11 e24 x16 e109 st128 hc) (kw_V (n := 4) hts k732 k729 k13 k731 ks15 (by decide +kernel) ⟨Nat.le_of_ble_eq_true rfl, Nat.le_of_ble_eq_true rfl⟩) hE hw rfl rfl ho rfl hl.1.1 rfl (c1_8 c1_n (Nat.le_of_ble_eq_true rfl)) d10_16_135 (fun H locs cells slots hw => ?_)
                      clear hc ho u9
                      refine W.eq (g2 := F0 m 138 ls []) rfl ?_
                      have e9 := Option.some.inj h
                      subst e111
                      have hl := lw_sub hl (l' := [(0, .ref o), (1, .int a0), (2, va_rf a1), (3, .int y11), (4, .int x16), (5, .int x19), (6, .int e22), (7, .int e24), (8, .int e26)]) [0, 1, 2, 3, 4, 5, 6, 7, 8] rfl
                      exact hj _ _ _ _ _ hl hw
                clear h
                refine lv_if_eq (tgt := 115) hx hb d10_16_106 rfl (fun c130 => ?_) (fun c130 => ?_)
                ·
                  replace h := (if_pos c130).symm.trans hX
                  have e9 := Option.some.inj h
                  subst e109
                  have hl := lw_sub hl (l' := [(0, .ref o), (1, .int a0), (2, va_rf a1), (3, .int y11), (4, .int x16), (5, .int x19), (6, .int e22), (7, .int e24), (8, .int e26)]) [1, 2, 3, 4, 5, 6, 7, 8, 0] rfl
                  exact hj _ _ _ _ _ hl hw
                ·
                  replace h := (if_neg c130).symm.trans hX
                  refine lv_aload_n hx hb d10_16_109 rfl (lv_at hl.1 1 rfl) ?_
                  refine lv_iload hx hb d10_16_110 (lv_at hl.1 8 rfl) ?_
                  obtain ⟨u9, ho, h⟩ := ob h
                  obtain ⟨st132, hc, h⟩ := ob h
                  refine hV_v (ci := 9) (As := [.int e24]) (rest := []) ⟨hx, hb, hml, hown, hts⟩ (cc_Store_writeLeaf l G Zd K o e24 st20 st132 hc) (kw_V (n := 1) hts k720 k717 k13 k719 ks12 (by decide +kernel) ⟨Nat.le_of_ble_eq_true rfl, Nat.le_of_ble_eq_true rfl⟩) hE hw rfl rfl ho rfl hl.1.1 rfl (c1_8 c1_n (Nat.le_of_ble_eq_true rfl)) d10_16_112 (fun H locs cells slots hw => ?_)
                  clear hc ho u9
                  refine W.eq (g2 := F0 m 115 ls []) rfl ?_
                  have e9 := Option.some.inj h
                  subst e109
                  have hl := lw_sub hl (l' := [(0, .ref o), (1, .int a0), (2, va_rf a1), (3, .int y11), (4, .int x16), (5, .int x19), (6, .int e22), (7, .int e24), (8, .int e26)]) [1, 2, 3, 4, 5, 6, 7, 8, 0] rfl
                  exact hj _ _ _ _ _ hl hw
              ·
                replace h := (if_pos c108).symm.trans h
                refine lv_bipush (v := (-2)) hx hb d10_16_101 (by decide) ?_
                cases h
                exact finH_i hQ hx hb hr hlk hE hw d10_16_103
      clear h
      refine lv_if_eq (tgt := 76) hx hb d10_16_62 rfl (fun c134 => ?_) (fun c134 => ?_)
      ·
        replace h := (if_pos c134).symm.trans hX
        refine lv_iconst (v := (-1)) hx hb d10_16_76 (by decide) ?_
        have e9 := Option.some.inj h
        subst e26
        have hl := lw_sub hl (l' := [(0, .ref o), (1, .int a0), (2, va_rf a1), (3, .int y11), (4, .int x16), (5, .int x19), (6, .int e22), (7, .int e24)]) [1, 2, 3, 4, 5, 6, 7, 0] rfl
        exact hj _ _ _ _ _ hl hw
      ·
        replace h := (if_neg c134).symm.trans hX
        refine lv_aload_n hx hb d10_16_65 rfl (lv_at hl.1 1 rfl) ?_
        refine lv_iload hx hb d10_16_66 (lv_at hl.1 0 rfl) ?_
        refine lv_iconst (v := 1) hx hb d10_16_68 (by decide) ?_
        refine lv_iadd hx hb d10_16_69 ?_
        obtain ⟨y135, hr, h⟩ := ob h
        refine lv_topi (fun y9 ey => ?_)
        have e9 := ey.trans (Option.some.inj hr)
        clear ey
        subst y9
        clear hr
        obtain ⟨u9, ho, h⟩ := ob h
        obtain ⟨x136, hc, h⟩ := ob h
        refine hV_i (ci := 9) (As := [.int y135]) (rest := []) ⟨hx, hb, hml, hown, hts⟩ (cc_Store_freeFrom l G Zd K o y135 st20 x136 hc) (kw_V (n := 1) hts k707 k704 k13 k706 ks10 (by decide +kernel) ⟨Nat.le_of_ble_eq_true rfl, Nat.le_of_ble_eq_true rfl⟩) hE hw rfl rfl ho rfl hl.1.1 rfl (c1_8 c1_n (Nat.le_of_ble_eq_true rfl)) d10_16_70 (fun H locs cells slots hw => ?_)
        clear hc ho u9
        refine W.eq (g2 := F0 m 73 ls [.int x136]) rfl ?_
        refine lv_goto (tgt := 77) hx hb d10_16_73 rfl ?_
        have e9 := Option.some.inj h
        subst e26
        have hl := lw_sub hl (l' := [(0, .ref o), (1, .int a0), (2, va_rf a1), (3, .int y11), (4, .int x16), (5, .int x19), (6, .int e22), (7, .int e24)]) [1, 2, 3, 4, 5, 6, 7, 0] rfl
        exact hj _ _ _ _ _ hl hw
    clear h
    refine lv_if_eq (tgt := 57) hx hb d10_16_46 rfl (fun c139 => ?_) (fun c139 => ?_)
    ·
      replace h := (if_pos c139).symm.trans hX
      refine lv_iconst (v := (-1)) hx hb d10_16_57 (by decide) ?_
      have e9 := Option.some.inj h
      subst e24
      have hl := lw_sub hl (l' := [(0, .ref o), (1, .int a0), (2, va_rf a1), (3, .int y11), (4, .int x16), (5, .int x19), (6, .int e22)]) [1, 2, 3, 4, 5, 6, 0] rfl
      exact hj _ _ _ _ _ hl hw
    ·
      replace h := (if_neg c139).symm.trans hX
      refine lv_aload_n hx hb d10_16_49 rfl (lv_at hl.1 1 rfl) ?_
      refine lv_iconst (v := 0) hx hb d10_16_50 (by decide) ?_
      obtain ⟨u9, ho, h⟩ := ob h
      obtain ⟨x140, hc, h⟩ := ob h
      refine hV_i (ci := 9) (As := [.int 0]) (rest := []) ⟨hx, hb, hml, hown, hts⟩ (cc_Store_freeFrom l G Zd K o (0 : Int32) st20 x140 hc) (kw_V (n := 1) hts k707 k704 k13 k706 ks10 (by decide +kernel) ⟨Nat.le_of_ble_eq_true rfl, Nat.le_of_ble_eq_true rfl⟩) hE hw rfl rfl ho rfl hl.1.1 rfl (c1_8 c1_n (Nat.le_of_ble_eq_true rfl)) d10_16_51 (fun H locs cells slots hw => ?_)
      clear hc ho u9
      refine W.eq (g2 := F0 m 54 ls [.int x140]) rfl ?_
      refine lv_goto (tgt := 58) hx hb d10_16_54 rfl ?_
      have e9 := Option.some.inj h
      subst e24
      have hl := lw_sub hl (l' := [(0, .ref o), (1, .int a0), (2, va_rf a1), (3, .int y11), (4, .int x16), (5, .int x19), (6, .int e22)]) [1, 2, 3, 4, 5, 6, 0] rfl
      exact hj _ _ _ _ _ hl hw
  clear h
  refine lv_if_ne (tgt := 37) hx hb d10_16_28 rfl (fun c143 => ?_) (fun c143 => ?_)
  ·
    replace h := (if_neg c143).symm.trans hX
    refine lv_iconst (v := 1) hx hb d10_16_37 (by decide) ?_
    refine lv_goto (tgt := 42) hx hb d10_16_38 rfl ?_
    have e9 := Option.some.inj h
    subst e22
    have hl := lw_sub hl (l' := [(0, .ref o), (1, .int a0), (2, va_rf a1), (3, .int y11), (4, .int x16), (5, .int x19)]) [3, 4, 5, 2, 1, 0] rfl
    exact hj _ _ _ _ _ hl hw
  ·
    replace h := (if_pos c143).symm.trans hX
    refine lv_iload hx hb d10_16_31 (lv_at hl.1 1 rfl) ?_
    refine lv_iconst (v := (-1)) hx hb d10_16_33 (by decide) ?_
    refine lv_icmp_eq (tgt := 41) hx hb d10_16_34 rfl (fun c144 => ?_) (fun c144 => ?_)
    ·
      replace h := (if_pos c144).symm.trans h
      refine lv_iconst (v := 0) hx hb d10_16_41 (by decide) ?_
      have e9 := Option.some.inj h
      subst e22
      have hl := lw_sub hl (l' := [(0, .ref o), (1, .int a0), (2, va_rf a1), (3, .int y11), (4, .int x16), (5, .int x19)]) [3, 4, 5, 2, 1, 0] rfl
      exact hj _ _ _ _ _ hl hw
    ·
      replace h := (if_neg c144).symm.trans h
      refine lv_iconst (v := 1) hx hb d10_16_37 (by decide) ?_
      refine lv_goto (tgt := 42) hx hb d10_16_38 rfl ?_
      have e9 := Option.some.inj h
      subst e22
      have hl := lw_sub hl (l' := [(0, .ref o), (1, .int a0), (2, va_rf a1), (3, .int y11), (4, .int x16), (5, .int x19)]) [3, 4, 5, 2, 1, 0] rfl
      exact hj _ _ _ _ _ hl hw
