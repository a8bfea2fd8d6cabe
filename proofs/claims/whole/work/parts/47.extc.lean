def c_Pointer_lead_l1 (Zd : Nat → Nat) (K : KE) (o : Nat) (a1 : Option Nat) (a2 : Int32) : Nat → (Option Nat × Int32 × Int32 × CS) → Option (Option Nat × Int32 × Int32 × CS)
  | 0, _ => none
  | n9 + 1, e9 => if a2 < e9.2.2.1 then (some (e9.1, e9.2.1, e9.2.2.1, e9.2.2.2)) else (nl e9.1 (some (e9.1, e9.2.1, e9.2.2.1, e9.2.2.2)) (fun a21z => (if e9.2.2.1 = a2 then ((isO K e9.2.2.2 o 5).bind fun _ => (c_Pointer_token Zd K o a1 e9.2.1 e9.2.2.1 e9.2.2.2).bind fun r30 => (gQ K r30.2 a21z 11 0).bind fun x31 => (if x31 = some (Zd 14) then ((isO K r30.2 a21z 11).bind fun _ => (c_Value_member Zd K a21z r30.1 r30.2).bind fun x42 => some x42) else ((c_Pointer_index Zd K r30.1 r30.2).bind fun x36 => (isO K r30.2 a21z 11).bind fun _ => (c_Value_element Zd K a21z x36 r30.2).bind fun x39 => some x39)).bind fun e32 => (some (e9.2.2.1 + (1 : Int32))).bind fun y34 => some (e32, y34, r30.2)) else (a1.bind fun a45z => (isO K e9.2.2.2 a45z 12).bind fun _ => (c_String_charAt Zd K a45z e9.2.2.1 e9.2.2.2).bind fun x46 => if x46 = (47 : Int32) then ((isO K e9.2.2.2 o 5).bind fun _ => (c_Pointer_token Zd K o a1 e9.2.1 e9.2.2.1 e9.2.2.2).bind fun r52 => (gQ K r52.2 a21z 11 0).bind fun x53 => (if x53 = some (Zd 14) then ((isO K r52.2 a21z 11).bind fun _ => (c_Value_member Zd K a21z r52.1 r52.2).bind fun x64 => some x64) else ((c_Pointer_index Zd K r52.1 r52.2).bind fun x58 => (isO K r52.2 a21z 11).bind fun _ => (c_Value_element Zd K a21z x58 r52.2).bind fun x61 => some x61)).bind fun e54 => (some (e9.2.2.1 + (1 : Int32))).bind fun y56 => some (e54, y56, r52.2)) else (some (e9.1, e9.2.1, e9.2.2.2)))).bind fun e22 => (some (e9.2.2.1 + 1)).bind fun y26 => c_Pointer_lead_l1 Zd K o a1 a2 n9 (e22.1, e22.2.1, y26, e22.2.2)))
theorem c_Pointer_lead_l1_s (Zd : Nat → Nat) (K : KE) (o : Nat) (a1 : Option Nat) (a2 : Int32) (n9 : Nat) (e9 : Option Nat × Int32 × Int32 × CS) : c_Pointer_lead_l1 Zd K o a1 a2 (n9 + 1) e9 = (if a2 < e9.2.2.1 then (some (e9.1, e9.2.1, e9.2.2.1, e9.2.2.2)) else (nl e9.1 (some (e9.1, e9.2.1, e9.2.2.1, e9.2.2.2)) (fun a21z => (if e9.2.2.1 = a2 then ((isO K e9.2.2.2 o 5).bind fun _ => (c_Pointer_token Zd K o a1 e9.2.1 e9.2.2.1 e9.2.2.2).bind fun r30 => (gQ K r30.2 a21z 11 0).bind fun x31 => (if x31 = some (Zd 14) then ((isO K r30.2 a21z 11).bind fun _ => (c_Value_member Zd K a21z r30.1 r30.2).bind fun x42 => some x42) else ((c_Pointer_index Zd K r30.1 r30.2).bind fun x36 => (isO K r30.2 a21z 11).bind fun _ => (c_Value_element Zd K a21z x36 r30.2).bind fun x39 => some x39)).bind fun e32 => (some (e9.2.2.1 + (1 : Int32))).bind fun y34 => some (e32, y34, r30.2)) else (a1.bind fun a45z => (isO K e9.2.2.2 a45z 12).bind fun _ => (c_String_charAt Zd K a45z e9.2.2.1 e9.2.2.2).bind fun x46 => if x46 = (47 : Int32) then ((isO K e9.2.2.2 o 5).bind fun _ => (c_Pointer_token Zd K o a1 e9.2.1 e9.2.2.1 e9.2.2.2).bind fun r52 => (gQ K r52.2 a21z 11 0).bind fun x53 => (if x53 = some (Zd 14) then ((isO K r52.2 a21z 11).bind fun _ => (c_Value_member Zd K a21z r52.1 r52.2).bind fun x64 => some x64) else ((c_Pointer_index Zd K r52.1 r52.2).bind fun x58 => (isO K r52.2 a21z 11).bind fun _ => (c_Value_element Zd K a21z x58 r52.2).bind fun x61 => some x61)).bind fun e54 => (some (e9.2.2.1 + (1 : Int32))).bind fun y56 => some (e54, y56, r52.2)) else (some (e9.1, e9.2.1, e9.2.2.2)))).bind fun e22 => (some (e9.2.2.1 + 1)).bind fun y26 => c_Pointer_lead_l1 Zd K o a1 a2 n9 (e22.1, e22.2.1, y26, e22.2.2)))) := rfl
def c_Pointer_lead (Zd : Nat → Nat) (K : KE) (o : Nat) (a0 : Option Nat) (a1 : Option Nat) (a2 : Int32) (st : CS) : Option (Option Nat × CS) := (c_Pointer_lead_l1 Zd K o a1 a2 4096 (a0, (1 : Int32), (1 : Int32), st)).bind fun e11 => some (e11.1, e11.2.2.2)
set_option maxHeartbeats 4000000 in
set_option maxRecDepth 100000 in
theorem cc_Pointer_lead (l : Launch) (G : Gk) (Zd : Nat → Nat) (K : KE) (o : Nat) (a0 : Option Nat) (a1 : Option Nat) (a2 : Int32) (st : CS) (r0 : Option Nat) (st0 : CS) (hm : c_Pointer_lead Zd K o a0 a1 a2 st = some (r0, st0)) : CT l y7_5 prog_7_method_5_code 8 (some (.object "PagedValues$Value")) G Zd K (7) [.ref o, va_rf a0, va_rf a1, .int a2] st (hQ G Zd r0 st0) := by
  refine goH (d := 7) (y := y7_5) (cc := prog_7_method_5_code) (maxL := 8) (ret := (some (.object "PagedValues$Value"))) (av := [.ref o, va_rf a0, va_rf a1, .int a2]) (Qc := hQ G Zd r0 st0) "PagedValues$Pointer" rfl (by decide) (c1_c rfl (c1_c (rf_cat _) (c1_c (rf_cat _) (c1_c rfl c1_n)))) (Nat.le_of_ble_eq_true rfl) ?_
  intro p e s m below meth c ls A args Q hQ hx hb hr hlk hml hown hts hin hl hE hw
  have hl : lw ls 8 [(0, .ref o), (1, va_rf a0), (2, va_rf a1), (3, .int a2)] := hl
  have hZ := hE.2.2.1
  have h := hm
  clear hm
  refine xq_aload_n (r := a0) hx hb d7_5_0 rfl (lv_at hl.1 1 rfl) ?_
  refine xt_astore (r := a0) (lv' := [(4, va_rf a0), (0, .ref o), (1, va_rf a0), (2, va_rf a1), (3, .int a2)]) hx hb d7_5_1 hl (by decide) rfl (fun ls hl => ?_)
  refine lv_iconst (v := 1) hx hb d7_5_3 (by decide) ?_
  refine xt_istore (x := 1) (lv' := [(5, .int 1), (4, va_rf a0), (0, .ref o), (1, va_rf a0), (2, va_rf a1), (3, .int a2)]) hx hb d7_5_4 hl (by decide) rfl (fun ls hl => ?_)
  refine lv_iconst (v := 1) hx hb d7_5_6 (by decide) ?_
  refine xt_istore (x := 1) (lv' := [(6, .int 1), (5, .int 1), (4, va_rf a0), (0, .ref o), (1, va_rf a0), (2, va_rf a1), (3, .int a2)]) hx hb d7_5_7 hl (by decide) rfl (fun ls hl => ?_)
  obtain ⟨e11, hX, hrest⟩ := ob h
  clear h
  have hj : ∀ (v16 : Option Nat) (v17 : Int32) (v18 : Int32) (v19 : CS), e11 = (v16, v17, v18, v19) → ∀ (H : Heap) (locs : List Loc) (cells slots : Nat) (ls : Array Slot), lw ls 8 [(0, .ref o), (1, va_rf a0), (2, va_rf a1), (3, .int a2), (4, va_rf v16), (5, .int v17), (6, .int v18)] → wsH G Zd A s v19 H locs → W p l e (rmH Zd (7) st.1) s m args below meth c H locs cells slots Q (F0 m 93 ls []) := by
    intro v16 v17 v18 v19 he H locs cells slots ls hl hw
    subst e11
    have h := hrest
    clear hrest
    refine xq_aload (r := v16) hx hb d7_5_93 (lv_at hl.1 4 rfl) ?_
    cases h
    exact finH_q hQ hx hb hr hlk rfl (Or.inl ⟨_, rfl⟩) hE hw d7_5_95
  have hloop : ∀ (n9 : Nat) (v12 : Option Nat) (v13 : Int32) (v14 : Int32) (v15 : CS), c_Pointer_lead_l1 Zd K o a1 a2 n9 (v12, v13, v14, v15) = some e11 → ∀ (H : Heap) (locs : List Loc) (cells slots : Nat) (ls : Array Slot), lw ls 8 [(0, .ref o), (1, va_rf a0), (2, va_rf a1), (3, .int a2), (4, va_rf v12), (5, .int v13), (6, .int v14)] → wsH G Zd A s v15 H locs → W p l e (rmH Zd (7) st.1) s m args below meth c H locs cells slots Q (F0 m 9 ls []) := by
    intro n9
    induction n9 with
    | zero =>
      intro v12 v13 v14 v15 h
      cases h
    | succ n9 ih =>
      intro v12 v13 v14 v15 h H locs cells slots ls hl hw
      replace h := (c_Pointer_lead_l1_s Zd K o a1 a2 n9 (v12, v13, v14, v15)).symm.trans h
      refine lv_iload hx hb d7_5_9 (lv_at hl.1 6 rfl) ?_
      refine lv_iload_n hx hb d7_5_11 rfl (lv_at hl.1 3 rfl) ?_
      refine lv_icmp_gt (tgt := 93) hx hb d7_5_12 rfl (fun c20 => ?_) (fun c20 => ?_)
      ·
        replace h := (if_pos c20).symm.trans h
        have e9 := Option.some.inj h
        subst e11
        have hl := lw_sub hl (l' := [(0, .ref o), (1, va_rf a0), (2, va_rf a1), (3, .int a2), (4, va_rf v12), (5, .int v13), (6, .int v14)]) [0, 1, 2, 3, 4, 5, 6] rfl
        exact hj _ _ _ _ rfl _ _ _ _ _ hl hw
      ·
        replace h := (if_neg c20).symm.trans h
        refine xq_aload (r := v12) hx hb d7_5_15 (lv_at hl.1 4 rfl) ?_
        rcases nl_case h with ⟨hn21, h⟩ | ⟨a21z, hn21, h⟩
        ·
          have hn21 : v12 = none := hn21
          refine W.eq (g2 := F0 m 17 ls [.null]) (by rw [hn21]; rfl) ?_
          refine lv_ifnullN (tgt := 93) hx hb d7_5_17 rfl ?_
          have e9 := Option.some.inj h
          subst e11
          have hl := lw_sub hl (l' := [(0, .ref o), (1, va_rf a0), (2, va_rf a1), (3, .int a2), (4, va_rf v12), (5, .int v13), (6, .int v14)]) [0, 1, 2, 3, 4, 5, 6] rfl
          exact hj _ _ _ _ rfl _ _ _ _ _ hl hw
        ·
          have hn21 : v12 = some a21z := hn21
          refine W.eq (g2 := F0 m 17 ls [.ref a21z]) (by rw [hn21]; rfl) ?_
          refine lv_ifnull hx hb d7_5_17 ?_
          refine lv_iload hx hb d7_5_20 (lv_at hl.1 6 rfl) ?_
          refine lv_iload_n hx hb d7_5_22 rfl (lv_at hl.1 3 rfl) ?_
          obtain ⟨e22, hX, h⟩ := ob h
          obtain ⟨v23, v24, v25⟩ := e22
          have hj : ∀ (H : Heap) (locs : List Loc) (cells slots : Nat) (ls : Array Slot), lw ls 8 [(0, .ref o), (1, va_rf a0), (2, va_rf a1), (3, .int a2), (4, va_rf v23), (5, .int v24), (6, .int v14)] → wsH G Zd A s v25 H locs → W p l e (rmH Zd (7) st.1) s m args below meth c H locs cells slots Q (F0 m 87 ls []) := by
            intro H locs cells slots ls hl hw
            obtain ⟨y26, hr, h⟩ := ob h
            refine xt_iinc (k := 6) (v := y26) (lv' := [(6, .int y26), (0, .ref o), (1, va_rf a0), (2, va_rf a1), (3, .int a2), (4, va_rf v23), (5, .int v24)]) hx hb d7_5_87 hl rfl hr (by decide) rfl (fun ls hl => ?_)
            clear hr
            refine lv_goto (tgt := 9) hx hb d7_5_90 rfl ?_
            have hl := lw_sub hl (l' := [(0, .ref o), (1, va_rf a0), (2, va_rf a1), (3, .int a2), (4, va_rf v23), (5, .int v24), (6, .int y26)]) [1, 2, 3, 4, 5, 6, 0] rfl
            exact ih _ _ _ _ h _ _ _ _ _ hl hw
          clear h
          refine lv_icmp_eq (tgt := 37) hx hb d7_5_23 rfl (fun c27 => ?_) (fun c27 => ?_)
          ·
            replace h := (if_pos c27).symm.trans hX
            refine lv_aload_n hx hb d7_5_37 rfl (lv_at hl.1 0 rfl) ?_
            refine xq_aload_n (r := a1) hx hb d7_5_38 rfl (lv_at hl.1 2 rfl) ?_
            refine lv_iload hx hb d7_5_39 (lv_at hl.1 5 rfl) ?_
            refine lv_iload hx hb d7_5_41 (lv_at hl.1 6 rfl) ?_
            obtain ⟨u9, ho, h⟩ := ob h
            obtain ⟨⟨x28, st29⟩, hc, h⟩ := ob h
            refine hV_q (ci := 5) (As := [va_rf a1, .int v13, .int v14]) (rest := []) ⟨hx, hb, hml, hown, hts⟩ (cc_Pointer_token l G Zd K o a1 v13 v14 v15 x28 st29 hc) (kw_V (n := 3) hts k813 k810 k9 k811 k812 (by decide +kernel) ⟨Nat.le_of_ble_eq_true rfl, Nat.le_of_ble_eq_true rfl⟩) hE hw rfl rfl ho rfl hl.1.1 rfl (c1_8 c1_n (Nat.le_of_ble_eq_true rfl)) d7_5_43 (fun H locs cells slots hw => ?_)
            clear hc ho u9
            refine W.eq (g2 := F0 m 46 ls [va_rf x28]) rfl ?_
            refine xt_astore (r := x28) (lv' := [(7, va_rf x28), (0, .ref o), (1, va_rf a0), (2, va_rf a1), (3, .int a2), (4, va_rf v12), (5, .int v13), (6, .int v14)]) hx hb d7_5_46 hl (by decide) rfl (fun ls hl => ?_)
            refine xq_aload (r := v12) hx hb d7_5_48 (lv_at hl.1 5 rfl) ?_
            refine W.eq (g2 := F0 m 50 ls [.ref a21z]) (by rw [hn21]; rfl) ?_
            obtain ⟨x31, hr, h⟩ := ob h
            refine xgN_q (ci := 11) (C := r_11) (T := f_11) (N := 6) (ref := "PagedValues$Value") hx hb hts (fun w h => List.mem_cons_of_mem _ (ly_11 w h)) hown hE hw rfl 0 (by decide) (va_Nw.use rfl (hZ.1.1 _ kn351)) (fun _ h9 => h9) hr d7_5_50 ?_
            clear hr
            refine va_gets (ref := "PagedValues$Kind") hx hb (hZ.2.1.1.1 6 (by decide)).1 hw.2.2.2 hown (hts _ (List.mem_cons_of_mem _ k817)) (fun _ h9 => h9) d7_5_53 ?_
            refine W.eq (g2 := F0 m 56 ls [.ref (Zd 14), va_rf x31]) rfl ?_
            obtain ⟨e32, hX, h⟩ := ob h
            have hj : ∀ (H : Heap) (locs : List Loc) (cells slots : Nat) (ls : Array Slot), lw ls 8 [(0, .ref o), (1, va_rf a0), (2, va_rf a1), (3, .int a2), (4, va_rf v12), (5, .int v13), (6, .int v14), (7, va_rf x28)] → wsH G Zd A s st29 H locs → W p l e (rmH Zd (7) st.1) s m args below meth c H locs cells slots Q (F0 m 79 ls [va_rf e32]) := by
              intro H locs cells slots ls hl hw
              refine xt_astore (r := e32) (lv' := [(4, va_rf e32), (0, .ref o), (1, va_rf a0), (2, va_rf a1), (3, .int a2), (5, .int v13), (6, .int v14), (7, va_rf x28)]) hx hb d7_5_79 hl (by decide) rfl (fun ls hl => ?_)
              refine lv_iload hx hb d7_5_81 (lv_at hl.1 6 rfl) ?_
              refine lv_iconst (v := 1) hx hb d7_5_83 (by decide) ?_
              refine lv_iadd hx hb d7_5_84 ?_
              obtain ⟨y34, hr, h⟩ := ob h
              refine lv_topi (fun y9 ey => ?_)
              have e9 := ey.trans (Option.some.inj hr)
              clear ey
              subst y9
              clear hr
              refine xt_istore (x := y34) (lv' := [(5, .int y34), (4, va_rf e32), (0, .ref o), (1, va_rf a0), (2, va_rf a1), (3, .int a2), (6, .int v14), (7, va_rf x28)]) hx hb d7_5_85 hl (by decide) rfl (fun ls hl => ?_)
              have e9_0 := Option.some.inj h
              obtain ⟨q9, e9_1⟩ := Prod.mk.inj e9_0
              clear e9_0
              subst v23
              obtain ⟨q9, e9_2⟩ := Prod.mk.inj e9_1
              clear e9_1
              subst v24
              subst v25
              have hl := lw_sub hl (l' := [(0, .ref o), (1, va_rf a0), (2, va_rf a1), (3, .int a2), (4, va_rf e32), (5, .int y34), (6, .int v14)]) [2, 3, 4, 5, 1, 0, 6] rfl
              exact hj _ _ _ _ _ hl hw
            clear h
            refine lv_acmp_ne (rx := x31) (ry := some (Zd 14)) (tgt := 69) hx hb d7_5_56 rfl (fun c35 => ?_) (fun c35 => ?_)
            ·
              replace h := (if_neg c35).symm.trans hX
              refine xq_aload (r := v12) hx hb d7_5_69 (lv_at hl.1 5 rfl) ?_
              refine xq_aload (r := x28) hx hb d7_5_71 (lv_at hl.1 0 rfl) ?_
              obtain ⟨x36, hc, h⟩ := ob h
              refine hS_i (As := [va_rf x28]) (rest := [va_rf v12]) ⟨hx, hb, hml, hown, hts⟩ (cc_Pointer_index l G Zd K x28 st29 x36 hc) (kw_S (n := 1) hts k821 k819 k9 k820 (by decide +kernel) ⟨Nat.le_of_ble_eq_true rfl, Nat.le_of_ble_eq_true rfl⟩) hE hw rfl hl.1.1 rfl (c1_8 (c1_c (rf_cat _) c1_n) (Nat.le_of_ble_eq_true rfl)) d7_5_73 (fun H locs cells slots hw => ?_)
              clear hc
              refine W.eq (g2 := F0 m 76 ls [.int x36, va_rf v12]) rfl ?_
              refine W.eq (g2 := F0 m 76 ls [.int x36, .ref a21z]) (by rw [hn21]; rfl) ?_
              obtain ⟨u9, ho, h⟩ := ob h
              obtain ⟨x39, hc, h⟩ := ob h
              refine hV_q (ci := 11) (As := [.int x36]) (rest := []) ⟨hx, hb, hml, hown, hts⟩ (cc_Value_element l G Zd K a21z x36 st29 x39 hc) (kw_V (n := 1) hts k826 k823 k18 k824 k825 (by decide +kernel) ⟨Nat.le_of_ble_eq_true rfl, Nat.le_of_ble_eq_true rfl⟩) hE hw rfl rfl ho rfl hl.1.1 rfl (c1_8 c1_n (Nat.le_of_ble_eq_true rfl)) d7_5_76 (fun H locs cells slots hw => ?_)
              clear hc ho u9
              refine W.eq (g2 := F0 m 79 ls [va_rf x39]) rfl ?_
              have e9 := Option.some.inj h
              subst e32
              have hl := lw_sub hl (l' := [(0, .ref o), (1, va_rf a0), (2, va_rf a1), (3, .int a2), (4, va_rf v12), (5, .int v13), (6, .int v14), (7, va_rf x28)]) [1, 2, 3, 4, 5, 6, 7, 0] rfl
              exact hj _ _ _ _ _ hl hw
            ·
              replace h := (if_pos c35).symm.trans hX
              refine xq_aload (r := v12) hx hb d7_5_59 (lv_at hl.1 5 rfl) ?_
              refine xq_aload (r := x28) hx hb d7_5_61 (lv_at hl.1 0 rfl) ?_
              refine W.eq (g2 := F0 m 63 ls [va_rf x28, .ref a21z]) (by rw [hn21]; rfl) ?_
              obtain ⟨u9, ho, h⟩ := ob h
              obtain ⟨x42, hc, h⟩ := ob h
              refine hV_q (ci := 11) (As := [va_rf x28]) (rest := []) ⟨hx, hb, hml, hown, hts⟩ (cc_Value_member l G Zd K a21z x28 st29 x42 hc) (kw_V (n := 1) hts k584 k818 k18 k582 k583 (by decide +kernel) ⟨Nat.le_of_ble_eq_true rfl, Nat.le_of_ble_eq_true rfl⟩) hE hw rfl rfl ho rfl hl.1.1 rfl (c1_8 c1_n (Nat.le_of_ble_eq_true rfl)) d7_5_63 (fun H locs cells slots hw => ?_)
              clear hc ho u9
              refine W.eq (g2 := F0 m 66 ls [va_rf x42]) rfl ?_
              refine lv_goto (tgt := 79) hx hb d7_5_66 rfl ?_
              have e9 := Option.some.inj h
              subst e32
              have hl := lw_sub hl (l' := [(0, .ref o), (1, va_rf a0), (2, va_rf a1), (3, .int a2), (4, va_rf v12), (5, .int v13), (6, .int v14), (7, va_rf x28)]) [1, 2, 3, 4, 5, 6, 7, 0] rfl
              exact hj _ _ _ _ _ hl hw
          ·
            replace h := (if_neg c27).symm.trans hX
            refine xq_aload_n (r := a1) hx hb d7_5_26 rfl (lv_at hl.1 2 rfl) ?_
            refine lv_iload hx hb d7_5_27 (lv_at hl.1 6 rfl) ?_
            obtain ⟨a45z, hn45, h⟩ := ob h
            have hn45 : a1 = some a45z := hn45
            refine W.eq (g2 := F0 m 29 ls [.int v14, .ref a45z]) (by rw [hn45]; rfl) ?_
            obtain ⟨u9, ho, h⟩ := ob h
            obtain ⟨x46, hc, h⟩ := ob h
            refine hV_i (ci := 12) (As := [.int v14]) (rest := []) ⟨hx, hb, hml, hown, hts⟩ (cc_String_charAt l G Zd K a45z v14 v15 x46 hc) (kw_V (n := 1) hts k636 k793 k5 k634 k635 (by decide +kernel) ⟨Nat.le_of_ble_eq_true rfl, Nat.le_of_ble_eq_true rfl⟩) hE hw rfl rfl ho rfl hl.1.1 rfl (c1_8 c1_n (Nat.le_of_ble_eq_true rfl)) d7_5_29 (fun H locs cells slots hw => ?_)
            clear hc ho u9
            refine W.eq (g2 := F0 m 32 ls [.int x46]) rfl ?_
            refine lv_bipush (v := 47) hx hb d7_5_32 (by decide) ?_
            refine lv_icmp_ne (tgt := 87) hx hb d7_5_34 rfl (fun c49 => ?_) (fun c49 => ?_)
            ·
              replace h := (if_neg c49).symm.trans h
              have e9_0 := Option.some.inj h
              obtain ⟨q9, e9_1⟩ := Prod.mk.inj e9_0
              clear e9_0
              subst v23
              obtain ⟨q9, e9_2⟩ := Prod.mk.inj e9_1
              clear e9_1
              subst v24
              subst v25
              have hl := lw_sub hl (l' := [(0, .ref o), (1, va_rf a0), (2, va_rf a1), (3, .int a2), (4, va_rf v12), (5, .int v13), (6, .int v14)]) [0, 1, 2, 3, 4, 5, 6] rfl
              exact hj _ _ _ _ _ hl hw
            ·
              replace h := (if_pos c49).symm.trans h
              refine lv_aload_n hx hb d7_5_37 rfl (lv_at hl.1 0 rfl) ?_
              refine xq_aload_n (r := a1) hx hb d7_5_38 rfl (lv_at hl.1 2 rfl) ?_
              refine lv_iload hx hb d7_5_39 (lv_at hl.1 5 rfl) ?_
              refine lv_iload hx hb d7_5_41 (lv_at hl.1 6 rfl) ?_
              obtain ⟨u9, ho, h⟩ := ob h
              obtain ⟨⟨x50, st51⟩, hc, h⟩ := ob h
              refine hV_q (ci := 5) (As := [va_rf a1, .int v13, .int v14]) (rest := []) ⟨hx, hb, hml, hown, hts⟩ (cc_Pointer_token l G Zd K o a1 v13 v14 v15 x50 st51 hc) (kw_V (n := 3) hts k813 k810 k9 k811 k812 (by decide +kernel) ⟨Nat.le_of_ble_eq_true rfl, Nat.le_of_ble_eq_true rfl⟩) hE hw rfl rfl ho rfl hl.1.1 rfl (c1_8 c1_n (Nat.le_of_ble_eq_true rfl)) d7_5_43 (fun H locs cells slots hw => ?_)
              clear hc ho u9
              refine W.eq (g2 := F0 m 46 ls [va_rf x50]) rfl ?_
              refine xt_astore (r := x50) (lv' := [(7, va_rf x50), (0, .ref o), (1, va_rf a0), (2, va_rf a1), (3, .int a2), (4, va_rf v12), (5, .int v13), (6, .int v14)]) hx hb d7_5_46 hl (by decide) rfl (fun ls hl => ?_)
              refine xq_aload (r := v12) hx hb d7_5_48 (lv_at hl.1 5 rfl) ?_
              refine W.eq (g2 := F0 m 50 ls [.ref a21z]) (by rw [hn21]; rfl) ?_
              obtain ⟨x53, hr, h⟩ := ob h
              refine xgN_q (ci := 11) (C := r_11) (T := f_11) (N := 6) (ref := "PagedValues$Value") hx hb hts (fun w h => List.mem_cons_of_mem _ (ly_11 w h)) hown hE hw rfl 0 (by decide) (va_Nw.use rfl (hZ.1.1 _ kn351)) (fun _ h9 => h9) hr d7_5_50 ?_
              clear hr
              refine va_gets (ref := "PagedValues$Kind") hx hb (hZ.2.1.1.1 6 (by decide)).1 hw.2.2.2 hown (hts _ (List.mem_cons_of_mem _ k817)) (fun _ h9 => h9) d7_5_53 ?_
              refine W.eq (g2 := F0 m 56 ls [.ref (Zd 14), va_rf x53]) rfl ?_
              obtain ⟨e54, hX, h⟩ := ob h
              have hj : ∀ (H : Heap) (locs : List Loc) (cells slots : Nat) (ls : Array Slot), lw ls 8 [(0, .ref o), (1, va_rf a0), (2, va_rf a1), (3, .int a2), (4, va_rf v12), (5, .int v13), (6, .int v14), (7, va_rf x50)] → wsH G Zd A s st51 H locs → W p l e (rmH Zd (7) st.1) s m args below meth c H locs cells slots Q (F0 m 79 ls [va_rf e54]) := by
                intro H locs cells slots ls hl hw
                refine xt_astore (r := e54) (lv' := [(4, va_rf e54), (0, .ref o), (1, va_rf a0), (2, va_rf a1), (3, .int a2), (5, .int v13), (6, .int v14), (7, va_rf x50)]) hx hb d7_5_79 hl (by decide) rfl (fun ls hl => ?_)
                refine lv_iload hx hb d7_5_81 (lv_at hl.1 6 rfl) ?_
                refine lv_iconst (v := 1) hx hb d7_5_83 (by decide) ?_
                refine lv_iadd hx hb d7_5_84 ?_
                obtain ⟨y56, hr, h⟩ := ob h
                refine lv_topi (fun y9 ey => ?_)
                have e9 := ey.trans (Option.some.inj hr)
                clear ey
                subst y9
                clear hr
                refine xt_istore (x := y56) (lv' := [(5, .int y56), (4, va_rf e54), (0, .ref o), (1, va_rf a0), (2, va_rf a1), (3, .int a2), (6, .int v14), (7, va_rf x50)]) hx hb d7_5_85 hl (by decide) rfl (fun ls hl => ?_)
                have e9_0 := Option.some.inj h
                obtain ⟨q9, e9_1⟩ := Prod.mk.inj e9_0
                clear e9_0
                subst v23
                obtain ⟨q9, e9_2⟩ := Prod.mk.inj e9_1
                clear e9_1
                subst v24
                subst v25
                have hl := lw_sub hl (l' := [(0, .ref o), (1, va_rf a0), (2, va_rf a1), (3, .int a2), (4, va_rf e54), (5, .int y56), (6, .int v14)]) [2, 3, 4, 5, 1, 0, 6] rfl
                exact hj _ _ _ _ _ hl hw
              clear h
              refine lv_acmp_ne (rx := x53) (ry := some (Zd 14)) (tgt := 69) hx hb d7_5_56 rfl (fun c57 => ?_) (fun c57 => ?_)
              ·
                replace h := (if_neg c57).symm.trans hX
                refine xq_aload (r := v12) hx hb d7_5_69 (lv_at hl.1 5 rfl) ?_
                refine xq_aload (r := x50) hx hb d7_5_71 (lv_at hl.1 0 rfl) ?_
                obtain ⟨x58, hc, h⟩ := ob h
                refine hS_i (As := [va_rf x50]) (rest := [va_rf v12]) ⟨hx, hb, hml, hown, hts⟩ (cc_Pointer_index l G Zd K x50 st51 x58 hc) (kw_S (n := 1) hts k821 k819 k9 k820 (by decide +kernel) ⟨Nat.le_of_ble_eq_true rfl, Nat.le_of_ble_eq_true rfl⟩) hE hw rfl hl.1.1 rfl (c1_8 (c1_c (rf_cat _) c1_n) (Nat.le_of_ble_eq_true rfl)) d7_5_73 (fun H locs cells slots hw => ?_)
                clear hc
                refine W.eq (g2 := F0 m 76 ls [.int x58, va_rf v12]) rfl ?_
                refine W.eq (g2 := F0 m 76 ls [.int x58, .ref a21z]) (by rw [hn21]; rfl) ?_
                obtain ⟨u9, ho, h⟩ := ob h
                obtain ⟨x61, hc, h⟩ := ob h
                refine hV_q (ci := 11) (As := [.int x58]) (rest := []) ⟨hx, hb, hml, hown, hts⟩ (cc_Value_element l G Zd K a21z x58 st51 x61 hc) (kw_V (n := 1) hts k826 k823 k18 k824 k825 (by decide +kernel) ⟨Nat.le_of_ble_eq_true rfl, Nat.le_of_ble_eq_true rfl⟩) hE hw rfl rfl ho rfl hl.1.1 rfl (c1_8 c1_n (Nat.le_of_ble_eq_true rfl)) d7_5_76 (fun H locs cells slots hw => ?_)
                clear hc ho u9
                refine W.eq (g2 := F0 m 79 ls [va_rf x61]) rfl ?_
                have e9 := Option.some.inj h
                subst e54
                have hl := lw_sub hl (l' := [(0, .ref o), (1, va_rf a0), (2, va_rf a1), (3, .int a2), (4, va_rf v12), (5, .int v13), (6, .int v14), (7, va_rf x50)]) [1, 2, 3, 4, 5, 6, 7, 0] rfl
                exact hj _ _ _ _ _ hl hw
              ·
                replace h := (if_pos c57).symm.trans hX
                refine xq_aload (r := v12) hx hb d7_5_59 (lv_at hl.1 5 rfl) ?_
                refine xq_aload (r := x50) hx hb d7_5_61 (lv_at hl.1 0 rfl) ?_
                refine W.eq (g2 := F0 m 63 ls [va_rf x50, .ref a21z]) (by rw [hn21]; rfl) ?_
                obtain ⟨u9, ho, h⟩ := ob h
                obtain ⟨x64, hc, h⟩ := ob h
                refine hV_q (ci := 11) (As := [va_rf x50]) (rest := []) ⟨hx, hb, hml, hown, hts⟩ (cc_Value_member l G Zd K a21z x50 st51 x64 hc) (kw_V (n := 1) hts k584 k818 k18 k582 k583 (by decide +kernel) ⟨Nat.le_of_ble_eq_true rfl, Nat.le_of_ble_eq_true rfl⟩) hE hw rfl rfl ho rfl hl.1.1 rfl (c1_8 c1_n (Nat.le_of_ble_eq_true rfl)) d7_5_63 (fun H locs cells slots hw => ?_)
                clear hc ho u9
                refine W.eq (g2 := F0 m 66 ls [va_rf x64]) rfl ?_
                refine lv_goto (tgt := 79) hx hb d7_5_66 rfl ?_
                have e9 := Option.some.inj h
                subst e54
                have hl := lw_sub hl (l' := [(0, .ref o), (1, va_rf a0), (2, va_rf a1), (3, .int a2), (4, va_rf v12), (5, .int v13), (6, .int v14), (7, va_rf x50)]) [1, 2, 3, 4, 5, 6, 7, 0] rfl
                exact hj _ _ _ _ _ hl hw
  have hl := lw_sub hl (l' := [(0, .ref o), (1, va_rf a0), (2, va_rf a1), (3, .int a2), (4, va_rf a0), (5, .int 1), (6, .int 1)]) [3, 4, 5, 6, 2, 1, 0] rfl
  exact hloop _ _ _ _ _ hX _ _ _ _ _ hl hw
def c_Patcher_copySource (Zd : Nat → Nat) (K : KE) (o : Nat) (a0 : Option Nat) (st : CS) : Option (Option Nat × CS) := (c_Pointer_isPointer Zd K a0 st).bind fun x11 => (if x11 = (0 : Int32) then (some (none, st)) else ((gQ K st o 4 0).bind fun x18 => (gQ K st o 4 1).bind fun x19 => a0.bind fun a20z => (isO K st a20z 12).bind fun _ => (c_String_length Zd K a20z st).bind fun x21 => x18.bind fun a24z => (isO K st a24z 5).bind fun _ => (c_Pointer_lead Zd K a24z x19 a0 x21 st).bind fun r27 => some (r27.1, r27.2))).bind fun e14 => some (e14.1, e14.2)
set_option maxHeartbeats 4000000 in
set_option maxRecDepth 100000 in
theorem cc_Patcher_copySource (l : Launch) (G : Gk) (Zd : Nat → Nat) (K : KE) (o : Nat) (a0 : Option Nat) (st : CS) (r0 : Option Nat) (st0 : CS) (hm : c_Patcher_copySource Zd K o a0 st = some (r0, st0)) : CT l y6_8 prog_6_method_8_code 2 (some (.object "PagedValues$Value")) G Zd K (8) [.ref o, va_rf a0] st (hQ G Zd r0 st0) := by
  refine goH (d := 8) (y := y6_8) (cc := prog_6_method_8_code) (maxL := 2) (ret := (some (.object "PagedValues$Value"))) (av := [.ref o, va_rf a0]) (Qc := hQ G Zd r0 st0) "PagedValues$Patcher" rfl (by decide) (c1_c rfl (c1_c (rf_cat _) c1_n)) (Nat.le_of_ble_eq_true rfl) ?_
  intro p e s m below meth c ls A args Q hQ hx hb hr hlk hml hown hts hin hl hE hw
  have hl : lw ls 2 [(0, .ref o), (1, va_rf a0)] := hl
  have hZ := hE.2.2.1
  have h := hm
  clear hm
  refine xq_aload_n (r := a0) hx hb d6_8_0 rfl (lv_at hl.1 1 rfl) ?_
  obtain ⟨x11, hc, h⟩ := ob h
  refine hS_i (As := [va_rf a0]) (rest := []) ⟨hx, hb, hml, hown, hts⟩ (cc_Pointer_isPointer l G Zd K a0 st x11 hc) (kw_S (n := 1) hts k788 k786 k9 k787 (by decide +kernel) ⟨Nat.le_of_ble_eq_true rfl, Nat.le_of_ble_eq_true rfl⟩) hE hw rfl hl.1.1 rfl (c1_8 c1_n (Nat.le_of_ble_eq_true rfl)) d6_8_1 (fun H locs cells slots hw => ?_)
  clear hc
  refine W.eq (g2 := F0 m 4 ls [.int x11]) rfl ?_
  obtain ⟨e14, hX, h⟩ := ob h
  obtain ⟨v15, v16⟩ := e14
  have hj : ∀ (H : Heap) (locs : List Loc) (cells slots : Nat) (ls : Array Slot), lw ls 2 [(0, .ref o), (1, va_rf a0)] → wsH G Zd A s v16 H locs → W p l e (rmH Zd (8) st.1) s m args below meth c H locs cells slots Q (F0 m 27 ls [va_rf v15]) := by
    intro H locs cells slots ls hl hw
    cases h
    exact finH_q hQ hx hb hr hlk rfl (Or.inl ⟨_, rfl⟩) hE hw d6_8_27
  clear h
  refine lv_if_eq (tgt := 26) hx hb d6_8_4 rfl (fun c17 => ?_) (fun c17 => ?_)
  ·
    replace h := (if_pos c17).symm.trans hX
    refine lv_null hx hb d6_8_26 ?_
    have e9_0 := Option.some.inj h
    obtain ⟨q9, e9_1⟩ := Prod.mk.inj e9_0
    clear e9_0
    subst v15
    subst v16
    have hl := lw_sub hl (l' := [(0, .ref o), (1, va_rf a0)]) [0, 1] rfl
    exact hj _ _ _ _ _ hl hw
  ·
    replace h := (if_neg c17).symm.trans hX
    refine lv_aload_n hx hb d6_8_7 rfl (lv_at hl.1 0 rfl) ?_
    obtain ⟨x18, hr, h⟩ := ob h
    refine xg_q (ci := 4) (C := r_4) (T := f_4) (N := 2) (ref := "PagedValues$Patcher") hx hb hts (fun w h => List.mem_cons_of_mem _ (ly_4 w h)) hown hE hw rfl 0 (by decide) (hts _ (List.mem_cons_of_mem _ k122)) (fun _ h9 => h9) hr d6_8_8 ?_
    clear hr
    refine lv_aload_n hx hb d6_8_11 rfl (lv_at hl.1 0 rfl) ?_
    obtain ⟨x19, hr, h⟩ := ob h
    refine xg_q (ci := 4) (C := r_4) (T := f_4) (N := 2) (ref := "PagedValues$Patcher") hx hb hts (fun w h => List.mem_cons_of_mem _ (ly_4 w h)) hown hE hw rfl 1 (by decide) (hts _ (List.mem_cons_of_mem _ k123)) (fun _ h9 => h9) hr d6_8_12 ?_
    clear hr
    refine xq_aload_n (r := a0) hx hb d6_8_15 rfl (lv_at hl.1 1 rfl) ?_
    refine xq_aload_n (r := a0) hx hb d6_8_16 rfl (lv_at hl.1 1 rfl) ?_
    obtain ⟨a20z, hn20, h⟩ := ob h
    have hn20 : a0 = some a20z := hn20
    refine W.eq (g2 := F0 m 17 ls [.ref a20z, va_rf a0, va_rf x19, va_rf x18]) (by rw [hn20]; rfl) ?_
    obtain ⟨u9, ho, h⟩ := ob h
    obtain ⟨x21, hc, h⟩ := ob h
    refine hV_i (ci := 12) (As := []) (rest := [va_rf a0, va_rf x19, va_rf x18]) ⟨hx, hb, hml, hown, hts⟩ (cc_String_length l G Zd K a20z st x21 hc) (kw_V (n := 0) hts k628 k828 k5 k626 k627 (by decide +kernel) ⟨Nat.le_of_ble_eq_true rfl, Nat.le_of_ble_eq_true rfl⟩) hE hw rfl rfl ho rfl hl.1.1 rfl (c1_8 (c1_c (rf_cat _) (c1_c (rf_cat _) (c1_c (rf_cat _) c1_n))) (Nat.le_of_ble_eq_true rfl)) d6_8_17 (fun H locs cells slots hw => ?_)
    clear hc ho u9
    refine W.eq (g2 := F0 m 20 ls [.int x21, va_rf a0, va_rf x19, va_rf x18]) rfl ?_
    obtain ⟨a24z, hn24, h⟩ := ob h
    have hn24 : x18 = some a24z := hn24
    refine W.eq (g2 := F0 m 20 ls [.int x21, va_rf a0, va_rf x19, .ref a24z]) (by rw [hn24]; rfl) ?_
    obtain ⟨u9, ho, h⟩ := ob h
    obtain ⟨⟨x25, st26⟩, hc, h⟩ := ob h
    refine hV_q (ci := 5) (As := [va_rf x19, va_rf a0, .int x21]) (rest := []) ⟨hx, hb, hml, hown, hts⟩ (cc_Pointer_lead l G Zd K a24z x19 a0 x21 st x25 st26 hc) (kw_V (n := 3) hts k809 k806 k9 k807 k808 (by decide +kernel) ⟨Nat.le_of_ble_eq_true rfl, Nat.le_of_ble_eq_true rfl⟩) hE hw rfl rfl ho rfl hl.1.1 rfl (c1_8 c1_n (Nat.le_of_ble_eq_true rfl)) d6_8_20 (fun H locs cells slots hw => ?_)
    clear hc ho u9
    refine W.eq (g2 := F0 m 23 ls [va_rf x25]) rfl ?_
    refine lv_goto (tgt := 27) hx hb d6_8_23 rfl ?_
    have e9_0 := Option.some.inj h
    obtain ⟨q9, e9_1⟩ := Prod.mk.inj e9_0
    clear e9_0
    subst v15
    subst v16
    have hl := lw_sub hl (l' := [(0, .ref o), (1, va_rf a0)]) [0, 1] rfl
    exact hj _ _ _ _ _ hl hw
def c_Pointer_lastSlash_l1 (Zd : Nat → Nat) (K : KE) (a0 : Option Nat) (st : CS) : Nat → (Int32 × Int32) → Option (Int32 × Int32)
  | 0, _ => none
  | n9 + 1, e9 => a0.bind fun a16z => (isO K st a16z 12).bind fun _ => (c_String_length Zd K a16z st).bind fun x17 => if x17 ≤ e9.2 then (some (e9.1, e9.2)) else ((isO K st a16z 12).bind fun _ => (c_String_charAt Zd K a16z e9.2 st).bind fun x21 => (if x21 = (47 : Int32) then (some e9.2) else (some e9.1)).bind fun e24 => (some (e9.2 + 1)).bind fun y26 => c_Pointer_lastSlash_l1 Zd K a0 st n9 (e24, y26))
theorem c_Pointer_lastSlash_l1_s (Zd : Nat → Nat) (K : KE) (a0 : Option Nat) (st : CS) (n9 : Nat) (e9 : Int32 × Int32) : c_Pointer_lastSlash_l1 Zd K a0 st (n9 + 1) e9 = (a0.bind fun a16z => (isO K st a16z 12).bind fun _ => (c_String_length Zd K a16z st).bind fun x17 => if x17 ≤ e9.2 then (some (e9.1, e9.2)) else ((isO K st a16z 12).bind fun _ => (c_String_charAt Zd K a16z e9.2 st).bind fun x21 => (if x21 = (47 : Int32) then (some e9.2) else (some e9.1)).bind fun e24 => (some (e9.2 + 1)).bind fun y26 => c_Pointer_lastSlash_l1 Zd K a0 st n9 (e24, y26))) := rfl
def c_Pointer_lastSlash (Zd : Nat → Nat) (K : KE) (a0 : Option Nat) (st : CS) : Option (Int32) := (c_Pointer_lastSlash_l1 Zd K a0 st 4096 ((0 : Int32), (0 : Int32))).bind fun e11 => some e11.1
set_option maxHeartbeats 4000000 in
set_option maxRecDepth 100000 in
theorem cc_Pointer_lastSlash (l : Launch) (G : Gk) (Zd : Nat → Nat) (K : KE) (a0 : Option Nat) (st : CS) (r0 : Int32) (hm : c_Pointer_lastSlash Zd K a0 st = some r0) : CT l y7_4 prog_7_method_4_code 3 (some .int) G Zd K (4) [va_rf a0] st (hI G Zd r0 st) := by
  refine goH (d := 4) (y := y7_4) (cc := prog_7_method_4_code) (maxL := 3) (ret := (some .int)) (av := [va_rf a0]) (Qc := hI G Zd r0 st) "PagedValues$Pointer" rfl (by decide) (c1_c (rf_cat _) c1_n) (Nat.le_of_ble_eq_true rfl) ?_
  intro p e s m below meth c ls A args Q hQ hx hb hr hlk hml hown hts hin hl hE hw
  have hl : lw ls 3 [(0, va_rf a0)] := hl
  have hZ := hE.2.2.1
  have h := hm
  clear hm
  refine lv_iconst (v := 0) hx hb d7_4_0 (by decide) ?_
  refine xt_istore_n (x := 0) (lv' := [(1, .int 0), (0, va_rf a0)]) hx hb d7_4_1 rfl hl (by decide) rfl (fun ls hl => ?_)
  refine lv_iconst (v := 0) hx hb d7_4_2 (by decide) ?_
  refine xt_istore_n (x := 0) (lv' := [(2, .int 0), (1, .int 0), (0, va_rf a0)]) hx hb d7_4_3 rfl hl (by decide) rfl (fun ls hl => ?_)
  obtain ⟨e11, hX, hrest⟩ := ob h
  clear h
  have hj : ∀ (v14 : Int32) (v15 : Int32), e11 = (v14, v15) → ∀ (H : Heap) (locs : List Loc) (cells slots : Nat) (ls : Array Slot), lw ls 3 [(0, va_rf a0), (1, .int v14), (2, .int v15)] → wsH G Zd A s st H locs → W p l e (rmH Zd (4) st.1) s m args below meth c H locs cells slots Q (F0 m 30 ls []) := by
    intro v14 v15 he H locs cells slots ls hl hw
    subst e11
    have h := hrest
    clear hrest
    refine lv_iload_n hx hb d7_4_30 rfl (lv_at hl.1 1 rfl) ?_
    cases h
    exact finH_i hQ hx hb hr hlk hE hw d7_4_31
  have hloop : ∀ (n9 : Nat) (v12 : Int32) (v13 : Int32), c_Pointer_lastSlash_l1 Zd K a0 st n9 (v12, v13) = some e11 → ∀ (H : Heap) (locs : List Loc) (cells slots : Nat) (ls : Array Slot), lw ls 3 [(0, va_rf a0), (1, .int v12), (2, .int v13)] → wsH G Zd A s st H locs → W p l e (rmH Zd (4) st.1) s m args below meth c H locs cells slots Q (F0 m 4 ls []) := by
    intro n9
    induction n9 with
    | zero =>
      intro v12 v13 h
      cases h
    | succ n9 ih =>
      intro v12 v13 h H locs cells slots ls hl hw
      replace h := (c_Pointer_lastSlash_l1_s Zd K a0 st n9 (v12, v13)).symm.trans h
      refine lv_iload_n hx hb d7_4_4 rfl (lv_at hl.1 2 rfl) ?_
      refine xq_aload_n (r := a0) hx hb d7_4_5 rfl (lv_at hl.1 0 rfl) ?_
      obtain ⟨a16z, hn16, h⟩ := ob h
      have hn16 : a0 = some a16z := hn16
      refine W.eq (g2 := F0 m 6 ls [.ref a16z, .int v13]) (by rw [hn16]; rfl) ?_
      obtain ⟨u9, ho, h⟩ := ob h
      obtain ⟨x17, hc, h⟩ := ob h
      refine hV_i (ci := 12) (As := []) (rest := [.int v13]) ⟨hx, hb, hml, hown, hts⟩ (cc_String_length l G Zd K a16z st x17 hc) (kw_V (n := 0) hts k628 k794 k5 k626 k627 (by decide +kernel) ⟨Nat.le_of_ble_eq_true rfl, Nat.le_of_ble_eq_true rfl⟩) hE hw rfl rfl ho rfl hl.1.1 rfl (c1_8 (c1_c rfl c1_n) (Nat.le_of_ble_eq_true rfl)) d7_4_6 (fun H locs cells slots hw => ?_)
      clear hc ho u9
      refine W.eq (g2 := F0 m 9 ls [.int x17, .int v13]) rfl ?_
      refine lv_icmp_ge (tgt := 30) hx hb d7_4_9 rfl (fun c20 => ?_) (fun c20 => ?_)
      ·
        replace h := (if_pos c20).symm.trans h
        have e9 := Option.some.inj h
        subst e11
        have hl := lw_sub hl (l' := [(0, va_rf a0), (1, .int v12), (2, .int v13)]) [0, 1, 2] rfl
        exact hj _ _ rfl _ _ _ _ _ hl hw
      ·
        replace h := (if_neg c20).symm.trans h
        refine xq_aload_n (r := a0) hx hb d7_4_12 rfl (lv_at hl.1 0 rfl) ?_
        refine lv_iload_n hx hb d7_4_13 rfl (lv_at hl.1 2 rfl) ?_
        refine W.eq (g2 := F0 m 14 ls [.int v13, .ref a16z]) (by rw [hn16]; rfl) ?_
        obtain ⟨u9, ho, h⟩ := ob h
        obtain ⟨x21, hc, h⟩ := ob h
        refine hV_i (ci := 12) (As := [.int v13]) (rest := []) ⟨hx, hb, hml, hown, hts⟩ (cc_String_charAt l G Zd K a16z v13 st x21 hc) (kw_V (n := 1) hts k636 k793 k5 k634 k635 (by decide +kernel) ⟨Nat.le_of_ble_eq_true rfl, Nat.le_of_ble_eq_true rfl⟩) hE hw rfl rfl ho rfl hl.1.1 rfl (c1_8 c1_n (Nat.le_of_ble_eq_true rfl)) d7_4_14 (fun H locs cells slots hw => ?_)
        clear hc ho u9
        refine W.eq (g2 := F0 m 17 ls [.int x21]) rfl ?_
        refine lv_bipush (v := 47) hx hb d7_4_17 (by decide) ?_
        obtain ⟨e24, hX, h⟩ := ob h
        have hj : ∀ (H : Heap) (locs : List Loc) (cells slots : Nat) (ls : Array Slot), lw ls 3 [(0, va_rf a0), (1, .int e24), (2, .int v13)] → wsH G Zd A s st H locs → W p l e (rmH Zd (4) st.1) s m args below meth c H locs cells slots Q (F0 m 24 ls []) := by
          intro H locs cells slots ls hl hw
          obtain ⟨y26, hr, h⟩ := ob h
          refine xt_iinc (k := 2) (v := y26) (lv' := [(2, .int y26), (0, va_rf a0), (1, .int e24)]) hx hb d7_4_24 hl rfl hr (by decide) rfl (fun ls hl => ?_)
          clear hr
          refine lv_goto (tgt := 4) hx hb d7_4_27 rfl ?_
          have hl := lw_sub hl (l' := [(0, va_rf a0), (1, .int e24), (2, .int y26)]) [1, 2, 0] rfl
          exact ih _ _ h _ _ _ _ _ hl hw
        clear h
        refine lv_icmp_ne (tgt := 24) hx hb d7_4_19 rfl (fun c27 => ?_) (fun c27 => ?_)
        ·
          replace h := (if_neg c27).symm.trans hX
          have e9 := Option.some.inj h
          subst e24
          have hl := lw_sub hl (l' := [(0, va_rf a0), (1, .int v12), (2, .int v13)]) [0, 1, 2] rfl
          exact hj _ _ _ _ _ hl hw
        ·
          replace h := (if_pos c27).symm.trans hX
          refine lv_iload_n hx hb d7_4_22 rfl (lv_at hl.1 2 rfl) ?_
          refine xt_istore_n (x := v13) (lv' := [(1, .int v13), (0, va_rf a0), (2, .int v13)]) hx hb d7_4_23 rfl hl (by decide) rfl (fun ls hl => ?_)
          have e9 := Option.some.inj h
          subst e24
          have hl := lw_sub hl (l' := [(0, va_rf a0), (1, .int v13), (2, .int v13)]) [1, 0, 2] rfl
          exact hj _ _ _ _ _ hl hw
  have hl := lw_sub hl (l' := [(0, va_rf a0), (1, .int 0), (2, .int 0)]) [2, 1, 0] rfl
  exact hloop _ _ _ hX _ _ _ _ _ hl hw
def c_Patcher_addElement (Zd : Nat → Nat) (K : KE) (a0 : Option Nat) (a1 : Option Nat) (a2 : Option Nat) (st : CS) : Option (Int32 × CS) := a0.bind fun a11z => (isO K st a11z 11).bind fun _ => (c_Value_partCount Zd K a11z st).bind fun x12 => a1.bind fun a15z => (isO K st a15z 12).bind fun _ => (c_String_equals Zd K a15z (some (Zd 31)) st).bind fun x16 => (if x16 = (0 : Int32) then ((c_Pointer_index Zd K a1 st).bind fun x27 => some x27) else (some x12)).bind fun e19 => if e19 < (0 : Int32) then (some ((0 : Int32), st)) else (if e19 ≤ x12 then ((isO K st a11z 11).bind fun _ => (c_Value_insert Zd K a11z e19 a2 st).bind fun st24 => some ((1 : Int32), st24)) else (some ((0 : Int32), st)))
set_option maxHeartbeats 4000000 in
set_option maxRecDepth 100000 in
theorem cc_Patcher_addElement (l : Launch) (G : Gk) (Zd : Nat → Nat) (K : KE) (a0 : Option Nat) (a1 : Option Nat) (a2 : Option Nat) (st : CS) (r0 : Int32) (st0 : CS) (hm : c_Patcher_addElement Zd K a0 a1 a2 st = some (r0, st0)) : CT l y6_11 prog_6_method_11_code 5 (some .boolean) G Zd K (5) [va_rf a0, va_rf a1, va_rf a2] st (hI G Zd r0 st0) := by
  refine goH (d := 5) (y := y6_11) (cc := prog_6_method_11_code) (maxL := 5) (ret := (some .boolean)) (av := [va_rf a0, va_rf a1, va_rf a2]) (Qc := hI G Zd r0 st0) "PagedValues$Patcher" rfl (by decide) (c1_c (rf_cat _) (c1_c (rf_cat _) (c1_c (rf_cat _) c1_n))) (Nat.le_of_ble_eq_true rfl) ?_
  intro p e s m below meth c ls A args Q hQ hx hb hr hlk hml hown hts hin hl hE hw
  have hl : lw ls 5 [(0, va_rf a0), (1, va_rf a1), (2, va_rf a2)] := hl
  have hZ := hE.2.2.1
  have h := hm
  clear hm
  refine xq_aload_n (r := a0) hx hb d6_11_0 rfl (lv_at hl.1 0 rfl) ?_
  obtain ⟨a11z, hn11, h⟩ := ob h
  have hn11 : a0 = some a11z := hn11
  refine W.eq (g2 := F0 m 1 ls [.ref a11z]) (by rw [hn11]; rfl) ?_
  obtain ⟨u9, ho, h⟩ := ob h
  obtain ⟨x12, hc, h⟩ := ob h
  refine hV_i (ci := 11) (As := []) (rest := []) ⟨hx, hb, hml, hown, hts⟩ (cc_Value_partCount l G Zd K a11z st x12 hc) (kw_V (n := 0) hts k606 k858 k18 k604 k605 (by decide +kernel) ⟨Nat.le_of_ble_eq_true rfl, Nat.le_of_ble_eq_true rfl⟩) hE hw rfl rfl ho rfl hl.1.1 rfl (c1_8 c1_n (Nat.le_of_ble_eq_true rfl)) d6_11_1 (fun H locs cells slots hw => ?_)
  clear hc ho u9
  refine W.eq (g2 := F0 m 4 ls [.int x12]) rfl ?_
  refine xt_istore_n (x := x12) (lv' := [(3, .int x12), (0, va_rf a0), (1, va_rf a1), (2, va_rf a2)]) hx hb d6_11_4 rfl hl (by decide) rfl (fun ls hl => ?_)
  refine xq_aload_n (r := a1) hx hb d6_11_5 rfl (lv_at hl.1 2 rfl) ?_
  refine va_ldcS hx hb hown (hZ.2.2.1 ("PagedValues$Patcher", 161, "-", 31) (List.mem_of_getElem? (i := 19) rfl)) d6_11_6 ?_
  refine W.eq (g2 := F0 m 8 ls [.ref (Zd 31), va_rf a1]) rfl ?_
  obtain ⟨a15z, hn15, h⟩ := ob h
  have hn15 : a1 = some a15z := hn15
  refine W.eq (g2 := F0 m 8 ls [.ref (Zd 31), .ref a15z]) (by rw [hn15]; rfl) ?_
  obtain ⟨u9, ho, h⟩ := ob h
  obtain ⟨x16, hc, h⟩ := ob h
  refine hV_i (ci := 12) (As := [.ref (Zd 31)]) (rest := []) ⟨hx, hb, hml, hown, hts⟩ (cc_String_equals l G Zd K a15z (some (Zd 31)) st x16 hc) (kw_V (n := 1) hts k590 k770 k5 k588 k589 (by decide +kernel) ⟨Nat.le_of_ble_eq_true rfl, Nat.le_of_ble_eq_true rfl⟩) hE hw rfl rfl ho rfl hl.1.1 rfl (c1_8 c1_n (Nat.le_of_ble_eq_true rfl)) d6_11_8 (fun H locs cells slots hw => ?_)
  clear hc ho u9
  refine W.eq (g2 := F0 m 11 ls [.int x16]) rfl ?_
  obtain ⟨e19, hX, h⟩ := ob h
  have hj : ∀ (H : Heap) (locs : List Loc) (cells slots : Nat) (ls : Array Slot), lw ls 5 [(0, va_rf a0), (1, va_rf a1), (2, va_rf a2), (3, .int x12)] → wsH G Zd A s st H locs → W p l e (rmH Zd (5) st.1) s m args below meth c H locs cells slots Q (F0 m 22 ls [.int e19]) := by
    intro H locs cells slots ls hl hw
    refine xt_istore (x := e19) (lv' := [(4, .int e19), (0, va_rf a0), (1, va_rf a1), (2, va_rf a2), (3, .int x12)]) hx hb d6_11_22 hl (by decide) rfl (fun ls hl => ?_)
    refine lv_iload hx hb d6_11_24 (lv_at hl.1 0 rfl) ?_
    refine lv_if_lt (tgt := 35) hx hb d6_11_26 rfl (fun c21 => ?_) (fun c21 => ?_)
    ·
      replace h := (if_pos c21).symm.trans h
      refine lv_iconst (v := 0) hx hb d6_11_35 (by decide) ?_
      cases h
      exact finH_z hQ hx hb hr hlk (by decide) hE hw d6_11_36
    ·
      replace h := (if_neg c21).symm.trans h
      refine lv_iload hx hb d6_11_29 (lv_at hl.1 0 rfl) ?_
      refine lv_iload_n hx hb d6_11_31 rfl (lv_at hl.1 4 rfl) ?_
      refine lv_icmp_le (tgt := 37) hx hb d6_11_32 rfl (fun c22 => ?_) (fun c22 => ?_)
      ·
        replace h := (if_pos c22).symm.trans h
        refine xq_aload_n (r := a0) hx hb d6_11_37 rfl (lv_at hl.1 1 rfl) ?_
        refine lv_iload hx hb d6_11_38 (lv_at hl.1 0 rfl) ?_
        refine xq_aload_n (r := a2) hx hb d6_11_40 rfl (lv_at hl.1 3 rfl) ?_
        refine W.eq (g2 := F0 m 41 ls [va_rf a2, .int e19, .ref a11z]) (by rw [hn11]; rfl) ?_
        obtain ⟨u9, ho, h⟩ := ob h
        obtain ⟨st24, hc, h⟩ := ob h
        refine hV_v (ci := 11) (As := [.int e19, va_rf a2]) (rest := []) ⟨hx, hb, hml, hown, hts⟩ (cc_Value_insert l G Zd K a11z e19 a2 st st24 hc) (kw_V (n := 2) hts k610 k861 k18 k608 k609 (by decide +kernel) ⟨Nat.le_of_ble_eq_true rfl, Nat.le_of_ble_eq_true rfl⟩) hE hw rfl rfl ho rfl hl.1.1 rfl (c1_8 c1_n (Nat.le_of_ble_eq_true rfl)) d6_11_41 (fun H locs cells slots hw => ?_)
        clear hc ho u9
        refine W.eq (g2 := F0 m 44 ls []) rfl ?_
        refine lv_iconst (v := 1) hx hb d6_11_44 (by decide) ?_
        cases h
        exact finH_z hQ hx hb hr hlk (by decide) hE hw d6_11_45
      ·
        replace h := (if_neg c22).symm.trans h
        refine lv_iconst (v := 0) hx hb d6_11_35 (by decide) ?_
        cases h
        exact finH_z hQ hx hb hr hlk (by decide) hE hw d6_11_36
  clear h
  refine lv_if_eq (tgt := 18) hx hb d6_11_11 rfl (fun c26 => ?_) (fun c26 => ?_)
  ·
    replace h := (if_pos c26).symm.trans hX
    refine xq_aload_n (r := a1) hx hb d6_11_18 rfl (lv_at hl.1 2 rfl) ?_
    obtain ⟨x27, hc, h⟩ := ob h
    refine hS_i (As := [va_rf a1]) (rest := []) ⟨hx, hb, hml, hown, hts⟩ (cc_Pointer_index l G Zd K a1 st x27 hc) (kw_S (n := 1) hts k821 k860 k9 k820 (by decide +kernel) ⟨Nat.le_of_ble_eq_true rfl, Nat.le_of_ble_eq_true rfl⟩) hE hw rfl hl.1.1 rfl (c1_8 c1_n (Nat.le_of_ble_eq_true rfl)) d6_11_19 (fun H locs cells slots hw => ?_)
    clear hc
    refine W.eq (g2 := F0 m 22 ls [.int x27]) rfl ?_
    have e9 := Option.some.inj h
    subst e19
    have hl := lw_sub hl (l' := [(0, va_rf a0), (1, va_rf a1), (2, va_rf a2), (3, .int x12)]) [1, 2, 3, 0] rfl
    exact hj _ _ _ _ _ hl hw
  ·
    replace h := (if_neg c26).symm.trans hX
    refine lv_iload_n hx hb d6_11_14 rfl (lv_at hl.1 0 rfl) ?_
    refine lv_goto (tgt := 22) hx hb d6_11_15 rfl ?_
    have e9 := Option.some.inj h
    subst e19
    have hl := lw_sub hl (l' := [(0, va_rf a0), (1, va_rf a1), (2, va_rf a2), (3, .int x12)]) [1, 2, 3, 0] rfl
    exact hj _ _ _ _ _ hl hw
def c_Patcher_addMember (Zd : Nat → Nat) (K : KE) (a0 : Option Nat) (a1 : Option Nat) (a2 : Option Nat) (st : CS) : Option (CS) := a0.bind fun a11z => (isO K st a11z 11).bind fun _ => (c_Value_member Zd K a11z a1 st).bind fun x12 => nl x12 (a2.bind fun a16z => (sF st a16z 11 3 (va_rf a1)).bind fun st17 => (isO K st17 a11z 11).bind fun _ => (c_Value_append Zd K a11z a2 st17).bind fun st19 => some st19) (fun a15z => (isO K st a11z 11).bind fun _ => (c_Value_swap Zd K a11z x12 a2 st).bind fun st22 => some st22)
set_option maxHeartbeats 4000000 in
set_option maxRecDepth 100000 in
theorem cc_Patcher_addMember (l : Launch) (G : Gk) (Zd : Nat → Nat) (K : KE) (a0 : Option Nat) (a1 : Option Nat) (a2 : Option Nat) (st : CS) (st0 : CS) (hm : c_Patcher_addMember Zd K a0 a1 a2 st = some st0) : CT l y6_10 prog_6_method_10_code 4 none G Zd K (3) [va_rf a0, va_rf a1, va_rf a2] st (hV G Zd st0) := by
  refine goH (d := 3) (y := y6_10) (cc := prog_6_method_10_code) (maxL := 4) (ret := none) (av := [va_rf a0, va_rf a1, va_rf a2]) (Qc := hV G Zd st0) "PagedValues$Patcher" rfl (by decide) (c1_c (rf_cat _) (c1_c (rf_cat _) (c1_c (rf_cat _) c1_n))) (Nat.le_of_ble_eq_true rfl) ?_
  intro p e s m below meth c ls A args Q hQ hx hb hr hlk hml hown hts hin hl hE hw
  have hl : lw ls 4 [(0, va_rf a0), (1, va_rf a1), (2, va_rf a2)] := hl
  have hZ := hE.2.2.1
  have h := hm
  clear hm
  refine xq_aload_n (r := a0) hx hb d6_10_0 rfl (lv_at hl.1 0 rfl) ?_
  refine xq_aload_n (r := a1) hx hb d6_10_1 rfl (lv_at hl.1 1 rfl) ?_
  obtain ⟨a11z, hn11, h⟩ := ob h
  have hn11 : a0 = some a11z := hn11
  refine W.eq (g2 := F0 m 2 ls [va_rf a1, .ref a11z]) (by rw [hn11]; rfl) ?_
  obtain ⟨u9, ho, h⟩ := ob h
  obtain ⟨x12, hc, h⟩ := ob h
  refine hV_q (ci := 11) (As := [va_rf a1]) (rest := []) ⟨hx, hb, hml, hown, hts⟩ (cc_Value_member l G Zd K a11z a1 st x12 hc) (kw_V (n := 1) hts k584 k762 k18 k582 k583 (by decide +kernel) ⟨Nat.le_of_ble_eq_true rfl, Nat.le_of_ble_eq_true rfl⟩) hE hw rfl rfl ho rfl hl.1.1 rfl (c1_8 c1_n (Nat.le_of_ble_eq_true rfl)) d6_10_2 (fun H locs cells slots hw => ?_)
  clear hc ho u9
  refine W.eq (g2 := F0 m 5 ls [va_rf x12]) rfl ?_
  refine xt_astore_n (r := x12) (lv' := [(3, va_rf x12), (0, va_rf a0), (1, va_rf a1), (2, va_rf a2)]) hx hb d6_10_5 rfl hl (by decide) rfl (fun ls hl => ?_)
  refine xq_aload_n (r := x12) hx hb d6_10_6 rfl (lv_at hl.1 0 rfl) ?_
  rcases nl_case h with ⟨hn15, h⟩ | ⟨a15z, hn15, h⟩
  ·
    have hn15 : x12 = none := hn15
    refine W.eq (g2 := F0 m 7 ls [.null]) (by rw [hn15]; rfl) ?_
    refine lv_ifnullN (tgt := 17) hx hb d6_10_7 rfl ?_
    refine xq_aload_n (r := a2) hx hb d6_10_17 rfl (lv_at hl.1 3 rfl) ?_
    refine xq_aload_n (r := a1) hx hb d6_10_18 rfl (lv_at hl.1 2 rfl) ?_
    obtain ⟨a16z, hn16, h⟩ := ob h
    have hn16 : a2 = some a16z := hn16
    refine W.eq (g2 := F0 m 19 ls [va_rf a1, .ref a16z]) (by rw [hn16]; rfl) ?_
    obtain ⟨st17, hr, h⟩ := ob h
    refine xpN (ci := 11) (ty := (ft_11 3)) (C := r_11) (T := f_11) (N := 6) (ref := "PagedValues$Value") hx hb hts (fun w h => List.mem_cons_of_mem _ (ly_11 w h)) ft_11 ft_11_ok nm_11 hown hE hw rfl 3 (by decide) (va_Nw.use rfl (hZ.1.1 _ kn357)) (fun _ h9 => h9) rfl hr (by decide +kernel) (rf_narO _) (rf_fitO _) d6_10_19 (fun H locs hw => ?_)
    clear hr
    refine xq_aload_n (r := a0) hx hb d6_10_22 rfl (lv_at hl.1 1 rfl) ?_
    refine xq_aload_n (r := a2) hx hb d6_10_23 rfl (lv_at hl.1 3 rfl) ?_
    refine W.eq (g2 := F0 m 24 ls [va_rf a2, .ref a11z]) (by rw [hn11]; rfl) ?_
    obtain ⟨u9, ho, h⟩ := ob h
    obtain ⟨st19, hc, h⟩ := ob h
    refine hV_v (ci := 11) (As := [va_rf a2]) (rest := []) ⟨hx, hb, hml, hown, hts⟩ (cc_Value_append l G Zd K a11z a2 st17 st19 hc) (kw_V (n := 1) hts k602 k854 k18 k600 k601 (by decide +kernel) ⟨Nat.le_of_ble_eq_true rfl, Nat.le_of_ble_eq_true rfl⟩) hE hw rfl rfl ho rfl hl.1.1 rfl (c1_8 c1_n (Nat.le_of_ble_eq_true rfl)) d6_10_24 (fun H locs cells slots hw => ?_)
    clear hc ho u9
    refine W.eq (g2 := F0 m 27 ls []) rfl ?_
    cases h
    exact finH_v hQ hx hb hr hlk hE hw d6_10_27
  ·
    have hn15 : x12 = some a15z := hn15
    refine W.eq (g2 := F0 m 7 ls [.ref a15z]) (by rw [hn15]; rfl) ?_
    refine lv_ifnull hx hb d6_10_7 ?_
    refine xq_aload_n (r := a0) hx hb d6_10_10 rfl (lv_at hl.1 1 rfl) ?_
    refine xq_aload_n (r := x12) hx hb d6_10_11 rfl (lv_at hl.1 0 rfl) ?_
    refine xq_aload_n (r := a2) hx hb d6_10_12 rfl (lv_at hl.1 3 rfl) ?_
    refine W.eq (g2 := F0 m 13 ls [va_rf a2, va_rf x12, .ref a11z]) (by rw [hn11]; rfl) ?_
    obtain ⟨u9, ho, h⟩ := ob h
    obtain ⟨st22, hc, h⟩ := ob h
    refine hV_v (ci := 11) (As := [va_rf x12, va_rf a2]) (rest := []) ⟨hx, hb, hml, hown, hts⟩ (cc_Value_swap l G Zd K a11z x12 a2 st st22 hc) (kw_V (n := 2) hts k840 k837 k18 k838 k839 (by decide +kernel) ⟨Nat.le_of_ble_eq_true rfl, Nat.le_of_ble_eq_true rfl⟩) hE hw rfl rfl ho rfl hl.1.1 rfl (c1_8 c1_n (Nat.le_of_ble_eq_true rfl)) d6_10_13 (fun H locs cells slots hw => ?_)
    clear hc ho u9
    refine W.eq (g2 := F0 m 16 ls []) rfl ?_
    cases h
    exact finH_v hQ hx hb hr hlk hE hw d6_10_16
def c_Patcher_add (Zd : Nat → Nat) (K : KE) (o : Nat) (a0 : Option Nat) (a1 : Option Nat) (st : CS) : Option (Int32 × CS) := a0.bind fun a11z => (isO K st a11z 12).bind fun _ => (c_String_isEmpty Zd K a11z st).bind fun x12 => if x12 = (0 : Int32) then ((c_Pointer_lastSlash Zd K a0 st).bind fun x16 => (gQ K st o 4 0).bind fun x19 => (gQ K st o 4 1).bind fun x20 => x19.bind fun a21z => (isO K st a21z 5).bind fun _ => (c_Pointer_lead Zd K a21z x20 a0 x16 st).bind fun r24 => nl r24.1 (some ((0 : Int32), r24.2)) (fun a25z => (gQ K r24.2 o 4 0).bind fun x26 => (some (x16 + (1 : Int32))).bind fun y27 => (isO K r24.2 a11z 12).bind fun _ => (c_String_length Zd K a11z r24.2).bind fun x28 => x26.bind fun a31z => (isO K r24.2 a31z 5).bind fun _ => (c_Pointer_token Zd K a31z a0 y27 x28 r24.2).bind fun r34 => (gQ K r34.2 a25z 11 0).bind fun x35 => if x35 = some (Zd 14) then ((c_Patcher_addMember Zd K r24.1 r34.1 a1 r34.2).bind fun st47 => some ((1 : Int32), st47)) else ((gQ K r34.2 a25z 11 0).bind fun x37 => (if x37 = some (Zd 13) then ((c_Patcher_addElement Zd K r24.1 r34.1 a1 r34.2).bind fun r44 => if r44.1 = (0 : Int32) then (some ((0 : Int32), r44.2)) else (some ((1 : Int32), r44.2))) else (some ((0 : Int32), r34.2))).bind fun e38 => (bz e38.1).bind fun _ => some (e38.1, e38.2)))) else ((sF st o 4 1 (va_rf a1)).bind fun st49 => some ((1 : Int32), st49))
set_option maxHeartbeats 4000000 in
set_option maxRecDepth 100000 in
theorem cc_Patcher_add (l : Launch) (G : Gk) (Zd : Nat → Nat) (K : KE) (o : Nat) (a0 : Option Nat) (a1 : Option Nat) (st : CS) (r0 : Int32) (st0 : CS) (hm : c_Patcher_add Zd K o a0 a1 st = some (r0, st0)) : CT l y6_9 prog_6_method_9_code 6 (some .boolean) G Zd K (8) [.ref o, va_rf a0, va_rf a1] st (hI G Zd r0 st0) := by
  refine goH (d := 8) (y := y6_9) (cc := prog_6_method_9_code) (maxL := 6) (ret := (some .boolean)) (av := [.ref o, va_rf a0, va_rf a1]) (Qc := hI G Zd r0 st0) "PagedValues$Patcher" rfl (by decide) (c1_c rfl (c1_c (rf_cat _) (c1_c (rf_cat _) c1_n))) (Nat.le_of_ble_eq_true rfl) ?_
  intro p e s m below meth c ls A args Q hQ hx hb hr hlk hml hown hts hin hl hE hw
  have hl : lw ls 6 [(0, .ref o), (1, va_rf a0), (2, va_rf a1)] := hl
  have hZ := hE.2.2.1
  have h := hm
  clear hm
  refine xq_aload_n (r := a0) hx hb d6_9_0 rfl (lv_at hl.1 1 rfl) ?_
  obtain ⟨a11z, hn11, h⟩ := ob h
  have hn11 : a0 = some a11z := hn11
  refine W.eq (g2 := F0 m 1 ls [.ref a11z]) (by rw [hn11]; rfl) ?_
  obtain ⟨u9, ho, h⟩ := ob h
  obtain ⟨x12, hc, h⟩ := ob h
  refine hV_i (ci := 12) (As := []) (rest := []) ⟨hx, hb, hml, hown, hts⟩ (cc_String_isEmpty l G Zd K a11z st x12 hc) (kw_V (n := 0) hts k792 k798 k5 k790 k791 (by decide +kernel) ⟨Nat.le_of_ble_eq_true rfl, Nat.le_of_ble_eq_true rfl⟩) hE hw rfl rfl ho rfl hl.1.1 rfl (c1_8 c1_n (Nat.le_of_ble_eq_true rfl)) d6_9_1 (fun H locs cells slots hw => ?_)
  clear hc ho u9
  refine W.eq (g2 := F0 m 4 ls [.int x12]) rfl ?_
  refine lv_if_eq (tgt := 14) hx hb d6_9_4 rfl (fun c15 => ?_) (fun c15 => ?_)
  ·
    replace h := (if_pos c15).symm.trans h
    refine xq_aload_n (r := a0) hx hb d6_9_14 rfl (lv_at hl.1 1 rfl) ?_
    obtain ⟨x16, hc, h⟩ := ob h
    refine hS_i (As := [va_rf a0]) (rest := []) ⟨hx, hb, hml, hown, hts⟩ (cc_Pointer_lastSlash l G Zd K a0 st x16 hc) (kw_S (n := 1) hts k805 k803 k9 k804 (by decide +kernel) ⟨Nat.le_of_ble_eq_true rfl, Nat.le_of_ble_eq_true rfl⟩) hE hw rfl hl.1.1 rfl (c1_8 c1_n (Nat.le_of_ble_eq_true rfl)) d6_9_15 (fun H locs cells slots hw => ?_)
    clear hc
    refine W.eq (g2 := F0 m 18 ls [.int x16]) rfl ?_
    refine xt_istore_n (x := x16) (lv' := [(3, .int x16), (0, .ref o), (1, va_rf a0), (2, va_rf a1)]) hx hb d6_9_18 rfl hl (by decide) rfl (fun ls hl => ?_)
    refine lv_aload_n hx hb d6_9_19 rfl (lv_at hl.1 1 rfl) ?_
    obtain ⟨x19, hr, h⟩ := ob h
    refine xg_q (ci := 4) (C := r_4) (T := f_4) (N := 2) (ref := "PagedValues$Patcher") hx hb hts (fun w h => List.mem_cons_of_mem _ (ly_4 w h)) hown hE hw rfl 0 (by decide) (hts _ (List.mem_cons_of_mem _ k122)) (fun _ h9 => h9) hr d6_9_20 ?_
    clear hr
    refine lv_aload_n hx hb d6_9_23 rfl (lv_at hl.1 1 rfl) ?_
    obtain ⟨x20, hr, h⟩ := ob h
    refine xg_q (ci := 4) (C := r_4) (T := f_4) (N := 2) (ref := "PagedValues$Patcher") hx hb hts (fun w h => List.mem_cons_of_mem _ (ly_4 w h)) hown hE hw rfl 1 (by decide) (hts _ (List.mem_cons_of_mem _ k123)) (fun _ h9 => h9) hr d6_9_24 ?_
    clear hr
    refine xq_aload_n (r := a0) hx hb d6_9_27 rfl (lv_at hl.1 2 rfl) ?_
    refine lv_iload_n hx hb d6_9_28 rfl (lv_at hl.1 0 rfl) ?_
    obtain ⟨a21z, hn21, h⟩ := ob h
    have hn21 : x19 = some a21z := hn21
    refine W.eq (g2 := F0 m 29 ls [.int x16, va_rf a0, va_rf x20, .ref a21z]) (by rw [hn21]; rfl) ?_
    obtain ⟨u9, ho, h⟩ := ob h
    obtain ⟨⟨x22, st23⟩, hc, h⟩ := ob h
    refine hV_q (ci := 5) (As := [va_rf x20, va_rf a0, .int x16]) (rest := []) ⟨hx, hb, hml, hown, hts⟩ (cc_Pointer_lead l G Zd K a21z x20 a0 x16 st x22 st23 hc) (kw_V (n := 3) hts k809 k806 k9 k807 k808 (by decide +kernel) ⟨Nat.le_of_ble_eq_true rfl, Nat.le_of_ble_eq_true rfl⟩) hE hw rfl rfl ho rfl hl.1.1 rfl (c1_8 c1_n (Nat.le_of_ble_eq_true rfl)) d6_9_29 (fun H locs cells slots hw => ?_)
    clear hc ho u9
    refine W.eq (g2 := F0 m 32 ls [va_rf x22]) rfl ?_
    refine xt_astore (r := x22) (lv' := [(4, va_rf x22), (3, .int x16), (0, .ref o), (1, va_rf a0), (2, va_rf a1)]) hx hb d6_9_32 hl (by decide) rfl (fun ls hl => ?_)
    refine xq_aload (r := x22) hx hb d6_9_34 (lv_at hl.1 0 rfl) ?_
    rcases nl_case h with ⟨hn25, h⟩ | ⟨a25z, hn25, h⟩
    ·
      have hn25 : x22 = none := hn25
      refine W.eq (g2 := F0 m 36 ls [.null]) (by rw [hn25]; rfl) ?_
      refine lv_ifnonnullN hx hb d6_9_36 ?_
      refine lv_iconst (v := 0) hx hb d6_9_39 (by decide) ?_
      cases h
      exact finH_z hQ hx hb hr hlk (by decide) hE hw d6_9_40
    ·
      have hn25 : x22 = some a25z := hn25
      refine W.eq (g2 := F0 m 36 ls [.ref a25z]) (by rw [hn25]; rfl) ?_
      refine lv_ifnonnull (tgt := 41) hx hb d6_9_36 rfl ?_
      refine lv_aload_n hx hb d6_9_41 rfl (lv_at hl.1 2 rfl) ?_
      obtain ⟨x26, hr, h⟩ := ob h
      refine xg_q (ci := 4) (C := r_4) (T := f_4) (N := 2) (ref := "PagedValues$Patcher") hx hb hts (fun w h => List.mem_cons_of_mem _ (ly_4 w h)) hown hE hw rfl 0 (by decide) (hts _ (List.mem_cons_of_mem _ k122)) (fun _ h9 => h9) hr d6_9_42 ?_
      clear hr
      refine xq_aload_n (r := a0) hx hb d6_9_45 rfl (lv_at hl.1 3 rfl) ?_
      refine lv_iload_n hx hb d6_9_46 rfl (lv_at hl.1 1 rfl) ?_
      refine lv_iconst (v := 1) hx hb d6_9_47 (by decide) ?_
      refine lv_iadd hx hb d6_9_48 ?_
      obtain ⟨y27, hr, h⟩ := ob h
      refine lv_topi (fun y9 ey => ?_)
      have e9 := ey.trans (Option.some.inj hr)
      clear ey
      subst y9
      clear hr
      refine xq_aload_n (r := a0) hx hb d6_9_49 rfl (lv_at hl.1 3 rfl) ?_
      refine W.eq (g2 := F0 m 50 ls [.ref a11z, .int y27, va_rf a0, va_rf x26]) (by rw [hn11]; rfl) ?_
      obtain ⟨u9, ho, h⟩ := ob h
      obtain ⟨x28, hc, h⟩ := ob h
      refine hV_i (ci := 12) (As := []) (rest := [.int y27, va_rf a0, va_rf x26]) ⟨hx, hb, hml, hown, hts⟩ (cc_String_length l G Zd K a11z st23 x28 hc) (kw_V (n := 0) hts k628 k828 k5 k626 k627 (by decide +kernel) ⟨Nat.le_of_ble_eq_true rfl, Nat.le_of_ble_eq_true rfl⟩) hE hw rfl rfl ho rfl hl.1.1 rfl (c1_8 (c1_c rfl (c1_c (rf_cat _) (c1_c (rf_cat _) c1_n))) (Nat.le_of_ble_eq_true rfl)) d6_9_50 (fun H locs cells slots hw => ?_)
      clear hc ho u9
      refine W.eq (g2 := F0 m 53 ls [.int x28, .int y27, va_rf a0, va_rf x26]) rfl ?_
      obtain ⟨a31z, hn31, h⟩ := ob h
      have hn31 : x26 = some a31z := hn31
      refine W.eq (g2 := F0 m 53 ls [.int x28, .int y27, va_rf a0, .ref a31z]) (by rw [hn31]; rfl) ?_
      obtain ⟨u9, ho, h⟩ := ob h
      obtain ⟨⟨x32, st33⟩, hc, h⟩ := ob h
      refine hV_q (ci := 5) (As := [va_rf a0, .int y27, .int x28]) (rest := []) ⟨hx, hb, hml, hown, hts⟩ (cc_Pointer_token l G Zd K a31z a0 y27 x28 st23 x32 st33 hc) (kw_V (n := 3) hts k813 k849 k9 k811 k812 (by decide +kernel) ⟨Nat.le_of_ble_eq_true rfl, Nat.le_of_ble_eq_true rfl⟩) hE hw rfl rfl ho rfl hl.1.1 rfl (c1_8 c1_n (Nat.le_of_ble_eq_true rfl)) d6_9_53 (fun H locs cells slots hw => ?_)
      clear hc ho u9
      refine W.eq (g2 := F0 m 56 ls [va_rf x32]) rfl ?_
      refine xt_astore (r := x32) (lv' := [(5, va_rf x32), (4, va_rf x22), (3, .int x16), (0, .ref o), (1, va_rf a0), (2, va_rf a1)]) hx hb d6_9_56 hl (by decide) rfl (fun ls hl => ?_)
      refine xq_aload (r := x22) hx hb d6_9_58 (lv_at hl.1 1 rfl) ?_
      refine W.eq (g2 := F0 m 60 ls [.ref a25z]) (by rw [hn25]; rfl) ?_
      obtain ⟨x35, hr, h⟩ := ob h
      refine xgN_q (ci := 11) (C := r_11) (T := f_11) (N := 6) (ref := "PagedValues$Value") hx hb hts (fun w h => List.mem_cons_of_mem _ (ly_11 w h)) hown hE hw rfl 0 (by decide) (va_Nw.use rfl (hZ.1.1 _ kn350)) (fun _ h9 => h9) hr d6_9_60 ?_
      clear hr
      refine va_gets (ref := "PagedValues$Kind") hx hb (hZ.2.1.1.1 6 (by decide)).1 hw.2.2.2 hown (hts _ (List.mem_cons_of_mem _ k850)) (fun _ h9 => h9) d6_9_63 ?_
      refine W.eq (g2 := F0 m 66 ls [.ref (Zd 14), va_rf x35]) rfl ?_
      refine lv_acmp_ne (rx := x35) (ry := some (Zd 14)) (tgt := 79) hx hb d6_9_66 rfl (fun c36 => ?_) (fun c36 => ?_)
      ·
        replace h := (if_neg c36).symm.trans h
        refine xq_aload (r := x22) hx hb d6_9_79 (lv_at hl.1 1 rfl) ?_
        refine W.eq (g2 := F0 m 81 ls [.ref a25z]) (by rw [hn25]; rfl) ?_
        obtain ⟨x37, hr, h⟩ := ob h
        refine xgN_q (ci := 11) (C := r_11) (T := f_11) (N := 6) (ref := "PagedValues$Value") hx hb hts (fun w h => List.mem_cons_of_mem _ (ly_11 w h)) hown hE hw rfl 0 (by decide) (va_Nw.use rfl (hZ.1.1 _ kn350)) (fun _ h9 => h9) hr d6_9_81 ?_
        clear hr
        refine va_gets (ref := "PagedValues$Kind") hx hb (hZ.2.1.1.1 5 (by decide)).1 hw.2.2.2 hown (hts _ (List.mem_cons_of_mem _ k754)) (fun _ h9 => h9) d6_9_84 ?_
        refine W.eq (g2 := F0 m 87 ls [.ref (Zd 13), va_rf x37]) rfl ?_
        obtain ⟨e38, hX, h⟩ := ob h
        obtain ⟨v39, v40⟩ := e38
        have hj : ∀ (H : Heap) (locs : List Loc) (cells slots : Nat) (ls : Array Slot), lw ls 6 [(0, .ref o), (1, va_rf a0), (2, va_rf a1), (3, .int x16), (4, va_rf x22), (5, va_rf x32)] → wsH G Zd A s v40 H locs → W p l e (rmH Zd (8) st.1) s m args below meth c H locs cells slots Q (F0 m 106 ls [.int v39]) := by
          intro H locs cells slots ls hl hw
          obtain ⟨u9, hr9, h⟩ := ob h
          have hi := bz_some hr9
          clear hr9 u9
          cases h
          exact finH_z hQ hx hb hr hlk (nar01 hi) hE hw d6_9_106
        clear h
        refine lv_acmp_ne (rx := x37) (ry := some (Zd 13)) (tgt := 105) hx hb d6_9_87 rfl (fun c41 => ?_) (fun c41 => ?_)
        ·
          replace h := (if_neg c41).symm.trans hX
          refine lv_iconst (v := 0) hx hb d6_9_105 (by decide) ?_
          have e9_0 := Option.some.inj h
          obtain ⟨q9, e9_1⟩ := Prod.mk.inj e9_0
          clear e9_0
          subst v39
          subst v40
          have hl := lw_sub hl (l' := [(0, .ref o), (1, va_rf a0), (2, va_rf a1), (3, .int x16), (4, va_rf x22), (5, va_rf x32)]) [3, 4, 5, 2, 1, 0] rfl
          exact hj _ _ _ _ _ hl hw
        ·
          replace h := (if_pos c41).symm.trans hX
          refine xq_aload (r := x22) hx hb d6_9_90 (lv_at hl.1 1 rfl) ?_
          refine xq_aload (r := x32) hx hb d6_9_92 (lv_at hl.1 0 rfl) ?_
          refine xq_aload_n (r := a1) hx hb d6_9_94 rfl (lv_at hl.1 5 rfl) ?_
          obtain ⟨⟨x42, st43⟩, hc, h⟩ := ob h
          refine hS_i (As := [va_rf x22, va_rf x32, va_rf a1]) (rest := []) ⟨hx, hb, hml, hown, hts⟩ (cc_Patcher_addElement l G Zd K x22 x32 a1 st33 x42 st43 hc) (kw_S (n := 3) hts k857 k855 k8 k856 (by decide +kernel) ⟨Nat.le_of_ble_eq_true rfl, Nat.le_of_ble_eq_true rfl⟩) hE hw rfl hl.1.1 rfl (c1_8 c1_n (Nat.le_of_ble_eq_true rfl)) d6_9_95 (fun H locs cells slots hw => ?_)
          clear hc
          refine W.eq (g2 := F0 m 98 ls [.int x42]) rfl ?_
          refine lv_if_eq (tgt := 105) hx hb d6_9_98 rfl (fun c45 => ?_) (fun c45 => ?_)
          ·
            replace h := (if_pos c45).symm.trans h
            refine lv_iconst (v := 0) hx hb d6_9_105 (by decide) ?_
            have e9_0 := Option.some.inj h
            obtain ⟨q9, e9_1⟩ := Prod.mk.inj e9_0
            clear e9_0
            subst v39
            subst v40
            have hl := lw_sub hl (l' := [(0, .ref o), (1, va_rf a0), (2, va_rf a1), (3, .int x16), (4, va_rf x22), (5, va_rf x32)]) [3, 4, 5, 2, 1, 0] rfl
            exact hj _ _ _ _ _ hl hw
          ·
            replace h := (if_neg c45).symm.trans h
            refine lv_iconst (v := 1) hx hb d6_9_101 (by decide) ?_
            refine lv_goto (tgt := 106) hx hb d6_9_102 rfl ?_
            have e9_0 := Option.some.inj h
            obtain ⟨q9, e9_1⟩ := Prod.mk.inj e9_0
            clear e9_0
            subst v39
            subst v40
            have hl := lw_sub hl (l' := [(0, .ref o), (1, va_rf a0), (2, va_rf a1), (3, .int x16), (4, va_rf x22), (5, va_rf x32)]) [3, 4, 5, 2, 1, 0] rfl
            exact hj _ _ _ _ _ hl hw
      ·
        replace h := (if_pos c36).symm.trans h
        refine xq_aload (r := x22) hx hb d6_9_69 (lv_at hl.1 1 rfl) ?_
        refine xq_aload (r := x32) hx hb d6_9_71 (lv_at hl.1 0 rfl) ?_
        refine xq_aload_n (r := a1) hx hb d6_9_73 rfl (lv_at hl.1 5 rfl) ?_
        obtain ⟨st47, hc, h⟩ := ob h
        refine hS_v (As := [va_rf x22, va_rf x32, va_rf a1]) (rest := []) ⟨hx, hb, hml, hown, hts⟩ (cc_Patcher_addMember l G Zd K x22 x32 a1 st33 st47 hc) (kw_S (n := 3) hts k853 k851 k8 k852 (by decide +kernel) ⟨Nat.le_of_ble_eq_true rfl, Nat.le_of_ble_eq_true rfl⟩) hE hw rfl hl.1.1 rfl (c1_8 c1_n (Nat.le_of_ble_eq_true rfl)) d6_9_74 (fun H locs cells slots hw => ?_)
        clear hc
        refine W.eq (g2 := F0 m 77 ls []) rfl ?_
        refine lv_iconst (v := 1) hx hb d6_9_77 (by decide) ?_
        cases h
        exact finH_z hQ hx hb hr hlk (by decide) hE hw d6_9_78
  ·
    replace h := (if_neg c15).symm.trans h
    refine lv_aload_n hx hb d6_9_7 rfl (lv_at hl.1 0 rfl) ?_
    refine xq_aload_n (r := a1) hx hb d6_9_8 rfl (lv_at hl.1 2 rfl) ?_
    obtain ⟨st49, hr, h⟩ := ob h
    refine xp (ci := 4) (ty := (ft_4 1)) (C := r_4) (T := f_4) (N := 2) (ref := "PagedValues$Patcher") hx hb hts (fun w h => List.mem_cons_of_mem _ (ly_4 w h)) ft_4 ft_4_ok nm_4 hown hE hw rfl 1 (by decide) (hts _ (List.mem_cons_of_mem _ k123)) (fun _ h9 => h9) rfl hr (by decide +kernel) (rf_narO _) (rf_fitO _) d6_9_9 (fun H locs hw => ?_)
    clear hr
    refine lv_iconst (v := 1) hx hb d6_9_12 (by decide) ?_
    cases h
    exact finH_z hQ hx hb hr hlk (by decide) hE hw d6_9_13
def c_Patcher_exchange (Zd : Nat → Nat) (K : KE) (o : Nat) (a0 : Option Nat) (a1 : Option Nat) (st : CS) : Option (Int32 × CS) := a0.bind fun a11z => (isO K st a11z 12).bind fun _ => (c_String_isEmpty Zd K a11z st).bind fun x12 => if x12 = (0 : Int32) then ((gQ K st o 4 0).bind fun x16 => (gQ K st o 4 1).bind fun x17 => (c_Pointer_lastSlash Zd K a0 st).bind fun x18 => x16.bind fun a21z => (isO K st a21z 5).bind fun _ => (c_Pointer_lead Zd K a21z x17 a0 x18 st).bind fun r24 => (gQ K r24.2 o 4 0).bind fun x25 => (gQ K r24.2 o 4 1).bind fun x26 => (isO K r24.2 a11z 12).bind fun _ => (c_String_length Zd K a11z r24.2).bind fun x27 => x25.bind fun a30z => (isO K r24.2 a30z 5).bind fun _ => (c_Pointer_lead Zd K a30z x26 a0 x27 r24.2).bind fun r33 => nl r24.1 (some ((0 : Int32), r33.2)) (fun a34z => nl r33.1 (some ((0 : Int32), r33.2)) (fun a35z => (nl a1 ((isO K r33.2 a34z 11).bind fun _ => (c_Value_drop Zd K a34z r33.1 r33.2).bind fun st40 => some st40) (fun a38z => (isO K r33.2 a34z 11).bind fun _ => (c_Value_swap Zd K a34z r33.1 a1 r33.2).bind fun st43 => some st43)).bind fun e36 => some ((1 : Int32), e36)))) else ((sF st o 4 1 (va_rf a1)).bind fun st45 => some ((1 : Int32), st45))
set_option maxHeartbeats 4000000 in
set_option maxRecDepth 100000 in
theorem cc_Patcher_exchange (l : Launch) (G : Gk) (Zd : Nat → Nat) (K : KE) (o : Nat) (a0 : Option Nat) (a1 : Option Nat) (st : CS) (r0 : Int32) (st0 : CS) (hm : c_Patcher_exchange Zd K o a0 a1 st = some (r0, st0)) : CT l y6_12 prog_6_method_12_code 5 (some .boolean) G Zd K (8) [.ref o, va_rf a0, va_rf a1] st (hI G Zd r0 st0) := by
  refine goH (d := 8) (y := y6_12) (cc := prog_6_method_12_code) (maxL := 5) (ret := (some .boolean)) (av := [.ref o, va_rf a0, va_rf a1]) (Qc := hI G Zd r0 st0) "PagedValues$Patcher" rfl (by decide) (c1_c rfl (c1_c (rf_cat _) (c1_c (rf_cat _) c1_n))) (Nat.le_of_ble_eq_true rfl) ?_
  intro p e s m below meth c ls A args Q hQ hx hb hr hlk hml hown hts hin hl hE hw
  have hl : lw ls 5 [(0, .ref o), (1, va_rf a0), (2, va_rf a1)] := hl
  have hZ := hE.2.2.1
  have h := hm
  clear hm
  refine xq_aload_n (r := a0) hx hb d6_12_0 rfl (lv_at hl.1 1 rfl) ?_
  obtain ⟨a11z, hn11, h⟩ := ob h
  have hn11 : a0 = some a11z := hn11
  refine W.eq (g2 := F0 m 1 ls [.ref a11z]) (by rw [hn11]; rfl) ?_
  obtain ⟨u9, ho, h⟩ := ob h
  obtain ⟨x12, hc, h⟩ := ob h
  refine hV_i (ci := 12) (As := []) (rest := []) ⟨hx, hb, hml, hown, hts⟩ (cc_String_isEmpty l G Zd K a11z st x12 hc) (kw_V (n := 0) hts k792 k798 k5 k790 k791 (by decide +kernel) ⟨Nat.le_of_ble_eq_true rfl, Nat.le_of_ble_eq_true rfl⟩) hE hw rfl rfl ho rfl hl.1.1 rfl (c1_8 c1_n (Nat.le_of_ble_eq_true rfl)) d6_12_1 (fun H locs cells slots hw => ?_)
  clear hc ho u9
  refine W.eq (g2 := F0 m 4 ls [.int x12]) rfl ?_
  refine lv_if_eq (tgt := 14) hx hb d6_12_4 rfl (fun c15 => ?_) (fun c15 => ?_)
  ·
    replace h := (if_pos c15).symm.trans h
    refine lv_aload_n hx hb d6_12_14 rfl (lv_at hl.1 0 rfl) ?_
    obtain ⟨x16, hr, h⟩ := ob h
    refine xg_q (ci := 4) (C := r_4) (T := f_4) (N := 2) (ref := "PagedValues$Patcher") hx hb hts (fun w h => List.mem_cons_of_mem _ (ly_4 w h)) hown hE hw rfl 0 (by decide) (hts _ (List.mem_cons_of_mem _ k122)) (fun _ h9 => h9) hr d6_12_15 ?_
    clear hr
    refine lv_aload_n hx hb d6_12_18 rfl (lv_at hl.1 0 rfl) ?_
    obtain ⟨x17, hr, h⟩ := ob h
    refine xg_q (ci := 4) (C := r_4) (T := f_4) (N := 2) (ref := "PagedValues$Patcher") hx hb hts (fun w h => List.mem_cons_of_mem _ (ly_4 w h)) hown hE hw rfl 1 (by decide) (hts _ (List.mem_cons_of_mem _ k123)) (fun _ h9 => h9) hr d6_12_19 ?_
    clear hr
    refine xq_aload_n (r := a0) hx hb d6_12_22 rfl (lv_at hl.1 1 rfl) ?_
    refine xq_aload_n (r := a0) hx hb d6_12_23 rfl (lv_at hl.1 1 rfl) ?_
    obtain ⟨x18, hc, h⟩ := ob h
    refine hS_i (As := [va_rf a0]) (rest := [va_rf a0, va_rf x17, va_rf x16]) ⟨hx, hb, hml, hown, hts⟩ (cc_Pointer_lastSlash l G Zd K a0 st x18 hc) (kw_S (n := 1) hts k805 k803 k9 k804 (by decide +kernel) ⟨Nat.le_of_ble_eq_true rfl, Nat.le_of_ble_eq_true rfl⟩) hE hw rfl hl.1.1 rfl (c1_8 (c1_c (rf_cat _) (c1_c (rf_cat _) (c1_c (rf_cat _) c1_n))) (Nat.le_of_ble_eq_true rfl)) d6_12_24 (fun H locs cells slots hw => ?_)
    clear hc
    refine W.eq (g2 := F0 m 27 ls [.int x18, va_rf a0, va_rf x17, va_rf x16]) rfl ?_
    obtain ⟨a21z, hn21, h⟩ := ob h
    have hn21 : x16 = some a21z := hn21
    refine W.eq (g2 := F0 m 27 ls [.int x18, va_rf a0, va_rf x17, .ref a21z]) (by rw [hn21]; rfl) ?_
    obtain ⟨u9, ho, h⟩ := ob h
    obtain ⟨⟨x22, st23⟩, hc, h⟩ := ob h
    refine hV_q (ci := 5) (As := [va_rf x17, va_rf a0, .int x18]) (rest := []) ⟨hx, hb, hml, hown, hts⟩ (cc_Pointer_lead l G Zd K a21z x17 a0 x18 st x22 st23 hc) (kw_V (n := 3) hts k809 k806 k9 k807 k808 (by decide +kernel) ⟨Nat.le_of_ble_eq_true rfl, Nat.le_of_ble_eq_true rfl⟩) hE hw rfl rfl ho rfl hl.1.1 rfl (c1_8 c1_n (Nat.le_of_ble_eq_true rfl)) d6_12_27 (fun H locs cells slots hw => ?_)
    clear hc ho u9
    refine W.eq (g2 := F0 m 30 ls [va_rf x22]) rfl ?_
    refine xt_astore_n (r := x22) (lv' := [(3, va_rf x22), (0, .ref o), (1, va_rf a0), (2, va_rf a1)]) hx hb d6_12_30 rfl hl (by decide) rfl (fun ls hl => ?_)
    refine lv_aload_n hx hb d6_12_31 rfl (lv_at hl.1 1 rfl) ?_
    obtain ⟨x25, hr, h⟩ := ob h
    refine xg_q (ci := 4) (C := r_4) (T := f_4) (N := 2) (ref := "PagedValues$Patcher") hx hb hts (fun w h => List.mem_cons_of_mem _ (ly_4 w h)) hown hE hw rfl 0 (by decide) (hts _ (List.mem_cons_of_mem _ k122)) (fun _ h9 => h9) hr d6_12_32 ?_
    clear hr
    refine lv_aload_n hx hb d6_12_35 rfl (lv_at hl.1 1 rfl) ?_
    obtain ⟨x26, hr, h⟩ := ob h
    refine xg_q (ci := 4) (C := r_4) (T := f_4) (N := 2) (ref := "PagedValues$Patcher") hx hb hts (fun w h => List.mem_cons_of_mem _ (ly_4 w h)) hown hE hw rfl 1 (by decide) (hts _ (List.mem_cons_of_mem _ k123)) (fun _ h9 => h9) hr d6_12_36 ?_
    clear hr
    refine xq_aload_n (r := a0) hx hb d6_12_39 rfl (lv_at hl.1 2 rfl) ?_
    refine xq_aload_n (r := a0) hx hb d6_12_40 rfl (lv_at hl.1 2 rfl) ?_
    refine W.eq (g2 := F0 m 41 ls [.ref a11z, va_rf a0, va_rf x26, va_rf x25]) (by rw [hn11]; rfl) ?_
    obtain ⟨u9, ho, h⟩ := ob h
    obtain ⟨x27, hc, h⟩ := ob h
    refine hV_i (ci := 12) (As := []) (rest := [va_rf a0, va_rf x26, va_rf x25]) ⟨hx, hb, hml, hown, hts⟩ (cc_String_length l G Zd K a11z st23 x27 hc) (kw_V (n := 0) hts k628 k828 k5 k626 k627 (by decide +kernel) ⟨Nat.le_of_ble_eq_true rfl, Nat.le_of_ble_eq_true rfl⟩) hE hw rfl rfl ho rfl hl.1.1 rfl (c1_8 (c1_c (rf_cat _) (c1_c (rf_cat _) (c1_c (rf_cat _) c1_n))) (Nat.le_of_ble_eq_true rfl)) d6_12_41 (fun H locs cells slots hw => ?_)
    clear hc ho u9
    refine W.eq (g2 := F0 m 44 ls [.int x27, va_rf a0, va_rf x26, va_rf x25]) rfl ?_
    obtain ⟨a30z, hn30, h⟩ := ob h
    have hn30 : x25 = some a30z := hn30
    refine W.eq (g2 := F0 m 44 ls [.int x27, va_rf a0, va_rf x26, .ref a30z]) (by rw [hn30]; rfl) ?_
    obtain ⟨u9, ho, h⟩ := ob h
    obtain ⟨⟨x31, st32⟩, hc, h⟩ := ob h
    refine hV_q (ci := 5) (As := [va_rf x26, va_rf a0, .int x27]) (rest := []) ⟨hx, hb, hml, hown, hts⟩ (cc_Pointer_lead l G Zd K a30z x26 a0 x27 st23 x31 st32 hc) (kw_V (n := 3) hts k809 k806 k9 k807 k808 (by decide +kernel) ⟨Nat.le_of_ble_eq_true rfl, Nat.le_of_ble_eq_true rfl⟩) hE hw rfl rfl ho rfl hl.1.1 rfl (c1_8 c1_n (Nat.le_of_ble_eq_true rfl)) d6_12_44 (fun H locs cells slots hw => ?_)
    clear hc ho u9
    refine W.eq (g2 := F0 m 47 ls [va_rf x31]) rfl ?_
    refine xt_astore (r := x31) (lv' := [(4, va_rf x31), (3, va_rf x22), (0, .ref o), (1, va_rf a0), (2, va_rf a1)]) hx hb d6_12_47 hl (by decide) rfl (fun ls hl => ?_)
    refine xq_aload_n (r := x22) hx hb d6_12_49 rfl (lv_at hl.1 1 rfl) ?_
    rcases nl_case h with ⟨hn34, h⟩ | ⟨a34z, hn34, h⟩
    ·
      have hn34 : x22 = none := hn34
      refine W.eq (g2 := F0 m 50 ls [.null]) (by rw [hn34]; rfl) ?_
      refine lv_ifnullN (tgt := 58) hx hb d6_12_50 rfl ?_
      refine lv_iconst (v := 0) hx hb d6_12_58 (by decide) ?_
      cases h
      exact finH_z hQ hx hb hr hlk (by decide) hE hw d6_12_59
    ·
      have hn34 : x22 = some a34z := hn34
      refine W.eq (g2 := F0 m 50 ls [.ref a34z]) (by rw [hn34]; rfl) ?_
      refine lv_ifnull hx hb d6_12_50 ?_
      refine xq_aload (r := x31) hx hb d6_12_53 (lv_at hl.1 0 rfl) ?_
      rcases nl_case h with ⟨hn35, h⟩ | ⟨a35z, hn35, h⟩
      ·
        have hn35 : x31 = none := hn35
        refine W.eq (g2 := F0 m 55 ls [.null]) (by rw [hn35]; rfl) ?_
        refine lv_ifnonnullN hx hb d6_12_55 ?_
        refine lv_iconst (v := 0) hx hb d6_12_58 (by decide) ?_
        cases h
        exact finH_z hQ hx hb hr hlk (by decide) hE hw d6_12_59
      ·
        have hn35 : x31 = some a35z := hn35
        refine W.eq (g2 := F0 m 55 ls [.ref a35z]) (by rw [hn35]; rfl) ?_
        refine lv_ifnonnull (tgt := 60) hx hb d6_12_55 rfl ?_
        refine xq_aload_n (r := a1) hx hb d6_12_60 rfl (lv_at hl.1 4 rfl) ?_
        obtain ⟨e36, hX, h⟩ := ob h
        have hj : ∀ (H : Heap) (locs : List Loc) (cells slots : Nat) (ls : Array Slot), lw ls 5 [(0, .ref o), (1, va_rf a0), (2, va_rf a1), (3, va_rf x22), (4, va_rf x31)] → wsH G Zd A s e36 H locs → W p l e (rmH Zd (8) st.1) s m args below meth c H locs cells slots Q (F0 m 80 ls []) := by
          intro H locs cells slots ls hl hw
          refine lv_iconst (v := 1) hx hb d6_12_80 (by decide) ?_
          cases h
          exact finH_z hQ hx hb hr hlk (by decide) hE hw d6_12_81
        clear h
        rcases nl_case hX with ⟨hn38, h⟩ | ⟨a38z, hn38, h⟩
        ·
          have hn38 : a1 = none := hn38
          refine W.eq (g2 := F0 m 61 ls [.null]) (by rw [hn38]; rfl) ?_
          refine lv_ifnonnullN hx hb d6_12_61 ?_
          refine xq_aload_n (r := x22) hx hb d6_12_64 rfl (lv_at hl.1 1 rfl) ?_
          refine xq_aload (r := x31) hx hb d6_12_65 (lv_at hl.1 0 rfl) ?_
          refine W.eq (g2 := F0 m 67 ls [va_rf x31, .ref a34z]) (by rw [hn34]; rfl) ?_
          obtain ⟨u9, ho, h⟩ := ob h
          obtain ⟨st40, hc, h⟩ := ob h
          refine hV_v (ci := 11) (As := [va_rf x31]) (rest := []) ⟨hx, hb, hml, hown, hts⟩ (cc_Value_drop l G Zd K a34z x31 st32 st40 hc) (kw_V (n := 1) hts k832 k829 k18 k830 k831 (by decide +kernel) ⟨Nat.le_of_ble_eq_true rfl, Nat.le_of_ble_eq_true rfl⟩) hE hw rfl rfl ho rfl hl.1.1 rfl (c1_8 c1_n (Nat.le_of_ble_eq_true rfl)) d6_12_67 (fun H locs cells slots hw => ?_)
          clear hc ho u9
          refine W.eq (g2 := F0 m 70 ls []) rfl ?_
          refine lv_goto (tgt := 80) hx hb d6_12_70 rfl ?_
          have e9 := Option.some.inj h
          subst e36
          have hl := lw_sub hl (l' := [(0, .ref o), (1, va_rf a0), (2, va_rf a1), (3, va_rf x22), (4, va_rf x31)]) [2, 3, 4, 1, 0] rfl
          exact hj _ _ _ _ _ hl hw
        ·
          have hn38 : a1 = some a38z := hn38
          refine W.eq (g2 := F0 m 61 ls [.ref a38z]) (by rw [hn38]; rfl) ?_
          refine lv_ifnonnull (tgt := 73) hx hb d6_12_61 rfl ?_
          refine xq_aload_n (r := x22) hx hb d6_12_73 rfl (lv_at hl.1 1 rfl) ?_
          refine xq_aload (r := x31) hx hb d6_12_74 (lv_at hl.1 0 rfl) ?_
          refine xq_aload_n (r := a1) hx hb d6_12_76 rfl (lv_at hl.1 4 rfl) ?_
          refine W.eq (g2 := F0 m 77 ls [va_rf a1, va_rf x31, .ref a34z]) (by rw [hn34]; rfl) ?_
          obtain ⟨u9, ho, h⟩ := ob h
          obtain ⟨st43, hc, h⟩ := ob h
          refine hV_v (ci := 11) (As := [va_rf x31, va_rf a1]) (rest := []) ⟨hx, hb, hml, hown, hts⟩ (cc_Value_swap l G Zd K a34z x31 a1 st32 st43 hc) (kw_V (n := 2) hts k840 k837 k18 k838 k839 (by decide +kernel) ⟨Nat.le_of_ble_eq_true rfl, Nat.le_of_ble_eq_true rfl⟩) hE hw rfl rfl ho rfl hl.1.1 rfl (c1_8 c1_n (Nat.le_of_ble_eq_true rfl)) d6_12_77 (fun H locs cells slots hw => ?_)
          clear hc ho u9
          refine W.eq (g2 := F0 m 80 ls []) rfl ?_
          have e9 := Option.some.inj h
          subst e36
          have hl := lw_sub hl (l' := [(0, .ref o), (1, va_rf a0), (2, va_rf a1), (3, va_rf x22), (4, va_rf x31)]) [2, 3, 4, 1, 0] rfl
          exact hj _ _ _ _ _ hl hw
  ·
    replace h := (if_neg c15).symm.trans h
    refine lv_aload_n hx hb d6_12_7 rfl (lv_at hl.1 0 rfl) ?_
    refine xq_aload_n (r := a1) hx hb d6_12_8 rfl (lv_at hl.1 2 rfl) ?_
    obtain ⟨st45, hr, h⟩ := ob h
    refine xp (ci := 4) (ty := (ft_4 1)) (C := r_4) (T := f_4) (N := 2) (ref := "PagedValues$Patcher") hx hb hts (fun w h => List.mem_cons_of_mem _ (ly_4 w h)) ft_4 ft_4_ok nm_4 hown hE hw rfl 1 (by decide) (hts _ (List.mem_cons_of_mem _ k123)) (fun _ h9 => h9) rfl hr (by decide +kernel) (rf_narO _) (rf_fitO _) d6_12_9 (fun H locs hw => ?_)
    clear hr
    refine lv_iconst (v := 1) hx hb d6_12_12 (by decide) ?_
    cases h
    exact finH_z hQ hx hb hr hlk (by decide) hE hw d6_12_13
def c_Patcher_perform (Zd : Nat → Nat) (K : KE) (o : Nat) (a0 : Option Nat) (st : CS) : Option (Int32 × CS) := (c_Patcher_stringOf Zd K a0 (some (Zd 23)) st).bind fun x11 => (c_Patcher_stringOf Zd K a0 (some (Zd 24)) st).bind fun x14 => (c_Pointer_isPointer Zd K x14 st).bind fun x17 => if x17 = (0 : Int32) then (some ((0 : Int32), st)) else (x11.bind fun a21z => (isO K st a21z 12).bind fun _ => (c_String_equals Zd K a21z (some (Zd 30)) st).bind fun x22 => if x22 = (0 : Int32) then ((isO K st a21z 12).bind fun _ => (c_String_equals Zd K a21z (some (Zd 28)) st).bind fun x26 => (if x26 = (0 : Int32) then (a0.bind fun a50z => (isO K st a50z 11).bind fun _ => (c_Value_member Zd K a50z (some (Zd 27)) st).bind fun x51 => some (x51, st)) else ((c_Patcher_stringOf Zd K a0 (some (Zd 29)) st).bind fun x54 => (isO K st o 4).bind fun _ => (c_Patcher_copySource Zd K o x54 st).bind fun r59 => some (r59.1, r59.2))).bind fun e29 => nl e29.1 (some ((0 : Int32), e29.2)) (fun a32z => (c_Value_copyOf Zd K 10 e29.1 (0 : Int32) e29.2).bind fun r35 => (isO K r35.2 a21z 12).bind fun _ => (c_String_equals Zd K a21z (some (Zd 26)) r35.2).bind fun x36 => (if x36 = (0 : Int32) then ((isO K r35.2 o 4).bind fun _ => (c_Patcher_add Zd K o x14 r35.1 r35.2).bind fun r45 => some (r45.1, r45.2)) else ((isO K r35.2 o 4).bind fun _ => (c_Patcher_exchange Zd K o x14 r35.1 r35.2).bind fun r48 => some (r48.1, r48.2))).bind fun e39 => (bz e39.1).bind fun _ => some (e39.1, e39.2))) else (x14.bind fun a60z => (isO K st a60z 12).bind fun _ => (c_String_isEmpty Zd K a60z st).bind fun x61 => (if x61 = (0 : Int32) then ((isO K st o 4).bind fun _ => (c_Patcher_exchange Zd K o x14 none st).bind fun r70 => if r70.1 = (0 : Int32) then (some ((0 : Int32), r70.2)) else (some ((1 : Int32), r70.2))) else (some ((0 : Int32), st))).bind fun e64 => (bz e64.1).bind fun _ => some (e64.1, e64.2)))
set_option maxHeartbeats 4000000 in
set_option maxRecDepth 100000 in
theorem cc_Patcher_perform (l : Launch) (G : Gk) (Zd : Nat → Nat) (K : KE) (o : Nat) (a0 : Option Nat) (st : CS) (r0 : Int32) (st0 : CS) (hm : c_Patcher_perform Zd K o a0 st = some (r0, st0)) : CT l y6_7 prog_6_method_7_code 6 (some .boolean) G Zd K (21) [.ref o, va_rf a0] st (hI G Zd r0 st0) := by
  refine goH (d := 21) (y := y6_7) (cc := prog_6_method_7_code) (maxL := 6) (ret := (some .boolean)) (av := [.ref o, va_rf a0]) (Qc := hI G Zd r0 st0) "PagedValues$Patcher" rfl (by decide) (c1_c rfl (c1_c (rf_cat _) c1_n)) (Nat.le_of_ble_eq_true rfl) ?_
  intro p e s m below meth c ls A args Q hQ hx hb hr hlk hml hown hts hin hl hE hw
  have hl : lw ls 6 [(0, .ref o), (1, va_rf a0)] := hl
  have hZ := hE.2.2.1
  have h := hm
  clear hm
  refine xq_aload_n (r := a0) hx hb d6_7_0 rfl (lv_at hl.1 1 rfl) ?_
  refine va_ldcS hx hb hown (hZ.2.2.1 ("PagedValues$Patcher", 60, "op", 23) (List.mem_of_getElem? (i := 11) rfl)) d6_7_1 ?_
  refine W.eq (g2 := F0 m 3 ls [.ref (Zd 23), va_rf a0]) rfl ?_
  obtain ⟨x11, hc, h⟩ := ob h
  refine hS_q (As := [va_rf a0, .ref (Zd 23)]) (rest := []) ⟨hx, hb, hml, hown, hts⟩ (cc_Patcher_stringOf l G Zd K a0 (some (Zd 23)) st x11 hc) (kw_S (n := 2) hts k767 k765 k8 k766 (by decide +kernel) ⟨Nat.le_of_ble_eq_true rfl, Nat.le_of_ble_eq_true rfl⟩) hE hw rfl hl.1.1 rfl (c1_8 c1_n (Nat.le_of_ble_eq_true rfl)) d6_7_3 (fun H locs cells slots hw => ?_)
  clear hc
  refine W.eq (g2 := F0 m 6 ls [va_rf x11]) rfl ?_
  refine xt_astore_n (r := x11) (lv' := [(2, va_rf x11), (0, .ref o), (1, va_rf a0)]) hx hb d6_7_6 rfl hl (by decide) rfl (fun ls hl => ?_)
  refine xq_aload_n (r := a0) hx hb d6_7_7 rfl (lv_at hl.1 2 rfl) ?_
  refine va_ldcS hx hb hown (hZ.2.2.1 ("PagedValues$Patcher", 66, "path", 24) (List.mem_of_getElem? (i := 12) rfl)) d6_7_8 ?_
  refine W.eq (g2 := F0 m 10 ls [.ref (Zd 24), va_rf a0]) rfl ?_
  obtain ⟨x14, hc, h⟩ := ob h
  refine hS_q (As := [va_rf a0, .ref (Zd 24)]) (rest := []) ⟨hx, hb, hml, hown, hts⟩ (cc_Patcher_stringOf l G Zd K a0 (some (Zd 24)) st x14 hc) (kw_S (n := 2) hts k767 k765 k8 k766 (by decide +kernel) ⟨Nat.le_of_ble_eq_true rfl, Nat.le_of_ble_eq_true rfl⟩) hE hw rfl hl.1.1 rfl (c1_8 c1_n (Nat.le_of_ble_eq_true rfl)) d6_7_10 (fun H locs cells slots hw => ?_)
  clear hc
  refine W.eq (g2 := F0 m 13 ls [va_rf x14]) rfl ?_
  refine xt_astore_n (r := x14) (lv' := [(3, va_rf x14), (2, va_rf x11), (0, .ref o), (1, va_rf a0)]) hx hb d6_7_13 rfl hl (by decide) rfl (fun ls hl => ?_)
  refine xq_aload_n (r := x14) hx hb d6_7_14 rfl (lv_at hl.1 0 rfl) ?_
  obtain ⟨x17, hc, h⟩ := ob h
  refine hS_i (As := [va_rf x14]) (rest := []) ⟨hx, hb, hml, hown, hts⟩ (cc_Pointer_isPointer l G Zd K x14 st x17 hc) (kw_S (n := 1) hts k788 k786 k9 k787 (by decide +kernel) ⟨Nat.le_of_ble_eq_true rfl, Nat.le_of_ble_eq_true rfl⟩) hE hw rfl hl.1.1 rfl (c1_8 c1_n (Nat.le_of_ble_eq_true rfl)) d6_7_15 (fun H locs cells slots hw => ?_)
  clear hc
  refine W.eq (g2 := F0 m 18 ls [.int x17]) rfl ?_
  refine lv_if_ne (tgt := 23) hx hb d6_7_18 rfl (fun c20 => ?_) (fun c20 => ?_)
  ·
    replace h := (if_neg c20).symm.trans h
    refine xq_aload_n (r := x11) hx hb d6_7_23 rfl (lv_at hl.1 1 rfl) ?_
    refine va_ldcS hx hb hown (hZ.2.2.1 ("PagedValues$Patcher", 92, "remove", 30) (List.mem_of_getElem? (i := 18) rfl)) d6_7_24 ?_
    refine W.eq (g2 := F0 m 26 ls [.ref (Zd 30), va_rf x11]) rfl ?_
    obtain ⟨a21z, hn21, h⟩ := ob h
    have hn21 : x11 = some a21z := hn21
    refine W.eq (g2 := F0 m 26 ls [.ref (Zd 30), .ref a21z]) (by rw [hn21]; rfl) ?_
    obtain ⟨u9, ho, h⟩ := ob h
    obtain ⟨x22, hc, h⟩ := ob h
    refine hV_i (ci := 12) (As := [.ref (Zd 30)]) (rest := []) ⟨hx, hb, hml, hown, hts⟩ (cc_String_equals l G Zd K a21z (some (Zd 30)) st x22 hc) (kw_V (n := 1) hts k590 k770 k5 k588 k589 (by decide +kernel) ⟨Nat.le_of_ble_eq_true rfl, Nat.le_of_ble_eq_true rfl⟩) hE hw rfl rfl ho rfl hl.1.1 rfl (c1_8 c1_n (Nat.le_of_ble_eq_true rfl)) d6_7_26 (fun H locs cells slots hw => ?_)
    clear hc ho u9
    refine W.eq (g2 := F0 m 29 ls [.int x22]) rfl ?_
    refine lv_if_eq (tgt := 54) hx hb d6_7_29 rfl (fun c25 => ?_) (fun c25 => ?_)
    ·
      replace h := (if_pos c25).symm.trans h
      refine xq_aload_n (r := x11) hx hb d6_7_54 rfl (lv_at hl.1 1 rfl) ?_
      refine va_ldcS hx hb hown (hZ.2.2.1 ("PagedValues$Patcher", 88, "copy", 28) (List.mem_of_getElem? (i := 16) rfl)) d6_7_55 ?_
      refine W.eq (g2 := F0 m 57 ls [.ref (Zd 28), va_rf x11]) rfl ?_
      refine W.eq (g2 := F0 m 57 ls [.ref (Zd 28), .ref a21z]) (by rw [hn21]; rfl) ?_
      obtain ⟨u9, ho, h⟩ := ob h
      obtain ⟨x26, hc, h⟩ := ob h
      refine hV_i (ci := 12) (As := [.ref (Zd 28)]) (rest := []) ⟨hx, hb, hml, hown, hts⟩ (cc_String_equals l G Zd K a21z (some (Zd 28)) st x26 hc) (kw_V (n := 1) hts k590 k770 k5 k588 k589 (by decide +kernel) ⟨Nat.le_of_ble_eq_true rfl, Nat.le_of_ble_eq_true rfl⟩) hE hw rfl rfl ho rfl hl.1.1 rfl (c1_8 c1_n (Nat.le_of_ble_eq_true rfl)) d6_7_57 (fun H locs cells slots hw => ?_)
      clear hc ho u9
      refine W.eq (g2 := F0 m 60 ls [.int x26]) rfl ?_
      obtain ⟨e29, hX, h⟩ := ob h
      obtain ⟨v30, v31⟩ := e29
      have hj : ∀ (H : Heap) (locs : List Loc) (cells slots : Nat) (ls : Array Slot), lw ls 6 [(0, .ref o), (1, va_rf a0), (2, va_rf x11), (3, va_rf x14)] → wsH G Zd A s v31 H locs → W p l e (rmH Zd (21) st.1) s m args below meth c H locs cells slots Q (F0 m 82 ls [va_rf v30]) := by
        intro H locs cells slots ls hl hw
        refine xt_astore (r := v30) (lv' := [(4, va_rf v30), (0, .ref o), (1, va_rf a0), (2, va_rf x11), (3, va_rf x14)]) hx hb d6_7_82 hl (by decide) rfl (fun ls hl => ?_)
        refine xq_aload (r := v30) hx hb d6_7_84 (lv_at hl.1 0 rfl) ?_
        rcases nl_case h with ⟨hn32, h⟩ | ⟨a32z, hn32, h⟩
        ·
          have hn32 : v30 = none := hn32
          refine W.eq (g2 := F0 m 86 ls [.null]) (by rw [hn32]; rfl) ?_
          refine lv_ifnonnullN hx hb d6_7_86 ?_
          refine lv_iconst (v := 0) hx hb d6_7_89 (by decide) ?_
          cases h
          exact finH_z hQ hx hb hr hlk (by decide) hE hw d6_7_90
        ·
          have hn32 : v30 = some a32z := hn32
          refine W.eq (g2 := F0 m 86 ls [.ref a32z]) (by rw [hn32]; rfl) ?_
          refine lv_ifnonnull (tgt := 91) hx hb d6_7_86 rfl ?_
          refine xq_aload (r := v30) hx hb d6_7_91 (lv_at hl.1 0 rfl) ?_
          refine lv_iconst (v := 0) hx hb d6_7_93 (by decide) ?_
          obtain ⟨⟨x33, st34⟩, hc, h⟩ := ob h
          refine hSN_q (As := [va_rf v30, .int 0]) (rest := []) ⟨hx, hb, hml, hown, hts⟩ (cc_Value_copyOf l G Zd K 10 v30 (0 : Int32) v31 x33 st34 hc) (kw_SN (n := 2) hts hZ.1.1 k778 kn776 k18 k777 (by decide +kernel) ⟨Nat.le_of_ble_eq_true rfl, Nat.le_of_ble_eq_true rfl⟩) hE hw rfl hl.1.1 rfl (c1_8 c1_n (Nat.le_of_ble_eq_true rfl)) d6_7_94 (fun H locs cells slots hw => ?_)
          clear hc
          refine W.eq (g2 := F0 m 97 ls [va_rf x33]) rfl ?_
          refine xt_astore (r := x33) (lv' := [(5, va_rf x33), (4, va_rf v30), (0, .ref o), (1, va_rf a0), (2, va_rf x11), (3, va_rf x14)]) hx hb d6_7_97 hl (by decide) rfl (fun ls hl => ?_)
          refine xq_aload_n (r := x11) hx hb d6_7_99 rfl (lv_at hl.1 4 rfl) ?_
          refine va_ldcS hx hb hown (hZ.2.2.1 ("PagedValues$Patcher", 80, "replace", 26) (List.mem_of_getElem? (i := 14) rfl)) d6_7_100 ?_
          refine W.eq (g2 := F0 m 102 ls [.ref (Zd 26), va_rf x11]) rfl ?_
          refine W.eq (g2 := F0 m 102 ls [.ref (Zd 26), .ref a21z]) (by rw [hn21]; rfl) ?_
          obtain ⟨u9, ho, h⟩ := ob h
          obtain ⟨x36, hc, h⟩ := ob h
          refine hV_i (ci := 12) (As := [.ref (Zd 26)]) (rest := []) ⟨hx, hb, hml, hown, hts⟩ (cc_String_equals l G Zd K a21z (some (Zd 26)) st34 x36 hc) (kw_V (n := 1) hts k590 k770 k5 k588 k589 (by decide +kernel) ⟨Nat.le_of_ble_eq_true rfl, Nat.le_of_ble_eq_true rfl⟩) hE hw rfl rfl ho rfl hl.1.1 rfl (c1_8 c1_n (Nat.le_of_ble_eq_true rfl)) d6_7_102 (fun H locs cells slots hw => ?_)
          clear hc ho u9
          refine W.eq (g2 := F0 m 105 ls [.int x36]) rfl ?_
          obtain ⟨e39, hX, h⟩ := ob h
          obtain ⟨v40, v41⟩ := e39
          have hj : ∀ (H : Heap) (locs : List Loc) (cells slots : Nat) (ls : Array Slot), lw ls 6 [(0, .ref o), (1, va_rf a0), (2, va_rf x11), (3, va_rf x14), (4, va_rf v30), (5, va_rf x33)] → wsH G Zd A s v41 H locs → W p l e (rmH Zd (21) st.1) s m args below meth c H locs cells slots Q (F0 m 125 ls [.int v40]) := by
            intro H locs cells slots ls hl hw
            obtain ⟨u9, hr9, h⟩ := ob h
            have hi := bz_some hr9
            clear hr9 u9
            cases h
            exact finH_z hQ hx hb hr hlk (nar01 hi) hE hw d6_7_125
          clear h
          refine lv_if_eq (tgt := 118) hx hb d6_7_105 rfl (fun c42 => ?_) (fun c42 => ?_)
          ·
            replace h := (if_pos c42).symm.trans hX
            refine lv_aload_n hx hb d6_7_118 rfl (lv_at hl.1 2 rfl) ?_
            refine xq_aload_n (r := x14) hx hb d6_7_119 rfl (lv_at hl.1 5 rfl) ?_
            refine xq_aload (r := x33) hx hb d6_7_120 (lv_at hl.1 0 rfl) ?_
            obtain ⟨u9, ho, h⟩ := ob h
            obtain ⟨⟨x43, st44⟩, hc, h⟩ := ob h
            refine hV_i (ci := 4) (As := [va_rf x14, va_rf x33]) (rest := []) ⟨hx, hb, hml, hown, hts⟩ (cc_Patcher_add l G Zd K o x14 x33 st34 x43 st44 hc) (kw_V (n := 2) hts k848 k845 k8 k847 ks21 (by decide +kernel) ⟨Nat.le_of_ble_eq_true rfl, Nat.le_of_ble_eq_true rfl⟩) hE hw rfl rfl ho rfl hl.1.1 rfl (c1_8 c1_n (Nat.le_of_ble_eq_true rfl)) d6_7_122 (fun H locs cells slots hw => ?_)
            clear hc ho u9
            refine W.eq (g2 := F0 m 125 ls [.int x43]) rfl ?_
            have e9_0 := Option.some.inj h
            obtain ⟨q9, e9_1⟩ := Prod.mk.inj e9_0
            clear e9_0
            subst v40
            subst v41
            have hl := lw_sub hl (l' := [(0, .ref o), (1, va_rf a0), (2, va_rf x11), (3, va_rf x14), (4, va_rf v30), (5, va_rf x33)]) [2, 3, 4, 5, 1, 0] rfl
            exact hj _ _ _ _ _ hl hw
          ·
            replace h := (if_neg c42).symm.trans hX
            refine lv_aload_n hx hb d6_7_108 rfl (lv_at hl.1 2 rfl) ?_
            refine xq_aload_n (r := x14) hx hb d6_7_109 rfl (lv_at hl.1 5 rfl) ?_
            refine xq_aload (r := x33) hx hb d6_7_110 (lv_at hl.1 0 rfl) ?_
            obtain ⟨u9, ho, h⟩ := ob h
            obtain ⟨⟨x46, st47⟩, hc, h⟩ := ob h
            refine hV_i (ci := 4) (As := [va_rf x14, va_rf x33]) (rest := []) ⟨hx, hb, hml, hown, hts⟩ (cc_Patcher_exchange l G Zd K o x14 x33 st34 x46 st47 hc) (kw_V (n := 2) hts k802 k799 k8 k801 ks18 (by decide +kernel) ⟨Nat.le_of_ble_eq_true rfl, Nat.le_of_ble_eq_true rfl⟩) hE hw rfl rfl ho rfl hl.1.1 rfl (c1_8 c1_n (Nat.le_of_ble_eq_true rfl)) d6_7_112 (fun H locs cells slots hw => ?_)
            clear hc ho u9
            refine W.eq (g2 := F0 m 115 ls [.int x46]) rfl ?_
            refine lv_goto (tgt := 125) hx hb d6_7_115 rfl ?_
            have e9_0 := Option.some.inj h
            obtain ⟨q9, e9_1⟩ := Prod.mk.inj e9_0
            clear e9_0
            subst v40
            subst v41
            have hl := lw_sub hl (l' := [(0, .ref o), (1, va_rf a0), (2, va_rf x11), (3, va_rf x14), (4, va_rf v30), (5, va_rf x33)]) [2, 3, 4, 5, 1, 0] rfl
            exact hj _ _ _ _ _ hl hw
      clear h
      refine lv_if_eq (tgt := 76) hx hb d6_7_60 rfl (fun c49 => ?_) (fun c49 => ?_)
      ·
        replace h := (if_pos c49).symm.trans hX
        refine xq_aload_n (r := a0) hx hb d6_7_76 rfl (lv_at hl.1 3 rfl) ?_
        refine va_ldcS hx hb hown (hZ.2.2.1 ("PagedValues$Patcher", 82, "value", 27) (List.mem_of_getElem? (i := 15) rfl)) d6_7_77 ?_
        refine W.eq (g2 := F0 m 79 ls [.ref (Zd 27), va_rf a0]) rfl ?_
        obtain ⟨a50z, hn50, h⟩ := ob h
        have hn50 : a0 = some a50z := hn50
        refine W.eq (g2 := F0 m 79 ls [.ref (Zd 27), .ref a50z]) (by rw [hn50]; rfl) ?_
        obtain ⟨u9, ho, h⟩ := ob h
        obtain ⟨x51, hc, h⟩ := ob h
        refine hV_q (ci := 11) (As := [.ref (Zd 27)]) (rest := []) ⟨hx, hb, hml, hown, hts⟩ (cc_Value_member l G Zd K a50z (some (Zd 27)) st x51 hc) (kw_V (n := 1) hts k584 k762 k18 k582 k583 (by decide +kernel) ⟨Nat.le_of_ble_eq_true rfl, Nat.le_of_ble_eq_true rfl⟩) hE hw rfl rfl ho rfl hl.1.1 rfl (c1_8 c1_n (Nat.le_of_ble_eq_true rfl)) d6_7_79 (fun H locs cells slots hw => ?_)
        clear hc ho u9
        refine W.eq (g2 := F0 m 82 ls [va_rf x51]) rfl ?_
        have e9_0 := Option.some.inj h
        obtain ⟨q9, e9_1⟩ := Prod.mk.inj e9_0
        clear e9_0
        subst v30
        subst v31
        have hl := lw_sub hl (l' := [(0, .ref o), (1, va_rf a0), (2, va_rf x11), (3, va_rf x14)]) [2, 3, 1, 0] rfl
        exact hj _ _ _ _ _ hl hw
      ·
        replace h := (if_neg c49).symm.trans hX
        refine lv_aload_n hx hb d6_7_63 rfl (lv_at hl.1 2 rfl) ?_
        refine xq_aload_n (r := a0) hx hb d6_7_64 rfl (lv_at hl.1 3 rfl) ?_
        refine va_ldcS hx hb hown (hZ.2.2.1 ("PagedValues$Patcher", 90, "from", 29) (List.mem_of_getElem? (i := 17) rfl)) d6_7_65 ?_
        refine W.eq (g2 := F0 m 67 ls [.ref (Zd 29), va_rf a0, .ref o]) rfl ?_
        obtain ⟨x54, hc, h⟩ := ob h
        refine hS_q (As := [va_rf a0, .ref (Zd 29)]) (rest := [.ref o]) ⟨hx, hb, hml, hown, hts⟩ (cc_Patcher_stringOf l G Zd K a0 (some (Zd 29)) st x54 hc) (kw_S (n := 2) hts k767 k765 k8 k766 (by decide +kernel) ⟨Nat.le_of_ble_eq_true rfl, Nat.le_of_ble_eq_true rfl⟩) hE hw rfl hl.1.1 rfl (c1_8 (c1_c rfl c1_n) (Nat.le_of_ble_eq_true rfl)) d6_7_67 (fun H locs cells slots hw => ?_)
        clear hc
        refine W.eq (g2 := F0 m 70 ls [va_rf x54, .ref o]) rfl ?_
        obtain ⟨u9, ho, h⟩ := ob h
        obtain ⟨⟨x57, st58⟩, hc, h⟩ := ob h
        refine hV_q (ci := 4) (As := [va_rf x54]) (rest := []) ⟨hx, hb, hml, hown, hts⟩ (cc_Patcher_copySource l G Zd K o x54 st x57 st58 hc) (kw_V (n := 1) hts k844 k841 k8 k843 ks20 (by decide +kernel) ⟨Nat.le_of_ble_eq_true rfl, Nat.le_of_ble_eq_true rfl⟩) hE hw rfl rfl ho rfl hl.1.1 rfl (c1_8 c1_n (Nat.le_of_ble_eq_true rfl)) d6_7_70 (fun H locs cells slots hw => ?_)
        clear hc ho u9
        refine W.eq (g2 := F0 m 73 ls [va_rf x57]) rfl ?_
        refine lv_goto (tgt := 82) hx hb d6_7_73 rfl ?_
        have e9_0 := Option.some.inj h
        obtain ⟨q9, e9_1⟩ := Prod.mk.inj e9_0
        clear e9_0
        subst v30
        subst v31
        have hl := lw_sub hl (l' := [(0, .ref o), (1, va_rf a0), (2, va_rf x11), (3, va_rf x14)]) [2, 3, 1, 0] rfl
        exact hj _ _ _ _ _ hl hw
    ·
      replace h := (if_neg c25).symm.trans h
      refine xq_aload_n (r := x14) hx hb d6_7_32 rfl (lv_at hl.1 0 rfl) ?_
      obtain ⟨a60z, hn60, h⟩ := ob h
      have hn60 : x14 = some a60z := hn60
      refine W.eq (g2 := F0 m 33 ls [.ref a60z]) (by rw [hn60]; rfl) ?_
      obtain ⟨u9, ho, h⟩ := ob h
      obtain ⟨x61, hc, h⟩ := ob h
      refine hV_i (ci := 12) (As := []) (rest := []) ⟨hx, hb, hml, hown, hts⟩ (cc_String_isEmpty l G Zd K a60z st x61 hc) (kw_V (n := 0) hts k792 k798 k5 k790 k791 (by decide +kernel) ⟨Nat.le_of_ble_eq_true rfl, Nat.le_of_ble_eq_true rfl⟩) hE hw rfl rfl ho rfl hl.1.1 rfl (c1_8 c1_n (Nat.le_of_ble_eq_true rfl)) d6_7_33 (fun H locs cells slots hw => ?_)
      clear hc ho u9
      refine W.eq (g2 := F0 m 36 ls [.int x61]) rfl ?_
      obtain ⟨e64, hX, h⟩ := ob h
      obtain ⟨v65, v66⟩ := e64
      have hj : ∀ (H : Heap) (locs : List Loc) (cells slots : Nat) (ls : Array Slot), lw ls 6 [(0, .ref o), (1, va_rf a0), (2, va_rf x11), (3, va_rf x14)] → wsH G Zd A s v66 H locs → W p l e (rmH Zd (21) st.1) s m args below meth c H locs cells slots Q (F0 m 53 ls [.int v65]) := by
        intro H locs cells slots ls hl hw
        obtain ⟨u9, hr9, h⟩ := ob h
        have hi := bz_some hr9
        clear hr9 u9
        cases h
        exact finH_z hQ hx hb hr hlk (nar01 hi) hE hw d6_7_53
      clear h
      refine lv_if_ne (tgt := 52) hx hb d6_7_36 rfl (fun c67 => ?_) (fun c67 => ?_)
      ·
        replace h := (if_neg c67).symm.trans hX
        refine lv_iconst (v := 0) hx hb d6_7_52 (by decide) ?_
        have e9_0 := Option.some.inj h
        obtain ⟨q9, e9_1⟩ := Prod.mk.inj e9_0
        clear e9_0
        subst v65
        subst v66
        have hl := lw_sub hl (l' := [(0, .ref o), (1, va_rf a0), (2, va_rf x11), (3, va_rf x14)]) [2, 3, 1, 0] rfl
        exact hj _ _ _ _ _ hl hw
      ·
        replace h := (if_pos c67).symm.trans hX
        refine lv_aload_n hx hb d6_7_39 rfl (lv_at hl.1 2 rfl) ?_
        refine xq_aload_n (r := x14) hx hb d6_7_40 rfl (lv_at hl.1 0 rfl) ?_
        refine lv_null hx hb d6_7_41 ?_
        obtain ⟨u9, ho, h⟩ := ob h
        obtain ⟨⟨x68, st69⟩, hc, h⟩ := ob h
        refine hV_i (ci := 4) (As := [va_rf x14, .null]) (rest := []) ⟨hx, hb, hml, hown, hts⟩ (cc_Patcher_exchange l G Zd K o x14 none st x68 st69 hc) (kw_V (n := 2) hts k802 k799 k8 k801 ks18 (by decide +kernel) ⟨Nat.le_of_ble_eq_true rfl, Nat.le_of_ble_eq_true rfl⟩) hE hw rfl rfl ho rfl hl.1.1 rfl (c1_8 c1_n (Nat.le_of_ble_eq_true rfl)) d6_7_42 (fun H locs cells slots hw => ?_)
        clear hc ho u9
        refine W.eq (g2 := F0 m 45 ls [.int x68]) rfl ?_
        refine lv_if_eq (tgt := 52) hx hb d6_7_45 rfl (fun c71 => ?_) (fun c71 => ?_)
        ·
          replace h := (if_pos c71).symm.trans h
          refine lv_iconst (v := 0) hx hb d6_7_52 (by decide) ?_
          have e9_0 := Option.some.inj h
          obtain ⟨q9, e9_1⟩ := Prod.mk.inj e9_0
          clear e9_0
          subst v65
          subst v66
          have hl := lw_sub hl (l' := [(0, .ref o), (1, va_rf a0), (2, va_rf x11), (3, va_rf x14)]) [2, 3, 1, 0] rfl
          exact hj _ _ _ _ _ hl hw
        ·
          replace h := (if_neg c71).symm.trans h
          refine lv_iconst (v := 1) hx hb d6_7_48 (by decide) ?_
          refine lv_goto (tgt := 53) hx hb d6_7_49 rfl ?_
          have e9_0 := Option.some.inj h
          obtain ⟨q9, e9_1⟩ := Prod.mk.inj e9_0
          clear e9_0
          subst v65
          subst v66
          have hl := lw_sub hl (l' := [(0, .ref o), (1, va_rf a0), (2, va_rf x11), (3, va_rf x14)]) [2, 3, 1, 0] rfl
          exact hj _ _ _ _ _ hl hw
  ·
    replace h := (if_pos c20).symm.trans h
    refine lv_iconst (v := 0) hx hb d6_7_21 (by decide) ?_
    cases h
    exact finH_z hQ hx hb hr hlk (by decide) hE hw d6_7_22
def c_Patcher_apply_l1 (Zd : Nat → Nat) (K : KE) (o : Nat) : Nat → (Int32 × Option Nat × CS) → Option ((Int32 × CS) ⊕ (Int32 × Option Nat × CS))
  | 0, _ => none
  | n9 + 1, e9 => nl e9.2.1 (some (.inr (e9.1, e9.2.1, e9.2.2))) (fun a28z => (isO K e9.2.2 o 4).bind fun _ => (c_Patcher_perform Zd K o e9.2.1 e9.2.2).bind fun r31 => if r31.1 = (0 : Int32) then ((some (((-10) : Int32) - e9.1)).bind fun y45 => some (.inl (y45, r31.2))) else ((gQ K r31.2 o 4 1).bind fun x33 => (c_Value_sizeOf Zd K 10 x33 (0 : Int32) r31.2).bind fun x34 => if (24 : Int32) < x34 then (some (.inl (((-5) : Int32), r31.2))) else ((gQ K r31.2 o 4 1).bind fun x38 => (c_Value_depthOf Zd K 10 x38 (0 : Int32) r31.2).bind fun x39 => if x39 ≤ (4 : Int32) then ((some (e9.1 + 1)).bind fun y43 => (gQ K r31.2 a28z 11 5).bind fun x44 => c_Patcher_apply_l1 Zd K o n9 (y43, x44, r31.2)) else (some (.inl (((-5) : Int32), r31.2))))))
theorem c_Patcher_apply_l1_s (Zd : Nat → Nat) (K : KE) (o : Nat) (n9 : Nat) (e9 : Int32 × Option Nat × CS) : c_Patcher_apply_l1 Zd K o (n9 + 1) e9 = (nl e9.2.1 (some (.inr (e9.1, e9.2.1, e9.2.2))) (fun a28z => (isO K e9.2.2 o 4).bind fun _ => (c_Patcher_perform Zd K o e9.2.1 e9.2.2).bind fun r31 => if r31.1 = (0 : Int32) then ((some (((-10) : Int32) - e9.1)).bind fun y45 => some (.inl (y45, r31.2))) else ((gQ K r31.2 o 4 1).bind fun x33 => (c_Value_sizeOf Zd K 10 x33 (0 : Int32) r31.2).bind fun x34 => if (24 : Int32) < x34 then (some (.inl (((-5) : Int32), r31.2))) else ((gQ K r31.2 o 4 1).bind fun x38 => (c_Value_depthOf Zd K 10 x38 (0 : Int32) r31.2).bind fun x39 => if x39 ≤ (4 : Int32) then ((some (e9.1 + 1)).bind fun y43 => (gQ K r31.2 a28z 11 5).bind fun x44 => c_Patcher_apply_l1 Zd K o n9 (y43, x44, r31.2)) else (some (.inl (((-5) : Int32), r31.2))))))) := rfl
def c_Patcher_apply (Zd : Nat → Nat) (K : KE) (o : Nat) (a0 : Option Nat) (a1 : Option Nat) (st : CS) : Option (Int32 × CS) := (c_Patcher_isList Zd K a0 st).bind fun x11 => if x11 = (0 : Int32) then (some (((-3) : Int32), st)) else ((c_Value_copyOf Zd K 10 a1 (0 : Int32) st).bind fun r17 => (sF r17.2 o 4 1 (va_rf r17.1)).bind fun st18 => a0.bind fun a19z => (gQ K st18 a19z 11 4).bind fun x20 => (c_Patcher_apply_l1 Zd K o 4096 ((0 : Int32), x20, st18)).bind fun e21 => match e21 with | .inl o9 => some o9 | .inr e8 => some ((0 : Int32), e8.2.2))
set_option maxHeartbeats 4000000 in
set_option maxRecDepth 100000 in
theorem cc_Patcher_apply (l : Launch) (G : Gk) (Zd : Nat → Nat) (K : KE) (o : Nat) (a0 : Option Nat) (a1 : Option Nat) (st : CS) (r0 : Int32) (st0 : CS) (hm : c_Patcher_apply Zd K o a0 a1 st = some (r0, st0)) : CT l y6_2 prog_6_method_2_code 5 (some .int) G Zd K (22) [.ref o, va_rf a0, va_rf a1] st (hI G Zd r0 st0) := by
  refine goH (d := 22) (y := y6_2) (cc := prog_6_method_2_code) (maxL := 5) (ret := (some .int)) (av := [.ref o, va_rf a0, va_rf a1]) (Qc := hI G Zd r0 st0) "PagedValues$Patcher" rfl (by decide) (c1_c rfl (c1_c (rf_cat _) (c1_c (rf_cat _) c1_n))) (Nat.le_of_ble_eq_true rfl) ?_
  intro p e s m below meth c ls A args Q hQ hx hb hr hlk hml hown hts hin hl hE hw
  have hl : lw ls 5 [(0, .ref o), (1, va_rf a0), (2, va_rf a1)] := hl
  have hZ := hE.2.2.1
  have h := hm
  clear hm
  refine xq_aload_n (r := a0) hx hb d6_2_0 rfl (lv_at hl.1 1 rfl) ?_
  obtain ⟨x11, hc, h⟩ := ob h
  refine hS_i (As := [va_rf a0]) (rest := []) ⟨hx, hb, hml, hown, hts⟩ (cc_Patcher_isList l G Zd K a0 st x11 hc) (kw_S (n := 1) hts k753 k751 k8 k752 (by decide +kernel) ⟨Nat.le_of_ble_eq_true rfl, Nat.le_of_ble_eq_true rfl⟩) hE hw rfl hl.1.1 rfl (c1_8 c1_n (Nat.le_of_ble_eq_true rfl)) d6_2_1 (fun H locs cells slots hw => ?_)
  clear hc
  refine W.eq (g2 := F0 m 4 ls [.int x11]) rfl ?_
  refine lv_if_ne (tgt := 10) hx hb d6_2_4 rfl (fun c14 => ?_) (fun c14 => ?_)
  ·
    replace h := (if_neg c14).symm.trans h
    refine lv_aload_n hx hb d6_2_10 rfl (lv_at hl.1 0 rfl) ?_
    refine xq_aload_n (r := a1) hx hb d6_2_11 rfl (lv_at hl.1 2 rfl) ?_
    refine lv_iconst (v := 0) hx hb d6_2_12 (by decide) ?_
    obtain ⟨⟨x15, st16⟩, hc, h⟩ := ob h
    refine hSN_q (As := [va_rf a1, .int 0]) (rest := [.ref o]) ⟨hx, hb, hml, hown, hts⟩ (cc_Value_copyOf l G Zd K 10 a1 (0 : Int32) st x15 st16 hc) (kw_SN (n := 2) hts hZ.1.1 k778 kn776 k18 k777 (by decide +kernel) ⟨Nat.le_of_ble_eq_true rfl, Nat.le_of_ble_eq_true rfl⟩) hE hw rfl hl.1.1 rfl (c1_8 (c1_c rfl c1_n) (Nat.le_of_ble_eq_true rfl)) d6_2_13 (fun H locs cells slots hw => ?_)
    clear hc
    refine W.eq (g2 := F0 m 16 ls [va_rf x15, .ref o]) rfl ?_
    obtain ⟨st18, hr, h⟩ := ob h
    refine xp (ci := 4) (ty := (ft_4 1)) (C := r_4) (T := f_4) (N := 2) (ref := "PagedValues$Patcher") hx hb hts (fun w h => List.mem_cons_of_mem _ (ly_4 w h)) ft_4 ft_4_ok nm_4 hown hE hw rfl 1 (by decide) (hts _ (List.mem_cons_of_mem _ k123)) (fun _ h9 => h9) rfl hr (by decide +kernel) (rf_narO _) (rf_fitO _) d6_2_16 (fun H locs hw => ?_)
    clear hr
    refine lv_iconst (v := 0) hx hb d6_2_19 (by decide) ?_
    refine xt_istore_n (x := 0) (lv' := [(3, .int 0), (0, .ref o), (1, va_rf a0), (2, va_rf a1)]) hx hb d6_2_20 rfl hl (by decide) rfl (fun ls hl => ?_)
    refine xq_aload_n (r := a0) hx hb d6_2_21 rfl (lv_at hl.1 2 rfl) ?_
    obtain ⟨a19z, hn19, h⟩ := ob h
    have hn19 : a0 = some a19z := hn19
    refine W.eq (g2 := F0 m 22 ls [.ref a19z]) (by rw [hn19]; rfl) ?_
    obtain ⟨x20, hr, h⟩ := ob h
    refine xgN_q (ci := 11) (C := r_11) (T := f_11) (N := 6) (ref := "PagedValues$Value") hx hb hts (fun w h => List.mem_cons_of_mem _ (ly_11 w h)) hown hE hw rfl 4 (by decide) (va_Nw.use rfl (hZ.1.1 _ kn359)) (fun _ h9 => h9) hr d6_2_22 ?_
    clear hr
    refine xt_astore (r := x20) (lv' := [(4, va_rf x20), (3, .int 0), (0, .ref o), (1, va_rf a0), (2, va_rf a1)]) hx hb d6_2_25 hl (by decide) rfl (fun ls hl => ?_)
    obtain ⟨e21, hX, hrest⟩ := ob h
    clear h
    have hj : ∀ (v25 : Int32) (v26 : Option Nat) (v27 : CS), e21 = .inr (v25, v26, v27) → ∀ (H : Heap) (locs : List Loc) (cells slots : Nat) (ls : Array Slot), lw ls 5 [(0, .ref o), (1, va_rf a0), (2, va_rf a1), (3, .int v25), (4, va_rf v26)] → wsH G Zd A s v27 H locs → W p l e (rmH Zd (22) st.1) s m args below meth c H locs cells slots Q (F0 m 87 ls []) := by
      intro v25 v26 v27 he H locs cells slots ls hl hw
      subst e21
      have h := hrest
      clear hrest
      refine lv_iconst (v := 0) hx hb d6_2_87 (by decide) ?_
      cases h
      exact finH_i hQ hx hb hr hlk hE hw d6_2_88
    have hloop : ∀ (n9 : Nat) (v22 : Int32) (v23 : Option Nat) (v24 : CS), c_Patcher_apply_l1 Zd K o n9 (v22, v23, v24) = some e21 → ∀ (H : Heap) (locs : List Loc) (cells slots : Nat) (ls : Array Slot), lw ls 5 [(0, .ref o), (1, va_rf a0), (2, va_rf a1), (3, .int v22), (4, va_rf v23)] → wsH G Zd A s v24 H locs → W p l e (rmH Zd (22) st.1) s m args below meth c H locs cells slots Q (F0 m 27 ls []) := by
      intro n9
      induction n9 with
      | zero =>
        intro v22 v23 v24 h
        cases h
      | succ n9 ih =>
        intro v22 v23 v24 h H locs cells slots ls hl hw
        replace h := (c_Patcher_apply_l1_s Zd K o n9 (v22, v23, v24)).symm.trans h
        refine xq_aload (r := v23) hx hb d6_2_27 (lv_at hl.1 4 rfl) ?_
        rcases nl_case h with ⟨hn28, h⟩ | ⟨a28z, hn28, h⟩
        ·
          have hn28 : v23 = none := hn28
          refine W.eq (g2 := F0 m 29 ls [.null]) (by rw [hn28]; rfl) ?_
          refine lv_ifnullN (tgt := 87) hx hb d6_2_29 rfl ?_
          have e9 := Option.some.inj h
          subst e21
          have hl := lw_sub hl (l' := [(0, .ref o), (1, va_rf a0), (2, va_rf a1), (3, .int v22), (4, va_rf v23)]) [0, 1, 2, 3, 4] rfl
          exact hj _ _ _ rfl _ _ _ _ _ hl hw
        ·
          have hn28 : v23 = some a28z := hn28
          refine W.eq (g2 := F0 m 29 ls [.ref a28z]) (by rw [hn28]; rfl) ?_
          refine lv_ifnull hx hb d6_2_29 ?_
          refine lv_aload_n hx hb d6_2_32 rfl (lv_at hl.1 0 rfl) ?_
          refine xq_aload (r := v23) hx hb d6_2_33 (lv_at hl.1 4 rfl) ?_
          obtain ⟨u9, ho, h⟩ := ob h
          obtain ⟨⟨x29, st30⟩, hc, h⟩ := ob h
          refine hV_i (ci := 4) (As := [va_rf v23]) (rest := []) ⟨hx, hb, hml, hown, hts⟩ (cc_Patcher_perform l G Zd K o v23 v24 x29 st30 hc) (kw_V (n := 1) hts k785 k782 k8 k784 ks17 (by decide +kernel) ⟨Nat.le_of_ble_eq_true rfl, Nat.le_of_ble_eq_true rfl⟩) hE hw rfl rfl ho rfl hl.1.1 rfl (c1_8 c1_n (Nat.le_of_ble_eq_true rfl)) d6_2_35 (fun H locs cells slots hw => ?_)
          clear hc ho u9
          refine W.eq (g2 := F0 m 38 ls [.int x29]) rfl ?_
          refine lv_if_ne (tgt := 46) hx hb d6_2_38 rfl (fun c32 => ?_) (fun c32 => ?_)
          ·
            replace h := (if_neg c32).symm.trans h
            refine lv_aload_n hx hb d6_2_46 rfl (lv_at hl.1 0 rfl) ?_
            obtain ⟨x33, hr, h⟩ := ob h
            refine xg_q (ci := 4) (C := r_4) (T := f_4) (N := 2) (ref := "PagedValues$Patcher") hx hb hts (fun w h => List.mem_cons_of_mem _ (ly_4 w h)) hown hE hw rfl 1 (by decide) (hts _ (List.mem_cons_of_mem _ k123)) (fun _ h9 => h9) hr d6_2_47 ?_
            clear hr
            refine lv_iconst (v := 0) hx hb d6_2_50 (by decide) ?_
            obtain ⟨x34, hc, h⟩ := ob h
            refine hSN_i (As := [va_rf x33, .int 0]) (rest := []) ⟨hx, hb, hml, hown, hts⟩ (cc_Value_sizeOf l G Zd K 10 x33 (0 : Int32) st30 x34 hc) (kw_SN (n := 2) hts hZ.1.1 k739 kn862 k18 k738 (by decide +kernel) ⟨Nat.le_of_ble_eq_true rfl, Nat.le_of_ble_eq_true rfl⟩) hE hw rfl hl.1.1 rfl (c1_8 c1_n (Nat.le_of_ble_eq_true rfl)) d6_2_51 (fun H locs cells slots hw => ?_)
            clear hc
            refine W.eq (g2 := F0 m 54 ls [.int x34]) rfl ?_
            refine lv_bipush (v := 24) hx hb d6_2_54 (by decide) ?_
            refine lv_icmp_gt (tgt := 71) hx hb d6_2_56 rfl (fun c37 => ?_) (fun c37 => ?_)
            ·
              replace h := (if_pos c37).symm.trans h
              refine lv_bipush (v := (-5)) hx hb d6_2_71 (by decide) ?_
              cases h
              cases hrest
              exact finH_i hQ hx hb hr hlk hE hw d6_2_73
            ·
              replace h := (if_neg c37).symm.trans h
              refine lv_aload_n hx hb d6_2_59 rfl (lv_at hl.1 0 rfl) ?_
              obtain ⟨x38, hr, h⟩ := ob h
              refine xg_q (ci := 4) (C := r_4) (T := f_4) (N := 2) (ref := "PagedValues$Patcher") hx hb hts (fun w h => List.mem_cons_of_mem _ (ly_4 w h)) hown hE hw rfl 1 (by decide) (hts _ (List.mem_cons_of_mem _ k123)) (fun _ h9 => h9) hr d6_2_60 ?_
              clear hr
              refine lv_iconst (v := 0) hx hb d6_2_63 (by decide) ?_
              obtain ⟨x39, hc, h⟩ := ob h
              refine hSN_i (As := [va_rf x38, .int 0]) (rest := []) ⟨hx, hb, hml, hown, hts⟩ (cc_Value_depthOf l G Zd K 10 x38 (0 : Int32) st30 x39 hc) (kw_SN (n := 2) hts hZ.1.1 k865 kn863 k18 k864 (by decide +kernel) ⟨Nat.le_of_ble_eq_true rfl, Nat.le_of_ble_eq_true rfl⟩) hE hw rfl hl.1.1 rfl (c1_8 c1_n (Nat.le_of_ble_eq_true rfl)) d6_2_64 (fun H locs cells slots hw => ?_)
              clear hc
              refine W.eq (g2 := F0 m 67 ls [.int x39]) rfl ?_
              refine lv_iconst (v := 4) hx hb d6_2_67 (by decide) ?_
              refine lv_icmp_le (tgt := 74) hx hb d6_2_68 rfl (fun c42 => ?_) (fun c42 => ?_)
              ·
                replace h := (if_pos c42).symm.trans h
                obtain ⟨y43, hr, h⟩ := ob h
                refine xt_iinc (k := 3) (v := y43) (lv' := [(3, .int y43), (0, .ref o), (1, va_rf a0), (2, va_rf a1), (4, va_rf v23)]) hx hb d6_2_74 hl rfl hr (by decide) rfl (fun ls hl => ?_)
                clear hr
                refine xq_aload (r := v23) hx hb d6_2_77 (lv_at hl.1 4 rfl) ?_
                refine W.eq (g2 := F0 m 79 ls [.ref a28z]) (by rw [hn28]; rfl) ?_
                obtain ⟨x44, hr, h⟩ := ob h
                refine xgN_q (ci := 11) (C := r_11) (T := f_11) (N := 6) (ref := "PagedValues$Value") hx hb hts (fun w h => List.mem_cons_of_mem _ (ly_11 w h)) hown hE hw rfl 5 (by decide) (va_Nw.use rfl (hZ.1.1 _ kn362)) (fun _ h9 => h9) hr d6_2_79 ?_
                clear hr
                refine xt_astore (r := x44) (lv' := [(4, va_rf x44), (3, .int y43), (0, .ref o), (1, va_rf a0), (2, va_rf a1)]) hx hb d6_2_82 hl (by decide) rfl (fun ls hl => ?_)
                refine lv_goto (tgt := 27) hx hb d6_2_84 rfl ?_
                have hl := lw_sub hl (l' := [(0, .ref o), (1, va_rf a0), (2, va_rf a1), (3, .int y43), (4, va_rf x44)]) [2, 3, 4, 1, 0] rfl
                exact ih _ _ _ h _ _ _ _ _ hl hw
              ·
                replace h := (if_neg c42).symm.trans h
                refine lv_bipush (v := (-5)) hx hb d6_2_71 (by decide) ?_
                cases h
                cases hrest
                exact finH_i hQ hx hb hr hlk hE hw d6_2_73
          ·
            replace h := (if_pos c32).symm.trans h
            refine lv_bipush (v := (-10)) hx hb d6_2_41 (by decide) ?_
            refine lv_iload_n hx hb d6_2_43 rfl (lv_at hl.1 3 rfl) ?_
            refine lv_isub hx hb d6_2_44 ?_
            obtain ⟨y45, hr, h⟩ := ob h
            refine lv_topi (fun y9 ey => ?_)
            have e9 := ey.trans (Option.some.inj hr)
            clear ey
            subst y9
            clear hr
            cases h
            cases hrest
            exact finH_i hQ hx hb hr hlk hE hw d6_2_45
    have hl := lw_sub hl (l' := [(0, .ref o), (1, va_rf a0), (2, va_rf a1), (3, .int 0), (4, va_rf x20)]) [2, 3, 4, 1, 0] rfl
    exact hloop _ _ _ _ hX _ _ _ _ _ hl hw
  ·
    replace h := (if_pos c14).symm.trans h
    refine lv_bipush (v := (-3)) hx hb d6_2_7 (by decide) ?_
    cases h
    exact finH_i hQ hx hb hr hlk hE hw d6_2_9
theorem d8_2_0 : decode prog_8_method_2_code 0 = .ok (.aload_n 0, 1) := by decide +kernel
theorem d8_2_1 : decode prog_8_method_2_code 1 = .ok (.iconst 0, 1) := by decide +kernel
theorem d8_2_2 : decode prog_8_method_2_code 2 = .ok (.putfield 18, 3) := by decide +kernel
theorem k168 : (Jvm.Cond.fieldLink "PagedValues$Query" (18 : Nat) "PagedValues$Query" "count" "I") ∈ TB := tk_1 168 rfl rfl
theorem d8_2_5 : decode prog_8_method_2_code 5 = .ok (.aload_n 1, 1) := by decide +kernel
theorem d8_2_6 : decode prog_8_method_2_code 6 = .ok (.invokevirtual 22, 3) := by decide +kernel
theorem k896 : (Jvm.Cond.methodLink "PagedValues$Query" (22 : Nat) ({ cls := "PagedValues$Text", name := "begin", desc := "()V" } : Jvm.MethodName)) ∈ TB := tk_4 176 rfl rfl
theorem d8_2_9 : decode prog_8_method_2_code 9 = .ok (.aload_n 1, 1) := by decide +kernel
theorem d8_2_10 : decode prog_8_method_2_code 10 = .ok (.bipush 36, 2) := by decide +kernel
theorem d8_2_12 : decode prog_8_method_2_code 12 = .ok (.invokevirtual 27, 3) := by decide +kernel
theorem k897 : (Jvm.Cond.methodLink "PagedValues$Query" (27 : Nat) ({ cls := "PagedValues$Text", name := "need", desc := "(C)Z" } : Jvm.MethodName)) ∈ TB := tk_4 177 rfl rfl
theorem d8_2_15 : decode prog_8_method_2_code 15 = .ok (.pop, 1) := by decide +kernel
theorem d8_2_16 : decode prog_8_method_2_code 16 = .ok (.iconst 0, 1) := by decide +kernel
theorem d8_2_17 : decode prog_8_method_2_code 17 = .ok (.istore_n 2, 1) := by decide +kernel
theorem d8_2_49 : decode prog_8_method_2_code 49 = .ok (.return_, 1) := by decide +kernel
theorem d8_2_18 : decode prog_8_method_2_code 18 = .ok (.iload_n 2, 1) := by decide +kernel
theorem d8_2_19 : decode prog_8_method_2_code 19 = .ok (.bipush 8, 2) := by decide +kernel
theorem d8_2_21 : decode prog_8_method_2_code 21 = .ok (.if_icmp .gt 28, 3) := by decide +kernel
theorem d8_2_24 : decode prog_8_method_2_code 24 = .ok (.aload_n 1, 1) := by decide +kernel
theorem d8_2_25 : decode prog_8_method_2_code 25 = .ok (.invokevirtual 31, 3) := by decide +kernel
theorem k898 : (Jvm.Cond.methodLink "PagedValues$Query" (31 : Nat) ({ cls := "PagedValues$Text", name := "isRight", desc := "()Z" } : Jvm.MethodName)) ∈ TB := tk_4 178 rfl rfl
theorem d8_2_28 : decode prog_8_method_2_code 28 = .ok (.ifCond .eq 21, 3) := by decide +kernel
theorem d8_2_31 : decode prog_8_method_2_code 31 = .ok (.aload_n 1, 1) := by decide +kernel
theorem d8_2_32 : decode prog_8_method_2_code 32 = .ok (.invokevirtual 35, 3) := by decide +kernel
theorem k899 : (Jvm.Cond.methodLink "PagedValues$Query" (35 : Nat) ({ cls := "PagedValues$Text", name := "atEnd", desc := "()Z" } : Jvm.MethodName)) ∈ TB := tk_4 179 rfl rfl
theorem d8_2_35 : decode prog_8_method_2_code 35 = .ok (.ifCond .ne 14, 3) := by decide +kernel
theorem d8_2_38 : decode prog_8_method_2_code 38 = .ok (.aload_n 0, 1) := by decide +kernel
theorem d8_2_39 : decode prog_8_method_2_code 39 = .ok (.aload_n 1, 1) := by decide +kernel
theorem d8_2_40 : decode prog_8_method_2_code 40 = .ok (.invokevirtual 38, 3) := by decide +kernel
theorem d8_3_0 : decode prog_8_method_3_code 0 = .ok (.aload_n 1, 1) := by decide +kernel
theorem d8_3_1 : decode prog_8_method_3_code 1 = .ok (.bipush 46, 2) := by decide +kernel
theorem d8_3_3 : decode prog_8_method_3_code 3 = .ok (.invokevirtual 42, 3) := by decide +kernel
theorem k904 : (Jvm.Cond.methodLink "PagedValues$Query" (42 : Nat) ({ cls := "PagedValues$Text", name := "take", desc := "(C)Z" } : Jvm.MethodName)) ∈ TB := tk_4 184 rfl rfl
theorem d8_3_6 : decode prog_8_method_3_code 6 = .ok (.istore_n 2, 1) := by decide +kernel
theorem d8_3_7 : decode prog_8_method_3_code 7 = .ok (.iload_n 2, 1) := by decide +kernel
theorem d8_3_8 : decode prog_8_method_3_code 8 = .ok (.ifCond .eq 16, 3) := by decide +kernel
theorem d8_3_24 : decode prog_8_method_3_code 24 = .ok (.iconst 0, 1) := by decide +kernel
theorem d8_3_11 : decode prog_8_method_3_code 11 = .ok (.aload_n 1, 1) := by decide +kernel
theorem d8_3_12 : decode prog_8_method_3_code 12 = .ok (.bipush 46, 2) := by decide +kernel
theorem d8_3_14 : decode prog_8_method_3_code 14 = .ok (.invokevirtual 42, 3) := by decide +kernel
theorem d8_3_17 : decode prog_8_method_3_code 17 = .ok (.ifCond .eq 7, 3) := by decide +kernel
theorem d8_3_20 : decode prog_8_method_3_code 20 = .ok (.iconst 1, 1) := by decide +kernel
theorem d8_3_21 : decode prog_8_method_3_code 21 = .ok (.goto 4, 3) := by decide +kernel
theorem d8_3_25 : decode prog_8_method_3_code 25 = .ok (.istore_n 3, 1) := by decide +kernel
theorem d8_3_26 : decode prog_8_method_3_code 26 = .ok (.iload_n 2, 1) := by decide +kernel
theorem d8_3_27 : decode prog_8_method_3_code 27 = .ok (.ifCond .eq 25, 3) := by decide +kernel
theorem d8_3_52 : decode prog_8_method_3_code 52 = .ok (.aload_n 0, 1) := by decide +kernel
theorem d8_3_53 : decode prog_8_method_3_code 53 = .ok (.aload_n 1, 1) := by decide +kernel
theorem d8_3_54 : decode prog_8_method_3_code 54 = .ok (.iload_n 3, 1) := by decide +kernel
theorem d8_3_55 : decode prog_8_method_3_code 55 = .ok (.invokevirtual 53, 3) := by decide +kernel
theorem d8_5_0 : decode prog_8_method_5_code 0 = .ok (.aload_n 1, 1) := by decide +kernel
theorem d8_5_1 : decode prog_8_method_5_code 1 = .ok (.bipush 91, 2) := by decide +kernel
theorem d8_5_3 : decode prog_8_method_5_code 3 = .ok (.invokevirtual 27, 3) := by decide +kernel
theorem d8_5_6 : decode prog_8_method_5_code 6 = .ok (.pop, 1) := by decide +kernel
theorem d8_5_7 : decode prog_8_method_5_code 7 = .ok (.iconst 0, 1) := by decide +kernel
theorem d8_5_8 : decode prog_8_method_5_code 8 = .ok (.istore_n 3, 1) := by decide +kernel
theorem d8_5_67 : decode prog_8_method_5_code 67 = .ok (.return_, 1) := by decide +kernel
theorem d8_5_9 : decode prog_8_method_5_code 9 = .ok (.iload_n 3, 1) := by decide +kernel
theorem d8_5_10 : decode prog_8_method_5_code 10 = .ok (.bipush 8, 2) := by decide +kernel
theorem d8_5_12 : decode prog_8_method_5_code 12 = .ok (.if_icmp .gt 55, 3) := by decide +kernel
theorem d8_5_15 : decode prog_8_method_5_code 15 = .ok (.aload_n 1, 1) := by decide +kernel
theorem d8_5_16 : decode prog_8_method_5_code 16 = .ok (.invokevirtual 31, 3) := by decide +kernel
theorem d8_5_19 : decode prog_8_method_5_code 19 = .ok (.ifCond .eq 48, 3) := by decide +kernel
theorem d8_5_22 : decode prog_8_method_5_code 22 = .ok (.aload_n 0, 1) := by decide +kernel
theorem d8_5_23 : decode prog_8_method_5_code 23 = .ok (.aload_n 1, 1) := by decide +kernel
theorem d8_5_24 : decode prog_8_method_5_code 24 = .ok (.iload_n 3, 1) := by decide +kernel
theorem d8_5_25 : decode prog_8_method_5_code 25 = .ok (.ifCond .ne 7, 3) := by decide +kernel
theorem d8_5_32 : decode prog_8_method_5_code 32 = .ok (.iconst 0, 1) := by decide +kernel
theorem d8_5_28 : decode prog_8_method_5_code 28 = .ok (.iconst 1, 1) := by decide +kernel
theorem d8_5_29 : decode prog_8_method_5_code 29 = .ok (.goto 4, 3) := by decide +kernel
theorem d8_5_33 : decode prog_8_method_5_code 33 = .ok (.iload_n 2, 1) := by decide +kernel
theorem d8_5_34 : decode prog_8_method_5_code 34 = .ok (.invokevirtual 78, 3) := by decide +kernel
theorem d8_6_0 : decode prog_8_method_6_code 0 = .ok (.aload_n 0, 1) := by decide +kernel
theorem d8_6_1 : decode prog_8_method_6_code 1 = .ok (.getfield 18, 3) := by decide +kernel
theorem d8_6_4 : decode prog_8_method_6_code 4 = .ok (.bipush 8, 2) := by decide +kernel
theorem d8_6_6 : decode prog_8_method_6_code 6 = .ok (.if_icmp .lt 8, 3) := by decide +kernel
theorem d8_6_14 : decode prog_8_method_6_code 14 = .ok (.aload_n 0, 1) := by decide +kernel
theorem d8_6_15 : decode prog_8_method_6_code 15 = .ok (.iload_n 2, 1) := by decide +kernel
theorem d8_6_16 : decode prog_8_method_6_code 16 = .ok (.iload_n 3, 1) := by decide +kernel
theorem d8_6_17 : decode prog_8_method_6_code 17 = .ok (.invokevirtual 63, 3) := by decide +kernel
theorem d8_8_0 : decode prog_8_method_8_code 0 = .ok (.aload_n 0, 1) := by decide +kernel
theorem d8_8_1 : decode prog_8_method_8_code 1 = .ok (.getfield 11, 3) := by decide +kernel
theorem d8_8_4 : decode prog_8_method_8_code 4 = .ok (.aload_n 0, 1) := by decide +kernel
theorem d8_8_5 : decode prog_8_method_8_code 5 = .ok (.getfield 18, 3) := by decide +kernel
theorem d8_8_8 : decode prog_8_method_8_code 8 = .ok (.aaload, 1) := by decide +kernel
theorem d8_8_9 : decode prog_8_method_8_code 9 = .ok (.astore_n 3, 1) := by decide +kernel
theorem d8_8_10 : decode prog_8_method_8_code 10 = .ok (.aload_n 0, 1) := by decide +kernel
theorem d8_8_11 : decode prog_8_method_8_code 11 = .ok (.dup, 1) := by decide +kernel
theorem d8_8_12 : decode prog_8_method_8_code 12 = .ok (.getfield 18, 3) := by decide +kernel
theorem d8_8_15 : decode prog_8_method_8_code 15 = .ok (.iconst 1, 1) := by decide +kernel
theorem d8_8_16 : decode prog_8_method_8_code 16 = .ok (.iadd, 1) := by decide +kernel
theorem d8_8_17 : decode prog_8_method_8_code 17 = .ok (.putfield 18, 3) := by decide +kernel
theorem d8_8_20 : decode prog_8_method_8_code 20 = .ok (.aload_n 3, 1) := by decide +kernel
theorem d8_8_21 : decode prog_8_method_8_code 21 = .ok (.iload_n 1, 1) := by decide +kernel
theorem d8_8_22 : decode prog_8_method_8_code 22 = .ok (.putfield 96, 3) := by decide +kernel
theorem kn145 : (Jvm.Cond.fieldLinkNest "PagedValues$Query" (96 : Nat) "PagedValues$Selector" "opens" "Z" "PagedValues") ∈ NW := tn_1 145 rfl rfl
theorem d8_8_25 : decode prog_8_method_8_code 25 = .ok (.aload_n 3, 1) := by decide +kernel
theorem d8_8_26 : decode prog_8_method_8_code 26 = .ok (.iload_n 2, 1) := by decide +kernel
theorem d8_8_27 : decode prog_8_method_8_code 27 = .ok (.putfield 100, 3) := by decide +kernel
theorem kn147 : (Jvm.Cond.fieldLinkNest "PagedValues$Query" (100 : Nat) "PagedValues$Selector" "deep" "Z" "PagedValues") ∈ NW := tn_1 147 rfl rfl
theorem d8_8_30 : decode prog_8_method_8_code 30 = .ok (.aload_n 3, 1) := by decide +kernel
theorem d8_8_31 : decode prog_8_method_8_code 31 = .ok (.areturn, 1) := by decide +kernel
def y8_8 : MethodName := { cls := "PagedValues$Query", name := "nextSelector", desc := "(ZZ)LPagedValues$Selector;" }
theorem k917 : (Jvm.Cond.code ({ cls := "PagedValues$Query", name := "nextSelector", desc := "(ZZ)LPagedValues$Selector;" } : Jvm.MethodName) prog_8_method_8_code (4 : Nat) (Option.some (Jvm.ClassFile.FieldType.object "PagedValues$Selector"))) ∈ TB := tk_4 197 rfl rfl
theorem k914 : (Jvm.Cond.methodLink "PagedValues$Query" (63 : Nat) ({ cls := "PagedValues$Query", name := "nextSelector", desc := "(ZZ)LPagedValues$Selector;" } : Jvm.MethodName)) ∈ TB := tk_4 194 rfl rfl
theorem k916 : (Jvm.Cond.instanceMethod ({ cls := "PagedValues$Query", name := "nextSelector", desc := "(ZZ)LPagedValues$Selector;" } : Jvm.MethodName)) ∈ TB := tk_4 196 rfl rfl
theorem ks24 : Cond.selects y8_8.cls y8_8 y8_8 ∈ TB := List.mem_filter.mpr ⟨List.mem_append_left _ (List.mem_of_getElem? (i := 24) (by decide +kernel)), rfl⟩
theorem d8_6_20 : decode prog_8_method_6_code 20 = .ok (.astore 4, 2) := by decide +kernel
theorem d8_6_22 : decode prog_8_method_6_code 22 = .ok (.aload_n 1, 1) := by decide +kernel
theorem d8_6_23 : decode prog_8_method_6_code 23 = .ok (.bipush 42, 2) := by decide +kernel
theorem d8_6_25 : decode prog_8_method_6_code 25 = .ok (.invokevirtual 42, 3) := by decide +kernel
theorem d8_6_28 : decode prog_8_method_6_code 28 = .ok (.ifCond .eq 12, 3) := by decide +kernel
theorem d8_6_40 : decode prog_8_method_6_code 40 = .ok (.aload_n 1, 1) := by decide +kernel
theorem d8_6_41 : decode prog_8_method_6_code 41 = .ok (.invokevirtual 45, 3) := by decide +kernel
theorem k905 : (Jvm.Cond.methodLink "PagedValues$Query" (45 : Nat) ({ cls := "PagedValues$Text", name := "ahead", desc := "()I" } : Jvm.MethodName)) ∈ TB := tk_4 185 rfl rfl
theorem d8_6_44 : decode prog_8_method_6_code 44 = .ok (.bipush 39, 2) := by decide +kernel
theorem d8_6_46 : decode prog_8_method_6_code 46 = .ok (.if_icmp .ne 24, 3) := by decide +kernel
theorem d8_6_70 : decode prog_8_method_6_code 70 = .ok (.aload 4, 2) := by decide +kernel
theorem d8_6_72 : decode prog_8_method_6_code 72 = .ok (.iconst 1, 1) := by decide +kernel
theorem d8_6_73 : decode prog_8_method_6_code 73 = .ok (.putfield 67, 3) := by decide +kernel
theorem kn148 : (Jvm.Cond.fieldLinkNest "PagedValues$Query" (67 : Nat) "PagedValues$Selector" "pick" "I" "PagedValues") ∈ NW := tn_1 148 rfl rfl
theorem d8_6_76 : decode prog_8_method_6_code 76 = .ok (.aload 4, 2) := by decide +kernel
theorem d8_6_78 : decode prog_8_method_6_code 78 = .ok (.aload_n 1, 1) := by decide +kernel
theorem d8_6_79 : decode prog_8_method_6_code 79 = .ok (.invokestatic 86, 3) := by decide +kernel
theorem d8_7_0 : decode prog_8_method_7_code 0 = .ok (.aload_n 0, 1) := by decide +kernel
theorem d8_7_1 : decode prog_8_method_7_code 1 = .ok (.bipush 45, 2) := by decide +kernel
theorem d8_7_3 : decode prog_8_method_7_code 3 = .ok (.invokevirtual 42, 3) := by decide +kernel
theorem d8_7_6 : decode prog_8_method_7_code 6 = .ok (.istore_n 1, 1) := by decide +kernel
theorem d8_7_7 : decode prog_8_method_7_code 7 = .ok (.iload_n 1, 1) := by decide +kernel
theorem d8_7_8 : decode prog_8_method_7_code 8 = .ok (.ifCond .eq 16, 3) := by decide +kernel
theorem d8_7_11 : decode prog_8_method_7_code 11 = .ok (.aload_n 0, 1) := by decide +kernel
theorem d8_7_12 : decode prog_8_method_7_code 12 = .ok (.invokevirtual 45, 3) := by decide +kernel
theorem d8_7_15 : decode prog_8_method_7_code 15 = .ok (.bipush 48, 2) := by decide +kernel
theorem d8_7_17 : decode prog_8_method_7_code 17 = .ok (.if_icmp .ne 7, 3) := by decide +kernel
theorem d8_7_20 : decode prog_8_method_7_code 20 = .ok (.aload_n 0, 1) := by decide +kernel
theorem d8_7_21 : decode prog_8_method_7_code 21 = .ok (.invokevirtual 60, 3) := by decide +kernel
theorem k913 : (Jvm.Cond.methodLink "PagedValues$Query" (60 : Nat) ({ cls := "PagedValues$Text", name := "fail", desc := "()V" } : Jvm.MethodName)) ∈ TB := tk_4 193 rfl rfl
theorem d8_7_24 : decode prog_8_method_7_code 24 = .ok (.aload_n 0, 1) := by decide +kernel
theorem d8_7_25 : decode prog_8_method_7_code 25 = .ok (.iconst 3, 1) := by decide +kernel
theorem d8_7_26 : decode prog_8_method_7_code 26 = .ok (.invokevirtual 92, 3) := by decide +kernel
theorem k938 : (Jvm.Cond.methodLink "PagedValues$Query" (92 : Nat) ({ cls := "PagedValues$Text", name := "digits", desc := "(I)I" } : Jvm.MethodName)) ∈ TB := tk_4 218 rfl rfl
theorem d8_7_29 : decode prog_8_method_7_code 29 = .ok (.istore_n 2, 1) := by decide +kernel
theorem d8_7_30 : decode prog_8_method_7_code 30 = .ok (.iload_n 1, 1) := by decide +kernel
theorem d8_7_31 : decode prog_8_method_7_code 31 = .ok (.ifCond .eq 8, 3) := by decide +kernel
theorem d8_7_39 : decode prog_8_method_7_code 39 = .ok (.iload_n 2, 1) := by decide +kernel
theorem d8_7_34 : decode prog_8_method_7_code 34 = .ok (.iload_n 2, 1) := by decide +kernel
theorem d8_7_35 : decode prog_8_method_7_code 35 = .ok (.ineg, 1) := by decide +kernel
theorem d8_7_36 : decode prog_8_method_7_code 36 = .ok (.goto 4, 3) := by decide +kernel
theorem d8_7_40 : decode prog_8_method_7_code 40 = .ok (.ireturn, 1) := by decide +kernel
def y8_7 : MethodName := { cls := "PagedValues$Query", name := "number", desc := "(LPagedValues$Text;)I" }
theorem k937 : (Jvm.Cond.code ({ cls := "PagedValues$Query", name := "number", desc := "(LPagedValues$Text;)I" } : Jvm.MethodName) prog_8_method_7_code (3 : Nat) (Option.some Jvm.ClassFile.FieldType.int)) ∈ TB := tk_4 217 rfl rfl
theorem k935 : (Jvm.Cond.methodLink "PagedValues$Query" (86 : Nat) ({ cls := "PagedValues$Query", name := "number", desc := "(LPagedValues$Text;)I" } : Jvm.MethodName)) ∈ TB := tk_4 215 rfl rfl
theorem k936 : (Jvm.Cond.static ({ cls := "PagedValues$Query", name := "number", desc := "(LPagedValues$Text;)I" } : Jvm.MethodName)) ∈ TB := tk_4 216 rfl rfl
theorem d8_6_82 : decode prog_8_method_6_code 82 = .ok (.putfield 90, 3) := by decide +kernel
theorem kn153 : (Jvm.Cond.fieldLinkNest "PagedValues$Query" (90 : Nat) "PagedValues$Selector" "number" "I" "PagedValues") ∈ NW := tn_1 153 rfl rfl
theorem d8_6_49 : decode prog_8_method_6_code 49 = .ok (.aload 4, 2) := by decide +kernel
theorem d8_6_51 : decode prog_8_method_6_code 51 = .ok (.iconst 0, 1) := by decide +kernel
theorem d8_6_52 : decode prog_8_method_6_code 52 = .ok (.putfield 67, 3) := by decide +kernel
theorem d8_6_55 : decode prog_8_method_6_code 55 = .ok (.aload 4, 2) := by decide +kernel
theorem d8_6_57 : decode prog_8_method_6_code 57 = .ok (.aload_n 1, 1) := by decide +kernel
theorem d8_6_58 : decode prog_8_method_6_code 58 = .ok (.bipush 39, 2) := by decide +kernel
theorem d8_6_60 : decode prog_8_method_6_code 60 = .ok (.iconst 0, 1) := by decide +kernel
theorem d8_6_61 : decode prog_8_method_6_code 61 = .ok (.invokevirtual 82, 3) := by decide +kernel
theorem k934 : (Jvm.Cond.methodLink "PagedValues$Query" (82 : Nat) ({ cls := "PagedValues$Text", name := "quoted", desc := "(CZ)Ljava/lang/String;" } : Jvm.MethodName)) ∈ TB := tk_4 214 rfl rfl
theorem d8_6_64 : decode prog_8_method_6_code 64 = .ok (.putfield 74, 3) := by decide +kernel
theorem kn151 : (Jvm.Cond.fieldLinkNest "PagedValues$Query" (74 : Nat) "PagedValues$Selector" "name" "Ljava/lang/String;" "PagedValues") ∈ NW := tn_1 151 rfl rfl
theorem d8_6_67 : decode prog_8_method_6_code 67 = .ok (.goto 18, 3) := by decide +kernel
theorem d8_6_31 : decode prog_8_method_6_code 31 = .ok (.aload 4, 2) := by decide +kernel
theorem d8_6_33 : decode prog_8_method_6_code 33 = .ok (.iconst 2, 1) := by decide +kernel
theorem d8_6_34 : decode prog_8_method_6_code 34 = .ok (.putfield 67, 3) := by decide +kernel
theorem d8_6_37 : decode prog_8_method_6_code 37 = .ok (.goto 48, 3) := by decide +kernel
theorem d8_6_85 : decode prog_8_method_6_code 85 = .ok (.return_, 1) := by decide +kernel
theorem d8_6_9 : decode prog_8_method_6_code 9 = .ok (.aload_n 1, 1) := by decide +kernel
theorem d8_6_10 : decode prog_8_method_6_code 10 = .ok (.invokevirtual 60, 3) := by decide +kernel
theorem d8_6_13 : decode prog_8_method_6_code 13 = .ok (.return_, 1) := by decide +kernel
def y8_6 : MethodName := { cls := "PagedValues$Query", name := "bracketSelector", desc := "(LPagedValues$Text;ZZ)V" }
theorem k933 : (Jvm.Cond.code ({ cls := "PagedValues$Query", name := "bracketSelector", desc := "(LPagedValues$Text;ZZ)V" } : Jvm.MethodName) prog_8_method_6_code (5 : Nat) (Option.none : Option Jvm.ClassFile.FieldType)) ∈ TB := tk_4 213 rfl rfl
theorem k930 : (Jvm.Cond.methodLink "PagedValues$Query" (78 : Nat) ({ cls := "PagedValues$Query", name := "bracketSelector", desc := "(LPagedValues$Text;ZZ)V" } : Jvm.MethodName)) ∈ TB := tk_4 210 rfl rfl
theorem k932 : (Jvm.Cond.instanceMethod ({ cls := "PagedValues$Query", name := "bracketSelector", desc := "(LPagedValues$Text;ZZ)V" } : Jvm.MethodName)) ∈ TB := tk_4 212 rfl rfl
theorem ks26 : Cond.selects y8_6.cls y8_6 y8_6 ∈ TB := List.mem_filter.mpr ⟨List.mem_append_left _ (List.mem_of_getElem? (i := 26) (by decide +kernel)), rfl⟩
theorem d8_5_37 : decode prog_8_method_5_code 37 = .ok (.aload_n 1, 1) := by decide +kernel
theorem d8_5_38 : decode prog_8_method_5_code 38 = .ok (.invokevirtual 31, 3) := by decide +kernel
theorem d8_5_41 : decode prog_8_method_5_code 41 = .ok (.ifCond .eq 12, 3) := by decide +kernel
theorem d8_5_53 : decode prog_8_method_5_code 53 = .ok (.return_, 1) := by decide +kernel
theorem d8_5_44 : decode prog_8_method_5_code 44 = .ok (.aload_n 1, 1) := by decide +kernel
theorem d8_5_45 : decode prog_8_method_5_code 45 = .ok (.bipush 93, 2) := by decide +kernel
theorem d8_5_47 : decode prog_8_method_5_code 47 = .ok (.invokevirtual 42, 3) := by decide +kernel
theorem d8_5_50 : decode prog_8_method_5_code 50 = .ok (.ifCond .eq 4, 3) := by decide +kernel
theorem d8_5_54 : decode prog_8_method_5_code 54 = .ok (.aload_n 1, 1) := by decide +kernel
theorem d8_5_55 : decode prog_8_method_5_code 55 = .ok (.bipush 44, 2) := by decide +kernel
theorem d8_5_57 : decode prog_8_method_5_code 57 = .ok (.invokevirtual 27, 3) := by decide +kernel
theorem d8_5_60 : decode prog_8_method_5_code 60 = .ok (.pop, 1) := by decide +kernel
theorem d8_5_61 : decode prog_8_method_5_code 61 = .ok (.iinc 3 1, 3) := by decide +kernel
theorem d8_5_64 : decode prog_8_method_5_code 64 = .ok (.goto (-55), 3) := by decide +kernel
