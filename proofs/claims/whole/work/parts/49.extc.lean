def c_Finder_select_l1 (Zd : Nat → Nat) (K : KE) (o : Nat) : Nat → (Option Nat × CS) → Option (Option Nat × CS)
  | 0, _ => none
  | n9 + 1, e9 => nl e9.1 (some (e9.1, e9.2)) (fun a25z => (isO K e9.2 o 8).bind fun _ => (c_Finder_take Zd K o e9.1 e9.2).bind fun st27 => (gQ K st27 a25z 11 5).bind fun x29 => c_Finder_select_l1 Zd K o n9 (x29, st27))
theorem c_Finder_select_l1_s (Zd : Nat → Nat) (K : KE) (o : Nat) (n9 : Nat) (e9 : Option Nat × CS) : c_Finder_select_l1 Zd K o (n9 + 1) e9 = (nl e9.1 (some (e9.1, e9.2)) (fun a25z => (isO K e9.2 o 8).bind fun _ => (c_Finder_take Zd K o e9.1 e9.2).bind fun st27 => (gQ K st27 a25z 11 5).bind fun x29 => c_Finder_select_l1 Zd K o n9 (x29, st27))) := rfl
def c_Finder_select (Zd : Nat → Nat) (K : KE) (o : Nat) (a0 : Option Nat) (a1 : Option Nat) (st : CS) : Option (CS) := a0.bind fun a11z => (gI K st a11z 7 2).bind fun x12 => (if x12 = (0 : Int32) then ((gQ K st a11z 7 3).bind fun x46 => a1.bind fun a47z => (isO K st a47z 11).bind fun _ => (c_Value_member Zd K a47z x46 st).bind fun x48 => (isO K st o 8).bind fun _ => (c_Finder_take Zd K o x48 st).bind fun st52 => some st52) else ((gI K st a11z 7 2).bind fun x16 => if x16 = (1 : Int32) then ((gI K st a11z 7 4).bind fun x30 => (if (0 : Int32) ≤ x30 then (some x30) else (a1.bind fun a41z => (isO K st a41z 11).bind fun _ => (c_Value_partCount Zd K a41z st).bind fun x42 => (some (x30 + x42)).bind fun y45 => some y45)).bind fun e31 => a1.bind fun a33z => (isO K st a33z 11).bind fun _ => (c_Value_element Zd K a33z e31 st).bind fun x34 => (isO K st o 8).bind fun _ => (c_Finder_take Zd K o x34 st).bind fun st38 => some st38) else (a1.bind fun a18z => (gQ K st a18z 11 4).bind fun x19 => (c_Finder_select_l1 Zd K o 4096 (x19, st)).bind fun e20 => some e20.2))).bind fun e13 => some e13
set_option maxHeartbeats 4000000 in
set_option maxRecDepth 100000 in
theorem cc_Finder_select (l : Launch) (G : Gk) (Zd : Nat → Nat) (K : KE) (o : Nat) (a0 : Option Nat) (a1 : Option Nat) (st : CS) (st0 : CS) (hm : c_Finder_select Zd K o a0 a1 st = some st0) : CT l y3_10 prog_3_method_10_code 4 none G Zd K (3) [.ref o, va_rf a0, va_rf a1] st (hV G Zd st0) := by
  refine goH (d := 3) (y := y3_10) (cc := prog_3_method_10_code) (maxL := 4) (ret := none) (av := [.ref o, va_rf a0, va_rf a1]) (Qc := hV G Zd st0) "PagedValues$Finder" rfl (by decide) (c1_c rfl (c1_c (rf_cat _) (c1_c (rf_cat _) c1_n))) (Nat.le_of_ble_eq_true rfl) ?_
  intro p e s m below meth c ls A args Q hQ hx hb hr hlk hml hown hts hin hl hE hw
  have hl : lw ls 4 [(0, .ref o), (1, va_rf a0), (2, va_rf a1)] := hl
  have hZ := hE.2.2.1
  have h := hm
  clear hm
  refine xq_aload_n (r := a0) hx hb d3_10_0 rfl (lv_at hl.1 1 rfl) ?_
  obtain ⟨a11z, hn11, h⟩ := ob h
  have hn11 : a0 = some a11z := hn11
  refine W.eq (g2 := F0 m 1 ls [.ref a11z]) (by rw [hn11]; rfl) ?_
  obtain ⟨x12, hr, h⟩ := ob h
  refine xgN_i (ci := 7) (C := r_7) (T := f_7) (N := 5) (ref := "PagedValues$Selector") hx hb hts (fun w h => List.mem_cons_of_mem _ (ly_7 w h)) hown hE hw rfl 2 (by decide) (va_Nw.use rfl (hZ.1.1 _ kn149)) (fun _ h9 => h9) hr d3_10_1 ?_
  clear hr
  obtain ⟨e13, hX, h⟩ := ob h
  have hj : ∀ (H : Heap) (locs : List Loc) (cells slots : Nat) (ls : Array Slot), lw ls 4 [(0, .ref o), (1, va_rf a0), (2, va_rf a1)] → wsH G Zd A s e13 H locs → W p l e (rmH Zd (3) st.1) s m args below meth c H locs cells slots Q (F0 m 82 ls []) := by
    intro H locs cells slots ls hl hw
    cases h
    exact finH_v hQ hx hb hr hlk hE hw d3_10_82
  clear h
  refine lv_if_ne (tgt := 22) hx hb d3_10_4 rfl (fun c15 => ?_) (fun c15 => ?_)
  ·
    replace h := (if_neg c15).symm.trans hX
    refine xq_aload_n (r := a0) hx hb d3_10_22 rfl (lv_at hl.1 1 rfl) ?_
    refine W.eq (g2 := F0 m 23 ls [.ref a11z]) (by rw [hn11]; rfl) ?_
    obtain ⟨x16, hr, h⟩ := ob h
    refine xgN_i (ci := 7) (C := r_7) (T := f_7) (N := 5) (ref := "PagedValues$Selector") hx hb hts (fun w h => List.mem_cons_of_mem _ (ly_7 w h)) hown hE hw rfl 2 (by decide) (va_Nw.use rfl (hZ.1.1 _ kn149)) (fun _ h9 => h9) hr d3_10_23 ?_
    clear hr
    refine lv_iconst (v := 1) hx hb d3_10_26 (by decide) ?_
    refine lv_icmp_ne (tgt := 60) hx hb d3_10_27 rfl (fun c17 => ?_) (fun c17 => ?_)
    ·
      replace h := (if_neg c17).symm.trans h
      refine xq_aload_n (r := a1) hx hb d3_10_60 rfl (lv_at hl.1 2 rfl) ?_
      obtain ⟨a18z, hn18, h⟩ := ob h
      have hn18 : a1 = some a18z := hn18
      refine W.eq (g2 := F0 m 61 ls [.ref a18z]) (by rw [hn18]; rfl) ?_
      obtain ⟨x19, hr, h⟩ := ob h
      refine xgN_q (ci := 11) (C := r_11) (T := f_11) (N := 6) (ref := "PagedValues$Value") hx hb hts (fun w h => List.mem_cons_of_mem _ (ly_11 w h)) hown hE hw rfl 4 (by decide) (va_Nw.use rfl (hZ.1.1 _ kn360)) (fun _ h9 => h9) hr d3_10_61 ?_
      clear hr
      refine xt_astore_n (r := x19) (lv' := [(3, va_rf x19), (0, .ref o), (1, va_rf a0), (2, va_rf a1)]) hx hb d3_10_64 rfl hl (by decide) rfl (fun ls hl => ?_)
      obtain ⟨e20, hX, hrest⟩ := ob h
      clear h
      have hj : ∀ (v23 : Option Nat) (v24 : CS), e20 = (v23, v24) → ∀ (H : Heap) (locs : List Loc) (cells slots : Nat) (ls : Array Slot), lw ls 4 [(0, .ref o), (1, va_rf a0), (2, va_rf a1), (3, va_rf v23)] → wsH G Zd A s v24 H locs → W p l e (rmH Zd (3) st.1) s m args below meth c H locs cells slots Q (F0 m 82 ls []) := by
        intro v23 v24 he H locs cells slots ls hl hw
        subst e20
        have h := hrest
        clear hrest
        have e9 := Option.some.inj h
        subst e13
        have hl := lw_sub hl (l' := [(0, .ref o), (1, va_rf a0), (2, va_rf a1)]) [0, 1, 2] rfl
        exact hj _ _ _ _ _ hl hw
      have hloop : ∀ (n9 : Nat) (v21 : Option Nat) (v22 : CS), c_Finder_select_l1 Zd K o n9 (v21, v22) = some e20 → ∀ (H : Heap) (locs : List Loc) (cells slots : Nat) (ls : Array Slot), lw ls 4 [(0, .ref o), (1, va_rf a0), (2, va_rf a1), (3, va_rf v21)] → wsH G Zd A s v22 H locs → W p l e (rmH Zd (3) st.1) s m args below meth c H locs cells slots Q (F0 m 65 ls []) := by
        intro n9
        induction n9 with
        | zero =>
          intro v21 v22 h
          cases h
        | succ n9 ih =>
          intro v21 v22 h H locs cells slots ls hl hw
          replace h := (c_Finder_select_l1_s Zd K o n9 (v21, v22)).symm.trans h
          refine xq_aload_n (r := v21) hx hb d3_10_65 rfl (lv_at hl.1 3 rfl) ?_
          rcases nl_case h with ⟨hn25, h⟩ | ⟨a25z, hn25, h⟩
          ·
            have hn25 : v21 = none := hn25
            refine W.eq (g2 := F0 m 66 ls [.null]) (by rw [hn25]; rfl) ?_
            refine lv_ifnullN (tgt := 82) hx hb d3_10_66 rfl ?_
            have e9 := Option.some.inj h
            subst e20
            have hl := lw_sub hl (l' := [(0, .ref o), (1, va_rf a0), (2, va_rf a1), (3, va_rf v21)]) [0, 1, 2, 3] rfl
            exact hj _ _ rfl _ _ _ _ _ hl hw
          ·
            have hn25 : v21 = some a25z := hn25
            refine W.eq (g2 := F0 m 66 ls [.ref a25z]) (by rw [hn25]; rfl) ?_
            refine lv_ifnull hx hb d3_10_66 ?_
            refine lv_aload_n hx hb d3_10_69 rfl (lv_at hl.1 0 rfl) ?_
            refine xq_aload_n (r := v21) hx hb d3_10_70 rfl (lv_at hl.1 3 rfl) ?_
            obtain ⟨u9, ho, h⟩ := ob h
            obtain ⟨st27, hc, h⟩ := ob h
            refine hV_v (ci := 8) (As := [va_rf v21]) (rest := []) ⟨hx, hb, hml, hown, hts⟩ (cc_Finder_take l G Zd K o v21 v22 st27 hc) (kw_V (n := 1) hts k968 k965 k12 k967 ks30 (by decide +kernel) ⟨Nat.le_of_ble_eq_true rfl, Nat.le_of_ble_eq_true rfl⟩) hE hw rfl rfl ho rfl hl.1.1 rfl (c1_8 c1_n (Nat.le_of_ble_eq_true rfl)) d3_10_71 (fun H locs cells slots hw => ?_)
            clear hc ho u9
            refine W.eq (g2 := F0 m 74 ls []) rfl ?_
            refine xq_aload_n (r := v21) hx hb d3_10_74 rfl (lv_at hl.1 3 rfl) ?_
            refine W.eq (g2 := F0 m 75 ls [.ref a25z]) (by rw [hn25]; rfl) ?_
            obtain ⟨x29, hr, h⟩ := ob h
            refine xgN_q (ci := 11) (C := r_11) (T := f_11) (N := 6) (ref := "PagedValues$Value") hx hb hts (fun w h => List.mem_cons_of_mem _ (ly_11 w h)) hown hE hw rfl 5 (by decide) (va_Nw.use rfl (hZ.1.1 _ kn363)) (fun _ h9 => h9) hr d3_10_75 ?_
            clear hr
            refine xt_astore_n (r := x29) (lv' := [(3, va_rf x29), (0, .ref o), (1, va_rf a0), (2, va_rf a1)]) hx hb d3_10_78 rfl hl (by decide) rfl (fun ls hl => ?_)
            refine lv_goto (tgt := 65) hx hb d3_10_79 rfl ?_
            have hl := lw_sub hl (l' := [(0, .ref o), (1, va_rf a0), (2, va_rf a1), (3, va_rf x29)]) [1, 2, 3, 0] rfl
            exact ih _ _ h _ _ _ _ _ hl hw
      have hl := lw_sub hl (l' := [(0, .ref o), (1, va_rf a0), (2, va_rf a1), (3, va_rf x19)]) [1, 2, 3, 0] rfl
      exact hloop _ _ _ hX _ _ _ _ _ hl hw
    ·
      replace h := (if_pos c17).symm.trans h
      refine xq_aload_n (r := a0) hx hb d3_10_30 rfl (lv_at hl.1 1 rfl) ?_
      refine W.eq (g2 := F0 m 31 ls [.ref a11z]) (by rw [hn11]; rfl) ?_
      obtain ⟨x30, hr, h⟩ := ob h
      refine xgN_i (ci := 7) (C := r_7) (T := f_7) (N := 5) (ref := "PagedValues$Selector") hx hb hts (fun w h => List.mem_cons_of_mem _ (ly_7 w h)) hown hE hw rfl 4 (by decide) (va_Nw.use rfl (hZ.1.1 _ kn154)) (fun _ h9 => h9) hr d3_10_31 ?_
      clear hr
      refine xt_istore_n (x := x30) (lv' := [(3, .int x30), (0, .ref o), (1, va_rf a0), (2, va_rf a1)]) hx hb d3_10_34 rfl hl (by decide) rfl (fun ls hl => ?_)
      refine lv_aload_n hx hb d3_10_35 rfl (lv_at hl.1 1 rfl) ?_
      refine xq_aload_n (r := a1) hx hb d3_10_36 rfl (lv_at hl.1 3 rfl) ?_
      refine lv_iload_n hx hb d3_10_37 rfl (lv_at hl.1 0 rfl) ?_
      obtain ⟨e31, hX, h⟩ := ob h
      have hj : ∀ (H : Heap) (locs : List Loc) (cells slots : Nat) (ls : Array Slot), lw ls 4 [(0, .ref o), (1, va_rf a0), (2, va_rf a1), (3, .int x30)] → wsH G Zd A s st H locs → W p l e (rmH Zd (3) st.1) s m args below meth c H locs cells slots Q (F0 m 51 ls [.int e31, va_rf a1, .ref o]) := by
        intro H locs cells slots ls hl hw
        obtain ⟨a33z, hn33, h⟩ := ob h
        have hn33 : a1 = some a33z := hn33
        refine W.eq (g2 := F0 m 51 ls [.int e31, .ref a33z, .ref o]) (by rw [hn33]; rfl) ?_
        obtain ⟨u9, ho, h⟩ := ob h
        obtain ⟨x34, hc, h⟩ := ob h
        refine hV_q (ci := 11) (As := [.int e31]) (rest := [.ref o]) ⟨hx, hb, hml, hown, hts⟩ (cc_Value_element l G Zd K a33z e31 st x34 hc) (kw_V (n := 1) hts k826 k970 k18 k824 k825 (by decide +kernel) ⟨Nat.le_of_ble_eq_true rfl, Nat.le_of_ble_eq_true rfl⟩) hE hw rfl rfl ho rfl hl.1.1 rfl (c1_8 (c1_c rfl c1_n) (Nat.le_of_ble_eq_true rfl)) d3_10_51 (fun H locs cells slots hw => ?_)
        clear hc ho u9
        refine W.eq (g2 := F0 m 54 ls [va_rf x34, .ref o]) rfl ?_
        obtain ⟨u9, ho, h⟩ := ob h
        obtain ⟨st38, hc, h⟩ := ob h
        refine hV_v (ci := 8) (As := [va_rf x34]) (rest := []) ⟨hx, hb, hml, hown, hts⟩ (cc_Finder_take l G Zd K o x34 st st38 hc) (kw_V (n := 1) hts k968 k965 k12 k967 ks30 (by decide +kernel) ⟨Nat.le_of_ble_eq_true rfl, Nat.le_of_ble_eq_true rfl⟩) hE hw rfl rfl ho rfl hl.1.1 rfl (c1_8 c1_n (Nat.le_of_ble_eq_true rfl)) d3_10_54 (fun H locs cells slots hw => ?_)
        clear hc ho u9
        refine W.eq (g2 := F0 m 57 ls []) rfl ?_
        refine lv_goto (tgt := 82) hx hb d3_10_57 rfl ?_
        have e9 := Option.some.inj h
        subst e13
        have hl := lw_sub hl (l' := [(0, .ref o), (1, va_rf a0), (2, va_rf a1)]) [0, 1, 2] rfl
        exact hj _ _ _ _ _ hl hw
      clear h
      refine lv_if_ge (tgt := 50) hx hb d3_10_38 rfl (fun c40 => ?_) (fun c40 => ?_)
      ·
        replace h := (if_pos c40).symm.trans hX
        refine lv_iload_n hx hb d3_10_50 rfl (lv_at hl.1 0 rfl) ?_
        have e9 := Option.some.inj h
        subst e31
        have hl := lw_sub hl (l' := [(0, .ref o), (1, va_rf a0), (2, va_rf a1), (3, .int x30)]) [1, 2, 3, 0] rfl
        exact hj _ _ _ _ _ hl hw
      ·
        replace h := (if_neg c40).symm.trans hX
        refine lv_iload_n hx hb d3_10_41 rfl (lv_at hl.1 0 rfl) ?_
        refine xq_aload_n (r := a1) hx hb d3_10_42 rfl (lv_at hl.1 3 rfl) ?_
        obtain ⟨a41z, hn41, h⟩ := ob h
        have hn41 : a1 = some a41z := hn41
        refine W.eq (g2 := F0 m 43 ls [.ref a41z, .int x30, va_rf a1, .ref o]) (by rw [hn41]; rfl) ?_
        obtain ⟨u9, ho, h⟩ := ob h
        obtain ⟨x42, hc, h⟩ := ob h
        refine hV_i (ci := 11) (As := []) (rest := [.int x30, va_rf a1, .ref o]) ⟨hx, hb, hml, hown, hts⟩ (cc_Value_partCount l G Zd K a41z st x42 hc) (kw_V (n := 0) hts k606 k969 k18 k604 k605 (by decide +kernel) ⟨Nat.le_of_ble_eq_true rfl, Nat.le_of_ble_eq_true rfl⟩) hE hw rfl rfl ho rfl hl.1.1 rfl (c1_8 (c1_c rfl (c1_c (rf_cat _) (c1_c rfl c1_n))) (Nat.le_of_ble_eq_true rfl)) d3_10_43 (fun H locs cells slots hw => ?_)
        clear hc ho u9
        refine W.eq (g2 := F0 m 46 ls [.int x42, .int x30, va_rf a1, .ref o]) rfl ?_
        refine lv_iadd hx hb d3_10_46 ?_
        obtain ⟨y45, hr, h⟩ := ob h
        refine lv_topi (fun y9 ey => ?_)
        have e9 := ey.trans (Option.some.inj hr)
        clear ey
        subst y9
        clear hr
        refine lv_goto (tgt := 51) hx hb d3_10_47 rfl ?_
        have e9 := Option.some.inj h
        subst e31
        have hl := lw_sub hl (l' := [(0, .ref o), (1, va_rf a0), (2, va_rf a1), (3, .int x30)]) [1, 2, 3, 0] rfl
        exact hj _ _ _ _ _ hl hw
  ·
    replace h := (if_pos c15).symm.trans hX
    refine lv_aload_n hx hb d3_10_7 rfl (lv_at hl.1 0 rfl) ?_
    refine xq_aload_n (r := a1) hx hb d3_10_8 rfl (lv_at hl.1 2 rfl) ?_
    refine xq_aload_n (r := a0) hx hb d3_10_9 rfl (lv_at hl.1 1 rfl) ?_
    refine W.eq (g2 := F0 m 10 ls [.ref a11z, va_rf a1, .ref o]) (by rw [hn11]; rfl) ?_
    obtain ⟨x46, hr, h⟩ := ob h
    refine xgN_q (ci := 7) (C := r_7) (T := f_7) (N := 5) (ref := "PagedValues$Selector") hx hb hts (fun w h => List.mem_cons_of_mem _ (ly_7 w h)) hown hE hw rfl 3 (by decide) (va_Nw.use rfl (hZ.1.1 _ kn152)) (fun _ h9 => h9) hr d3_10_10 ?_
    clear hr
    obtain ⟨a47z, hn47, h⟩ := ob h
    have hn47 : a1 = some a47z := hn47
    refine W.eq (g2 := F0 m 13 ls [va_rf x46, .ref a47z, .ref o]) (by rw [hn47]; rfl) ?_
    obtain ⟨u9, ho, h⟩ := ob h
    obtain ⟨x48, hc, h⟩ := ob h
    refine hV_q (ci := 11) (As := [va_rf x46]) (rest := [.ref o]) ⟨hx, hb, hml, hown, hts⟩ (cc_Value_member l G Zd K a47z x46 st x48 hc) (kw_V (n := 1) hts k584 k964 k18 k582 k583 (by decide +kernel) ⟨Nat.le_of_ble_eq_true rfl, Nat.le_of_ble_eq_true rfl⟩) hE hw rfl rfl ho rfl hl.1.1 rfl (c1_8 (c1_c rfl c1_n) (Nat.le_of_ble_eq_true rfl)) d3_10_13 (fun H locs cells slots hw => ?_)
    clear hc ho u9
    refine W.eq (g2 := F0 m 16 ls [va_rf x48, .ref o]) rfl ?_
    obtain ⟨u9, ho, h⟩ := ob h
    obtain ⟨st52, hc, h⟩ := ob h
    refine hV_v (ci := 8) (As := [va_rf x48]) (rest := []) ⟨hx, hb, hml, hown, hts⟩ (cc_Finder_take l G Zd K o x48 st st52 hc) (kw_V (n := 1) hts k968 k965 k12 k967 ks30 (by decide +kernel) ⟨Nat.le_of_ble_eq_true rfl, Nat.le_of_ble_eq_true rfl⟩) hE hw rfl rfl ho rfl hl.1.1 rfl (c1_8 c1_n (Nat.le_of_ble_eq_true rfl)) d3_10_16 (fun H locs cells slots hw => ?_)
    clear hc ho u9
    refine W.eq (g2 := F0 m 19 ls []) rfl ?_
    refine lv_goto (tgt := 82) hx hb d3_10_19 rfl ?_
    have e9 := Option.some.inj h
    subst e13
    have hl := lw_sub hl (l' := [(0, .ref o), (1, va_rf a0), (2, va_rf a1)]) [0, 1, 2] rfl
    exact hj _ _ _ _ _ hl hw
def c_Finder_visit_l1 (Zd : Nat → Nat) (K : KE) (o : Nat) (a0 : Option Nat) (a2 : Int32) (a3 : Option Nat) : Nat → (Int32 × CS) → Option (Int32 × CS)
  | 0, _ => none
  | n9 + 1, e9 => if a2 ≤ e9.1 then (some (e9.1, e9.2)) else (a0.bind fun a17z => (gQ K e9.2 a17z 6 0).bind fun x18 => x18.bind fun a19z => (rQ K e9.2 a19z 7 e9.1).bind fun x20 => (isO K e9.2 o 8).bind fun _ => (c_Finder_select Zd K o x20 a3 e9.2).bind fun st22 => (some (e9.1 + 1)).bind fun y24 => c_Finder_visit_l1 Zd K o a0 a2 a3 n9 (y24, st22))
theorem c_Finder_visit_l1_s (Zd : Nat → Nat) (K : KE) (o : Nat) (a0 : Option Nat) (a2 : Int32) (a3 : Option Nat) (n9 : Nat) (e9 : Int32 × CS) : c_Finder_visit_l1 Zd K o a0 a2 a3 (n9 + 1) e9 = (if a2 ≤ e9.1 then (some (e9.1, e9.2)) else (a0.bind fun a17z => (gQ K e9.2 a17z 6 0).bind fun x18 => x18.bind fun a19z => (rQ K e9.2 a19z 7 e9.1).bind fun x20 => (isO K e9.2 o 8).bind fun _ => (c_Finder_select Zd K o x20 a3 e9.2).bind fun st22 => (some (e9.1 + 1)).bind fun y24 => c_Finder_visit_l1 Zd K o a0 a2 a3 n9 (y24, st22))) := rfl
def c_Finder_visit (Zd : Nat → Nat) (K : KE) (o : Nat) (a0 : Option Nat) (a1 : Int32) (a2 : Int32) (a3 : Option Nat) (st : CS) : Option (CS) := (c_Finder_visit_l1 Zd K o a0 a2 a3 4096 (a1, st)).bind fun e11 => some e11.2
set_option maxHeartbeats 4000000 in
set_option maxRecDepth 100000 in
theorem cc_Finder_visit (l : Launch) (G : Gk) (Zd : Nat → Nat) (K : KE) (o : Nat) (a0 : Option Nat) (a1 : Int32) (a2 : Int32) (a3 : Option Nat) (st : CS) (st0 : CS) (hm : c_Finder_visit Zd K o a0 a1 a2 a3 st = some st0) : CT l y3_8 prog_3_method_8_code 6 none G Zd K (4) [.ref o, va_rf a0, .int a1, .int a2, va_rf a3] st (hV G Zd st0) := by
  refine goH (d := 4) (y := y3_8) (cc := prog_3_method_8_code) (maxL := 6) (ret := none) (av := [.ref o, va_rf a0, .int a1, .int a2, va_rf a3]) (Qc := hV G Zd st0) "PagedValues$Finder" rfl (by decide) (c1_c rfl (c1_c (rf_cat _) (c1_c rfl (c1_c rfl (c1_c (rf_cat _) c1_n))))) (Nat.le_of_ble_eq_true rfl) ?_
  intro p e s m below meth c ls A args Q hQ hx hb hr hlk hml hown hts hin hl hE hw
  have hl : lw ls 6 [(0, .ref o), (1, va_rf a0), (2, .int a1), (3, .int a2), (4, va_rf a3)] := hl
  have hZ := hE.2.2.1
  have h := hm
  clear hm
  refine lv_iload_n hx hb d3_8_0 rfl (lv_at hl.1 2 rfl) ?_
  refine xt_istore (x := a1) (lv' := [(5, .int a1), (0, .ref o), (1, va_rf a0), (2, .int a1), (3, .int a2), (4, va_rf a3)]) hx hb d3_8_1 hl (by decide) rfl (fun ls hl => ?_)
  obtain ⟨e11, hX, hrest⟩ := ob h
  clear h
  have hj : ∀ (v14 : Int32) (v15 : CS), e11 = (v14, v15) → ∀ (H : Heap) (locs : List Loc) (cells slots : Nat) (ls : Array Slot), lw ls 6 [(0, .ref o), (1, va_rf a0), (2, .int a1), (3, .int a2), (4, va_rf a3), (5, .int v14)] → wsH G Zd A s v15 H locs → W p l e (rmH Zd (4) st.1) s m args below meth c H locs cells slots Q (F0 m 28 ls []) := by
    intro v14 v15 he H locs cells slots ls hl hw
    subst e11
    have h := hrest
    clear hrest
    cases h
    exact finH_v hQ hx hb hr hlk hE hw d3_8_28
  have hloop : ∀ (n9 : Nat) (v12 : Int32) (v13 : CS), c_Finder_visit_l1 Zd K o a0 a2 a3 n9 (v12, v13) = some e11 → ∀ (H : Heap) (locs : List Loc) (cells slots : Nat) (ls : Array Slot), lw ls 6 [(0, .ref o), (1, va_rf a0), (2, .int a1), (3, .int a2), (4, va_rf a3), (5, .int v12)] → wsH G Zd A s v13 H locs → W p l e (rmH Zd (4) st.1) s m args below meth c H locs cells slots Q (F0 m 3 ls []) := by
    intro n9
    induction n9 with
    | zero =>
      intro v12 v13 h
      cases h
    | succ n9 ih =>
      intro v12 v13 h H locs cells slots ls hl hw
      replace h := (c_Finder_visit_l1_s Zd K o a0 a2 a3 n9 (v12, v13)).symm.trans h
      refine lv_iload hx hb d3_8_3 (lv_at hl.1 5 rfl) ?_
      refine lv_iload_n hx hb d3_8_5 rfl (lv_at hl.1 3 rfl) ?_
      refine lv_icmp_ge (tgt := 28) hx hb d3_8_6 rfl (fun c16 => ?_) (fun c16 => ?_)
      ·
        replace h := (if_pos c16).symm.trans h
        have e9 := Option.some.inj h
        subst e11
        have hl := lw_sub hl (l' := [(0, .ref o), (1, va_rf a0), (2, .int a1), (3, .int a2), (4, va_rf a3), (5, .int v12)]) [0, 1, 2, 3, 4, 5] rfl
        exact hj _ _ rfl _ _ _ _ _ hl hw
      ·
        replace h := (if_neg c16).symm.trans h
        refine lv_aload_n hx hb d3_8_9 rfl (lv_at hl.1 0 rfl) ?_
        refine xq_aload_n (r := a0) hx hb d3_8_10 rfl (lv_at hl.1 1 rfl) ?_
        obtain ⟨a17z, hn17, h⟩ := ob h
        have hn17 : a0 = some a17z := hn17
        refine W.eq (g2 := F0 m 11 ls [.ref a17z, .ref o]) (by rw [hn17]; rfl) ?_
        obtain ⟨x18, hr, h⟩ := ob h
        refine xgN_q (ci := 6) (C := r_6) (T := f_6) (N := 2) (ref := "PagedValues$Query") hx hb hts (fun w h => List.mem_cons_of_mem _ (ly_6 w h)) hown hE hw rfl 0 (by decide) (va_Nw.use rfl (hZ.1.1 _ kn167)) (fun _ h9 => h9) hr d3_8_11 ?_
        clear hr
        refine lv_iload hx hb d3_8_14 (lv_at hl.1 5 rfl) ?_
        obtain ⟨a19z, hn19, h⟩ := ob h
        have hn19 : x18 = some a19z := hn19
        refine W.eq (g2 := F0 m 16 ls [.int v12, .ref a19z, .ref o]) (by rw [hn19]; rfl) ?_
        obtain ⟨x20, hr, h⟩ := ob h
        refine xa_q hx hb hE hw (t := 7) rfl (i := v12) hr d3_8_16 ?_
        clear hr
        refine xq_aload (r := a3) hx hb d3_8_17 (lv_at hl.1 4 rfl) ?_
        obtain ⟨u9, ho, h⟩ := ob h
        obtain ⟨st22, hc, h⟩ := ob h
        refine hV_v (ci := 8) (As := [va_rf x20, va_rf a3]) (rest := []) ⟨hx, hb, hml, hown, hts⟩ (cc_Finder_select l G Zd K o x20 a3 v13 st22 hc) (kw_V (n := 2) hts k963 k960 k12 k962 ks29 (by decide +kernel) ⟨Nat.le_of_ble_eq_true rfl, Nat.le_of_ble_eq_true rfl⟩) hE hw rfl rfl ho rfl hl.1.1 rfl (c1_8 c1_n (Nat.le_of_ble_eq_true rfl)) d3_8_19 (fun H locs cells slots hw => ?_)
        clear hc ho u9
        refine W.eq (g2 := F0 m 22 ls []) rfl ?_
        obtain ⟨y24, hr, h⟩ := ob h
        refine xt_iinc (k := 5) (v := y24) (lv' := [(5, .int y24), (0, .ref o), (1, va_rf a0), (2, .int a1), (3, .int a2), (4, va_rf a3)]) hx hb d3_8_22 hl rfl hr (by decide) rfl (fun ls hl => ?_)
        clear hr
        refine lv_goto (tgt := 3) hx hb d3_8_25 rfl ?_
        have hl := lw_sub hl (l' := [(0, .ref o), (1, va_rf a0), (2, .int a1), (3, .int a2), (4, va_rf a3), (5, .int y24)]) [1, 2, 3, 4, 5, 0] rfl
        exact ih _ _ h _ _ _ _ _ hl hw
  have hl := lw_sub hl (l' := [(0, .ref o), (1, va_rf a0), (2, .int a1), (3, .int a2), (4, va_rf a3), (5, .int a1)]) [1, 2, 3, 4, 5, 0] rfl
  exact hloop _ _ _ hX _ _ _ _ _ hl hw
def c_Finder_visitParts_l1 (Zd : Nat → Nat) (K : KE) (fv : Nat → Option Nat → Int32 → Int32 → Option Nat → Int32 → CS → Option (CS)) (o : Nat) (a0 : Option Nat) (a1 : Int32) (a2 : Int32) (a4 : Int32) : Nat → (Option Nat × CS) → Option (Option Nat × CS)
  | 0, _ => none
  | n9 + 1, e9 => nl e9.1 (some (e9.1, e9.2)) (fun a19z => (gI K e9.2 o 8 7).bind fun x20 => if x20 = (0 : Int32) then ((isO K e9.2 o 8).bind fun _ => (c_Finder_visit Zd K o a0 a1 a2 e9.1 e9.2).bind fun st23 => (some (a4 + (1 : Int32))).bind fun y25 => (isO K st23 o 8).bind fun _ => (fv o a0 a1 a2 e9.1 y25 st23).bind fun st27 => (gQ K st27 a19z 11 5).bind fun x29 => c_Finder_visitParts_l1 Zd K fv o a0 a1 a2 a4 n9 (x29, st27)) else (some (e9.1, e9.2)))
theorem c_Finder_visitParts_l1_s (Zd : Nat → Nat) (K : KE) (fv : Nat → Option Nat → Int32 → Int32 → Option Nat → Int32 → CS → Option (CS)) (o : Nat) (a0 : Option Nat) (a1 : Int32) (a2 : Int32) (a4 : Int32) (n9 : Nat) (e9 : Option Nat × CS) : c_Finder_visitParts_l1 Zd K fv o a0 a1 a2 a4 (n9 + 1) e9 = (nl e9.1 (some (e9.1, e9.2)) (fun a19z => (gI K e9.2 o 8 7).bind fun x20 => if x20 = (0 : Int32) then ((isO K e9.2 o 8).bind fun _ => (c_Finder_visit Zd K o a0 a1 a2 e9.1 e9.2).bind fun st23 => (some (a4 + (1 : Int32))).bind fun y25 => (isO K st23 o 8).bind fun _ => (fv o a0 a1 a2 e9.1 y25 st23).bind fun st27 => (gQ K st27 a19z 11 5).bind fun x29 => c_Finder_visitParts_l1 Zd K fv o a0 a1 a2 a4 n9 (x29, st27)) else (some (e9.1, e9.2)))) := rfl
def c_Finder_visitParts_b (Zd : Nat → Nat) (K : KE) (fv : Nat → Option Nat → Int32 → Int32 → Option Nat → Int32 → CS → Option (CS)) (o : Nat) (a0 : Option Nat) (a1 : Int32) (a2 : Int32) (a3 : Option Nat) (a4 : Int32) (st : CS) : Option (CS) := if a4 < (4 : Int32) then (a3.bind fun a12z => (gQ K st a12z 11 4).bind fun x13 => (c_Finder_visitParts_l1 Zd K fv o a0 a1 a2 a4 4096 (x13, st)).bind fun e14 => some e14.2) else (some st)
set_option maxHeartbeats 4000000 in
set_option maxRecDepth 100000 in
theorem cc_Finder_visitParts_b (l : Launch) (G : Gk) (Zd : Nat → Nat) (K : KE) (fv : Nat → Option Nat → Int32 → Int32 → Option Nat → Int32 → CS → Option (CS)) (Dv : Nat) (hv : ∀ (o : Nat) (b0 : Option Nat) (b1 : Int32) (b2 : Int32) (b3 : Option Nat) (b4 : Int32) (st : CS) (st0 : CS), fv o b0 b1 b2 b3 b4 st = some st0 → CT l y3_9 prog_3_method_9_code 7 none G Zd K Dv [.ref o, va_rf b0, .int b1, .int b2, va_rf b3, .int b4] st (hV G Zd st0)) (o : Nat) (a0 : Option Nat) (a1 : Int32) (a2 : Int32) (a3 : Option Nat) (a4 : Int32) (st : CS) (st0 : CS) (hm : c_Finder_visitParts_b Zd K fv o a0 a1 a2 a3 a4 st = some st0) : CT l y3_9 prog_3_method_9_code 7 none G Zd K (Dv + 5) [.ref o, va_rf a0, .int a1, .int a2, va_rf a3, .int a4] st (hV G Zd st0) := by
  refine goH (d := Dv + 5) (y := y3_9) (cc := prog_3_method_9_code) (maxL := 7) (ret := none) (av := [.ref o, va_rf a0, .int a1, .int a2, va_rf a3, .int a4]) (Qc := hV G Zd st0) "PagedValues$Finder" rfl (by decide) (c1_c rfl (c1_c (rf_cat _) (c1_c rfl (c1_c rfl (c1_c (rf_cat _) (c1_c rfl c1_n)))))) (Nat.le_of_ble_eq_true rfl) ?_
  intro p e s m below meth c ls A args Q hQ hx hb hr hlk hml hown hts hin hl hE hw
  have hl : lw ls 7 [(0, .ref o), (1, va_rf a0), (2, .int a1), (3, .int a2), (4, va_rf a3), (5, .int a4)] := hl
  have hZ := hE.2.2.1
  have h := hm
  clear hm
  refine lv_iload hx hb d3_9_0 (lv_at hl.1 5 rfl) ?_
  refine lv_iconst (v := 4) hx hb d3_9_2 (by decide) ?_
  refine lv_icmp_lt (tgt := 7) hx hb d3_9_3 rfl (fun c11 => ?_) (fun c11 => ?_)
  ·
    replace h := (if_pos c11).symm.trans h
    refine xq_aload (r := a3) hx hb d3_9_7 (lv_at hl.1 4 rfl) ?_
    obtain ⟨a12z, hn12, h⟩ := ob h
    have hn12 : a3 = some a12z := hn12
    refine W.eq (g2 := F0 m 9 ls [.ref a12z]) (by rw [hn12]; rfl) ?_
    obtain ⟨x13, hr, h⟩ := ob h
    refine xgN_q (ci := 11) (C := r_11) (T := f_11) (N := 6) (ref := "PagedValues$Value") hx hb hts (fun w h => List.mem_cons_of_mem _ (ly_11 w h)) hown hE hw rfl 4 (by decide) (va_Nw.use rfl (hZ.1.1 _ kn360)) (fun _ h9 => h9) hr d3_9_9 ?_
    clear hr
    refine xt_astore (r := x13) (lv' := [(6, va_rf x13), (0, .ref o), (1, va_rf a0), (2, .int a1), (3, .int a2), (4, va_rf a3), (5, .int a4)]) hx hb d3_9_12 hl (by decide) rfl (fun ls hl => ?_)
    obtain ⟨e14, hX, hrest⟩ := ob h
    clear h
    have hj : ∀ (v17 : Option Nat) (v18 : CS), e14 = (v17, v18) → ∀ (H : Heap) (locs : List Loc) (cells slots : Nat) (ls : Array Slot), lw ls 7 [(0, .ref o), (1, va_rf a0), (2, .int a1), (3, .int a2), (4, va_rf a3), (5, .int a4), (6, va_rf v17)] → wsH G Zd A s v18 H locs → W p l e (rmH Zd (Dv + 5) st.1) s m args below meth c H locs cells slots Q (F0 m 58 ls []) := by
      intro v17 v18 he H locs cells slots ls hl hw
      subst e14
      have h := hrest
      clear hrest
      cases h
      exact finH_v hQ hx hb hr hlk hE hw d3_9_58
    have hloop : ∀ (n9 : Nat) (v15 : Option Nat) (v16 : CS), c_Finder_visitParts_l1 Zd K fv o a0 a1 a2 a4 n9 (v15, v16) = some e14 → ∀ (H : Heap) (locs : List Loc) (cells slots : Nat) (ls : Array Slot), lw ls 7 [(0, .ref o), (1, va_rf a0), (2, .int a1), (3, .int a2), (4, va_rf a3), (5, .int a4), (6, va_rf v15)] → wsH G Zd A s v16 H locs → W p l e (rmH Zd (Dv + 5) st.1) s m args below meth c H locs cells slots Q (F0 m 14 ls []) := by
      intro n9
      induction n9 with
      | zero =>
        intro v15 v16 h
        cases h
      | succ n9 ih =>
        intro v15 v16 h H locs cells slots ls hl hw
        replace h := (c_Finder_visitParts_l1_s Zd K fv o a0 a1 a2 a4 n9 (v15, v16)).symm.trans h
        refine xq_aload (r := v15) hx hb d3_9_14 (lv_at hl.1 6 rfl) ?_
        rcases nl_case h with ⟨hn19, h⟩ | ⟨a19z, hn19, h⟩
        ·
          have hn19 : v15 = none := hn19
          refine W.eq (g2 := F0 m 16 ls [.null]) (by rw [hn19]; rfl) ?_
          refine lv_ifnullN (tgt := 58) hx hb d3_9_16 rfl ?_
          have e9 := Option.some.inj h
          subst e14
          have hl := lw_sub hl (l' := [(0, .ref o), (1, va_rf a0), (2, .int a1), (3, .int a2), (4, va_rf a3), (5, .int a4), (6, va_rf v15)]) [0, 1, 2, 3, 4, 5, 6] rfl
          exact hj _ _ rfl _ _ _ _ _ hl hw
        ·
          have hn19 : v15 = some a19z := hn19
          refine W.eq (g2 := F0 m 16 ls [.ref a19z]) (by rw [hn19]; rfl) ?_
          refine lv_ifnull hx hb d3_9_16 ?_
          refine lv_aload_n hx hb d3_9_19 rfl (lv_at hl.1 0 rfl) ?_
          obtain ⟨x20, hr, h⟩ := ob h
          refine xg_i (ci := 8) (C := r_8) (T := f_8) (N := 8) (ref := "PagedValues$Finder") hx hb hts (fun w h => List.mem_cons_of_mem _ (ly_8 w h)) hown hE hw rfl 7 (by decide) (hts _ (List.mem_cons_of_mem _ k192)) (fun _ h9 => h9) hr d3_9_20 ?_
          clear hr
          refine lv_if_ne (tgt := 58) hx hb d3_9_23 rfl (fun c21 => ?_) (fun c21 => ?_)
          ·
            replace h := (if_neg c21).symm.trans h
            have e9 := Option.some.inj h
            subst e14
            have hl := lw_sub hl (l' := [(0, .ref o), (1, va_rf a0), (2, .int a1), (3, .int a2), (4, va_rf a3), (5, .int a4), (6, va_rf v15)]) [0, 1, 2, 3, 4, 5, 6] rfl
            exact hj _ _ rfl _ _ _ _ _ hl hw
          ·
            replace h := (if_pos c21).symm.trans h
            refine lv_aload_n hx hb d3_9_26 rfl (lv_at hl.1 0 rfl) ?_
            refine xq_aload_n (r := a0) hx hb d3_9_27 rfl (lv_at hl.1 1 rfl) ?_
            refine lv_iload_n hx hb d3_9_28 rfl (lv_at hl.1 2 rfl) ?_
            refine lv_iload_n hx hb d3_9_29 rfl (lv_at hl.1 3 rfl) ?_
            refine xq_aload (r := v15) hx hb d3_9_30 (lv_at hl.1 6 rfl) ?_
            obtain ⟨u9, ho, h⟩ := ob h
            obtain ⟨st23, hc, h⟩ := ob h
            refine hV_v (ci := 8) (As := [va_rf a0, .int a1, .int a2, va_rf v15]) (rest := []) ⟨hx, hb, hml, hown, hts⟩ (cc_Finder_visit l G Zd K o a0 a1 a2 v15 v16 st23 hc) (kw_V (n := 4) hts k959 k956 k12 k958 ks28 (by decide +kernel) ⟨(show 4 + 1 ≤ Dv + 5 by omega), (show 8 + (6 + 11) + 64 * (4) ≤ 64 * (Dv + 5) by omega)⟩) hE hw rfl rfl ho rfl hl.1.1 rfl (c1_8 c1_n (Nat.le_of_ble_eq_true rfl)) d3_9_32 (fun H locs cells slots hw => ?_)
            clear hc ho u9
            refine W.eq (g2 := F0 m 35 ls []) rfl ?_
            refine lv_aload_n hx hb d3_9_35 rfl (lv_at hl.1 0 rfl) ?_
            refine xq_aload_n (r := a0) hx hb d3_9_36 rfl (lv_at hl.1 1 rfl) ?_
            refine lv_iload_n hx hb d3_9_37 rfl (lv_at hl.1 2 rfl) ?_
            refine lv_iload_n hx hb d3_9_38 rfl (lv_at hl.1 3 rfl) ?_
            refine xq_aload (r := v15) hx hb d3_9_39 (lv_at hl.1 6 rfl) ?_
            refine lv_iload hx hb d3_9_41 (lv_at hl.1 5 rfl) ?_
            refine lv_iconst (v := 1) hx hb d3_9_43 (by decide) ?_
            refine lv_iadd hx hb d3_9_44 ?_
            obtain ⟨y25, hr, h⟩ := ob h
            refine lv_topi (fun y9 ey => ?_)
            have e9 := ey.trans (Option.some.inj hr)
            clear ey
            subst y9
            clear hr
            obtain ⟨u9, ho, h⟩ := ob h
            obtain ⟨st27, hc, h⟩ := ob h
            refine hV_v (ci := 8) (As := [va_rf a0, .int a1, .int a2, va_rf v15, .int y25]) (rest := []) ⟨hx, hb, hml, hown, hts⟩ (hv o a0 a1 a2 v15 y25 st23 st27 hc) (kw_V (n := 5) hts k974 k971 k12 k973 ks31 (by decide +kernel) ⟨(show Dv + 1 ≤ Dv + 5 by omega), (show 8 + (7 + 11) + 64 * (Dv) ≤ 64 * (Dv + 5) by omega)⟩) hE hw rfl rfl ho rfl hl.1.1 rfl (c1_8 c1_n (Nat.le_of_ble_eq_true rfl)) d3_9_45 (fun H locs cells slots hw => ?_)
            clear hc ho u9
            refine W.eq (g2 := F0 m 48 ls []) rfl ?_
            refine xq_aload (r := v15) hx hb d3_9_48 (lv_at hl.1 6 rfl) ?_
            refine W.eq (g2 := F0 m 50 ls [.ref a19z]) (by rw [hn19]; rfl) ?_
            obtain ⟨x29, hr, h⟩ := ob h
            refine xgN_q (ci := 11) (C := r_11) (T := f_11) (N := 6) (ref := "PagedValues$Value") hx hb hts (fun w h => List.mem_cons_of_mem _ (ly_11 w h)) hown hE hw rfl 5 (by decide) (va_Nw.use rfl (hZ.1.1 _ kn363)) (fun _ h9 => h9) hr d3_9_50 ?_
            clear hr
            refine xt_astore (r := x29) (lv' := [(6, va_rf x29), (0, .ref o), (1, va_rf a0), (2, .int a1), (3, .int a2), (4, va_rf a3), (5, .int a4)]) hx hb d3_9_53 hl (by decide) rfl (fun ls hl => ?_)
            refine lv_goto (tgt := 14) hx hb d3_9_55 rfl ?_
            have hl := lw_sub hl (l' := [(0, .ref o), (1, va_rf a0), (2, .int a1), (3, .int a2), (4, va_rf a3), (5, .int a4), (6, va_rf x29)]) [1, 2, 3, 4, 5, 6, 0] rfl
            exact ih _ _ h _ _ _ _ _ hl hw
    have hl := lw_sub hl (l' := [(0, .ref o), (1, va_rf a0), (2, .int a1), (3, .int a2), (4, va_rf a3), (5, .int a4), (6, va_rf x13)]) [1, 2, 3, 4, 5, 6, 0] rfl
    exact hloop _ _ _ hX _ _ _ _ _ hl hw
  ·
    replace h := (if_neg c11).symm.trans h
    cases h
    exact finH_v hQ hx hb hr hlk hE hw d3_9_6
def c_Finder_visitParts (Zd : Nat → Nat) (K : KE) : Nat → Nat → Option Nat → Int32 → Int32 → Option Nat → Int32 → CS → Option (CS)
  | 0 => fun _ _ _ _ _ _ _ => none
  | d9 + 1 => c_Finder_visitParts_b Zd K (c_Finder_visitParts Zd K d9)
theorem cc_Finder_visitParts (l : Launch) (G : Gk) (Zd : Nat → Nat) (K : KE) : ∀ (d9 : Nat) (o : Nat) (a0 : Option Nat) (a1 : Int32) (a2 : Int32) (a3 : Option Nat) (a4 : Int32) (st : CS) (st0 : CS) , c_Finder_visitParts Zd K d9 o a0 a1 a2 a3 a4 st = some st0 → CT l y3_9 prog_3_method_9_code 7 none G Zd K (5 * d9) [.ref o, va_rf a0, .int a1, .int a2, va_rf a3, .int a4] st (hV G Zd st0) := by
  intro d9
  induction d9 with
  | zero =>
    intro  o a0 a1 a2 a3 a4 st st0 hm
    have h9 : (none : Option (CS)) = some st0 := hm
    cases h9
  | succ d9 ih =>
    intro  o a0 a1 a2 a3 a4 st st0 hm
    rw [Nat.mul_succ]
    exact cc_Finder_visitParts_b l G Zd K (c_Finder_visitParts Zd K d9) (5 * d9) ih o a0 a1 a2 a3 a4 st st0 hm
def c_Finder_walk_l2 (K : KE) (o : Nat) : Nat → (Int32 × CS) → Option (Int32 × CS)
  | 0, _ => none
  | n9 + 1, e9 => (gI K e9.2 o 8 6).bind fun x30 => if x30 ≤ e9.1 then (some (e9.1, e9.2)) else ((gQ K e9.2 o 8 2).bind fun x32 => (gQ K e9.2 o 8 3).bind fun x33 => x33.bind fun a34z => (rQ K e9.2 a34z 5 e9.1).bind fun x35 => x32.bind fun a36z => (wQ e9.2 a36z 5 11 e9.1 x35).bind fun st37 => (some (e9.1 + 1)).bind fun y38 => c_Finder_walk_l2 K o n9 (y38, st37))
theorem c_Finder_walk_l2_s (K : KE) (o : Nat) (n9 : Nat) (e9 : Int32 × CS) : c_Finder_walk_l2 K o (n9 + 1) e9 = ((gI K e9.2 o 8 6).bind fun x30 => if x30 ≤ e9.1 then (some (e9.1, e9.2)) else ((gQ K e9.2 o 8 2).bind fun x32 => (gQ K e9.2 o 8 3).bind fun x33 => x33.bind fun a34z => (rQ K e9.2 a34z 5 e9.1).bind fun x35 => x32.bind fun a36z => (wQ e9.2 a36z 5 11 e9.1 x35).bind fun st37 => (some (e9.1 + 1)).bind fun y38 => c_Finder_walk_l2 K o n9 (y38, st37))) := rfl
def c_Finder_walk_l1 (Zd : Nat → Nat) (K : KE) (o : Nat) (a0 : Option Nat) (a1 : Int32) (a2 : Int32) (x16 : Int32) : Nat → (Int32 × CS) → Option (Int32 × CS)
  | 0, _ => none
  | n9 + 1, e9 => (gI K e9.2 o 8 5).bind fun x39 => if x39 ≤ e9.1 then (some (e9.1, e9.2)) else ((gI K e9.2 o 8 7).bind fun x41 => if x41 = (0 : Int32) then ((gQ K e9.2 o 8 2).bind fun x43 => x43.bind fun a44z => (rQ K e9.2 a44z 5 e9.1).bind fun x45 => (isO K e9.2 o 8).bind fun _ => (c_Finder_visit Zd K o a0 a1 a2 x45 e9.2).bind fun st47 => (if x16 = (0 : Int32) then (some st47) else ((gQ K st47 o 8 2).bind fun x53 => x53.bind fun a54z => (rQ K st47 a54z 5 e9.1).bind fun x55 => (isO K st47 o 8).bind fun _ => (c_Finder_visitParts Zd K 10 o a0 a1 a2 x55 (0 : Int32) st47).bind fun st57 => some st57)).bind fun e49 => (some (e9.1 + 1)).bind fun y51 => c_Finder_walk_l1 Zd K o a0 a1 a2 x16 n9 (y51, e49)) else (some (e9.1, e9.2)))
theorem c_Finder_walk_l1_s (Zd : Nat → Nat) (K : KE) (o : Nat) (a0 : Option Nat) (a1 : Int32) (a2 : Int32) (x16 : Int32) (n9 : Nat) (e9 : Int32 × CS) : c_Finder_walk_l1 Zd K o a0 a1 a2 x16 (n9 + 1) e9 = ((gI K e9.2 o 8 5).bind fun x39 => if x39 ≤ e9.1 then (some (e9.1, e9.2)) else ((gI K e9.2 o 8 7).bind fun x41 => if x41 = (0 : Int32) then ((gQ K e9.2 o 8 2).bind fun x43 => x43.bind fun a44z => (rQ K e9.2 a44z 5 e9.1).bind fun x45 => (isO K e9.2 o 8).bind fun _ => (c_Finder_visit Zd K o a0 a1 a2 x45 e9.2).bind fun st47 => (if x16 = (0 : Int32) then (some st47) else ((gQ K st47 o 8 2).bind fun x53 => x53.bind fun a54z => (rQ K st47 a54z 5 e9.1).bind fun x55 => (isO K st47 o 8).bind fun _ => (c_Finder_visitParts Zd K 10 o a0 a1 a2 x55 (0 : Int32) st47).bind fun st57 => some st57)).bind fun e49 => (some (e9.1 + 1)).bind fun y51 => c_Finder_walk_l1 Zd K o a0 a1 a2 x16 n9 (y51, e49)) else (some (e9.1, e9.2)))) := rfl
def c_Finder_walk (Zd : Nat → Nat) (K : KE) (o : Nat) (a0 : Option Nat) (a1 : Int32) (a2 : Int32) (st : CS) : Option (CS) := a0.bind fun a11z => (gQ K st a11z 6 0).bind fun x12 => x12.bind fun a13z => (rQ K st a13z 7 a1).bind fun x14 => x14.bind fun a15z => (gI K st a15z 7 1).bind fun x16 => (sF st o 8 6 (.int 0)).bind fun st17 => (c_Finder_walk_l1 Zd K o a0 a1 a2 x16 4096 ((0 : Int32), st17)).bind fun e18 => (c_Finder_walk_l2 K o 4096 ((0 : Int32), e18.2)).bind fun e23 => (gI K e23.2 o 8 6).bind fun x28 => (sF e23.2 o 8 5 (.int x28)).bind fun st29 => some st29
set_option maxHeartbeats 4000000 in
set_option maxRecDepth 100000 in
theorem cc_Finder_walk (l : Launch) (G : Gk) (Zd : Nat → Nat) (K : KE) (o : Nat) (a0 : Option Nat) (a1 : Int32) (a2 : Int32) (st : CS) (st0 : CS) (hm : c_Finder_walk Zd K o a0 a1 a2 st = some st0) : CT l y3_7 prog_3_method_7_code 6 none G Zd K (51) [.ref o, va_rf a0, .int a1, .int a2] st (hV G Zd st0) := by
  refine goH (d := 51) (y := y3_7) (cc := prog_3_method_7_code) (maxL := 6) (ret := none) (av := [.ref o, va_rf a0, .int a1, .int a2]) (Qc := hV G Zd st0) "PagedValues$Finder" rfl (by decide) (c1_c rfl (c1_c (rf_cat _) (c1_c rfl (c1_c rfl c1_n)))) (Nat.le_of_ble_eq_true rfl) ?_
  intro p e s m below meth c ls A args Q hQ hx hb hr hlk hml hown hts hin hl hE hw
  have hl : lw ls 6 [(0, .ref o), (1, va_rf a0), (2, .int a1), (3, .int a2)] := hl
  have hZ := hE.2.2.1
  have h := hm
  clear hm
  refine xq_aload_n (r := a0) hx hb d3_7_0 rfl (lv_at hl.1 1 rfl) ?_
  obtain ⟨a11z, hn11, h⟩ := ob h
  have hn11 : a0 = some a11z := hn11
  refine W.eq (g2 := F0 m 1 ls [.ref a11z]) (by rw [hn11]; rfl) ?_
  obtain ⟨x12, hr, h⟩ := ob h
  refine xgN_q (ci := 6) (C := r_6) (T := f_6) (N := 2) (ref := "PagedValues$Query") hx hb hts (fun w h => List.mem_cons_of_mem _ (ly_6 w h)) hown hE hw rfl 0 (by decide) (va_Nw.use rfl (hZ.1.1 _ kn167)) (fun _ h9 => h9) hr d3_7_1 ?_
  clear hr
  refine lv_iload_n hx hb d3_7_4 rfl (lv_at hl.1 2 rfl) ?_
  obtain ⟨a13z, hn13, h⟩ := ob h
  have hn13 : x12 = some a13z := hn13
  refine W.eq (g2 := F0 m 5 ls [.int a1, .ref a13z]) (by rw [hn13]; rfl) ?_
  obtain ⟨x14, hr, h⟩ := ob h
  refine xa_q hx hb hE hw (t := 7) rfl (i := a1) hr d3_7_5 ?_
  clear hr
  obtain ⟨a15z, hn15, h⟩ := ob h
  have hn15 : x14 = some a15z := hn15
  refine W.eq (g2 := F0 m 6 ls [.ref a15z]) (by rw [hn15]; rfl) ?_
  obtain ⟨x16, hr, h⟩ := ob h
  refine xgN_i (ci := 7) (C := r_7) (T := f_7) (N := 5) (ref := "PagedValues$Selector") hx hb hts (fun w h => List.mem_cons_of_mem _ (ly_7 w h)) hown hE hw rfl 1 (by decide) (va_Nw.use rfl (hZ.1.1 _ kn146)) (fun _ h9 => h9) hr d3_7_6 ?_
  clear hr
  refine xt_istore (x := x16) (lv' := [(4, .int x16), (0, .ref o), (1, va_rf a0), (2, .int a1), (3, .int a2)]) hx hb d3_7_9 hl (by decide) rfl (fun ls hl => ?_)
  refine lv_aload_n hx hb d3_7_11 rfl (lv_at hl.1 1 rfl) ?_
  refine lv_iconst (v := 0) hx hb d3_7_12 (by decide) ?_
  obtain ⟨st17, hr, h⟩ := ob h
  refine xp (ci := 8) (ty := .int) (C := r_8) (T := f_8) (N := 8) (ref := "PagedValues$Finder") hx hb hts (fun w h => List.mem_cons_of_mem _ (ly_8 w h)) ft_8 ft_8_ok nm_8 hown hE hw rfl 6 (by decide) (hts _ (List.mem_cons_of_mem _ k191)) (fun _ h9 => h9) rfl hr (by decide +kernel) rfl rfl d3_7_13 (fun H locs hw => ?_)
  clear hr
  refine lv_iconst (v := 0) hx hb d3_7_16 (by decide) ?_
  refine xt_istore (x := 0) (lv' := [(5, .int 0), (4, .int x16), (0, .ref o), (1, va_rf a0), (2, .int a1), (3, .int a2)]) hx hb d3_7_17 hl (by decide) rfl (fun ls hl => ?_)
  obtain ⟨e18, hX, hrest⟩ := ob h
  clear h
  have hj : ∀ (v21 : Int32) (v22 : CS), e18 = (v21, v22) → ∀ (H : Heap) (locs : List Loc) (cells slots : Nat) (ls : Array Slot), lw ls 6 [(0, .ref o), (1, va_rf a0), (2, .int a1), (3, .int a2), (4, .int x16), (5, .int v21)] → wsH G Zd A s v22 H locs → W p l e (rmH Zd (51) st.1) s m args below meth c H locs cells slots Q (F0 m 75 ls []) := by
    intro v21 v22 he H locs cells slots ls hl hw
    subst e18
    have h := hrest
    clear hrest
    refine lv_iconst (v := 0) hx hb d3_7_75 (by decide) ?_
    refine xt_istore (x := 0) (lv' := [(5, .int 0), (0, .ref o), (1, va_rf a0), (2, .int a1), (3, .int a2), (4, .int x16)]) hx hb d3_7_76 hl (by decide) rfl (fun ls hl => ?_)
    obtain ⟨e23, hX, hrest⟩ := ob h
    clear h
    have hj : ∀ (v26 : Int32) (v27 : CS), e23 = (v26, v27) → ∀ (H : Heap) (locs : List Loc) (cells slots : Nat) (ls : Array Slot), lw ls 6 [(0, .ref o), (1, va_rf a0), (2, .int a1), (3, .int a2), (4, .int x16), (5, .int v26)] → wsH G Zd A s v27 H locs → W p l e (rmH Zd (51) st.1) s m args below meth c H locs cells slots Q (F0 m 107 ls []) := by
      intro v26 v27 he H locs cells slots ls hl hw
      subst e23
      have h := hrest
      clear hrest
      refine lv_aload_n hx hb d3_7_107 rfl (lv_at hl.1 0 rfl) ?_
      refine lv_aload_n hx hb d3_7_108 rfl (lv_at hl.1 0 rfl) ?_
      obtain ⟨x28, hr, h⟩ := ob h
      refine xg_i (ci := 8) (C := r_8) (T := f_8) (N := 8) (ref := "PagedValues$Finder") hx hb hts (fun w h => List.mem_cons_of_mem _ (ly_8 w h)) hown hE hw rfl 6 (by decide) (hts _ (List.mem_cons_of_mem _ k191)) (fun _ h9 => h9) hr d3_7_109 ?_
      clear hr
      obtain ⟨st29, hr, h⟩ := ob h
      refine xp (ci := 8) (ty := .int) (C := r_8) (T := f_8) (N := 8) (ref := "PagedValues$Finder") hx hb hts (fun w h => List.mem_cons_of_mem _ (ly_8 w h)) ft_8 ft_8_ok nm_8 hown hE hw rfl 5 (by decide) (hts _ (List.mem_cons_of_mem _ k190)) (fun _ h9 => h9) rfl hr (by decide +kernel) rfl rfl d3_7_112 (fun H locs hw => ?_)
      clear hr
      cases h
      exact finH_v hQ hx hb hr hlk hE hw d3_7_115
    have hloop : ∀ (n9 : Nat) (v24 : Int32) (v25 : CS), c_Finder_walk_l2 K o n9 (v24, v25) = some e23 → ∀ (H : Heap) (locs : List Loc) (cells slots : Nat) (ls : Array Slot), lw ls 6 [(0, .ref o), (1, va_rf a0), (2, .int a1), (3, .int a2), (4, .int x16), (5, .int v24)] → wsH G Zd A s v25 H locs → W p l e (rmH Zd (51) st.1) s m args below meth c H locs cells slots Q (F0 m 78 ls []) := by
      intro n9
      induction n9 with
      | zero =>
        intro v24 v25 h
        cases h
      | succ n9 ih =>
        intro v24 v25 h H locs cells slots ls hl hw
        replace h := (c_Finder_walk_l2_s K o n9 (v24, v25)).symm.trans h
        refine lv_iload hx hb d3_7_78 (lv_at hl.1 5 rfl) ?_
        refine lv_aload_n hx hb d3_7_80 rfl (lv_at hl.1 0 rfl) ?_
        obtain ⟨x30, hr, h⟩ := ob h
        refine xg_i (ci := 8) (C := r_8) (T := f_8) (N := 8) (ref := "PagedValues$Finder") hx hb hts (fun w h => List.mem_cons_of_mem _ (ly_8 w h)) hown hE hw rfl 6 (by decide) (hts _ (List.mem_cons_of_mem _ k191)) (fun _ h9 => h9) hr d3_7_81 ?_
        clear hr
        refine lv_icmp_ge (tgt := 107) hx hb d3_7_84 rfl (fun c31 => ?_) (fun c31 => ?_)
        ·
          replace h := (if_pos c31).symm.trans h
          have e9 := Option.some.inj h
          subst e23
          have hl := lw_sub hl (l' := [(0, .ref o), (1, va_rf a0), (2, .int a1), (3, .int a2), (4, .int x16), (5, .int v24)]) [0, 1, 2, 3, 4, 5] rfl
          exact hj _ _ rfl _ _ _ _ _ hl hw
        ·
          replace h := (if_neg c31).symm.trans h
          refine lv_aload_n hx hb d3_7_87 rfl (lv_at hl.1 0 rfl) ?_
          obtain ⟨x32, hr, h⟩ := ob h
          refine xg_q (ci := 8) (C := r_8) (T := f_8) (N := 8) (ref := "PagedValues$Finder") hx hb hts (fun w h => List.mem_cons_of_mem _ (ly_8 w h)) hown hE hw rfl 2 (by decide) (hts _ (List.mem_cons_of_mem _ k187)) (fun _ h9 => h9) hr d3_7_88 ?_
          clear hr
          refine lv_iload hx hb d3_7_91 (lv_at hl.1 5 rfl) ?_
          refine lv_aload_n hx hb d3_7_93 rfl (lv_at hl.1 0 rfl) ?_
          obtain ⟨x33, hr, h⟩ := ob h
          refine xg_q (ci := 8) (C := r_8) (T := f_8) (N := 8) (ref := "PagedValues$Finder") hx hb hts (fun w h => List.mem_cons_of_mem _ (ly_8 w h)) hown hE hw rfl 3 (by decide) (hts _ (List.mem_cons_of_mem _ k188)) (fun _ h9 => h9) hr d3_7_94 ?_
          clear hr
          refine lv_iload hx hb d3_7_97 (lv_at hl.1 5 rfl) ?_
          obtain ⟨a34z, hn34, h⟩ := ob h
          have hn34 : x33 = some a34z := hn34
          refine W.eq (g2 := F0 m 99 ls [.int v24, .ref a34z, .int v24, va_rf x32]) (by rw [hn34]; rfl) ?_
          obtain ⟨x35, hr, h⟩ := ob h
          refine xa_q hx hb hE hw (t := 5) rfl (i := v24) hr d3_7_99 ?_
          clear hr
          obtain ⟨a36z, hn36, h⟩ := ob h
          have hn36 : x32 = some a36z := hn36
          refine W.eq (g2 := F0 m 100 ls [va_rf x35, .int v24, .ref a36z]) (by rw [hn36]; rfl) ?_
          obtain ⟨st37, hr, h⟩ := ob h
          refine xs_q (ci := 11) (t := 5) hx hb hE hw rfl rfl (i := v24) (v := x35) hr d3_7_100 (fun H locs hw => ?_)
          clear hr
          obtain ⟨y38, hr, h⟩ := ob h
          refine xt_iinc (k := 5) (v := y38) (lv' := [(5, .int y38), (0, .ref o), (1, va_rf a0), (2, .int a1), (3, .int a2), (4, .int x16)]) hx hb d3_7_101 hl rfl hr (by decide) rfl (fun ls hl => ?_)
          clear hr
          refine lv_goto (tgt := 78) hx hb d3_7_104 rfl ?_
          have hl := lw_sub hl (l' := [(0, .ref o), (1, va_rf a0), (2, .int a1), (3, .int a2), (4, .int x16), (5, .int y38)]) [1, 2, 3, 4, 5, 0] rfl
          exact ih _ _ h _ _ _ _ _ hl hw
    have hl := lw_sub hl (l' := [(0, .ref o), (1, va_rf a0), (2, .int a1), (3, .int a2), (4, .int x16), (5, .int 0)]) [1, 2, 3, 4, 5, 0] rfl
    exact hloop _ _ _ hX _ _ _ _ _ hl hw
  have hloop : ∀ (n9 : Nat) (v19 : Int32) (v20 : CS), c_Finder_walk_l1 Zd K o a0 a1 a2 x16 n9 (v19, v20) = some e18 → ∀ (H : Heap) (locs : List Loc) (cells slots : Nat) (ls : Array Slot), lw ls 6 [(0, .ref o), (1, va_rf a0), (2, .int a1), (3, .int a2), (4, .int x16), (5, .int v19)] → wsH G Zd A s v20 H locs → W p l e (rmH Zd (51) st.1) s m args below meth c H locs cells slots Q (F0 m 19 ls []) := by
    intro n9
    induction n9 with
    | zero =>
      intro v19 v20 h
      cases h
    | succ n9 ih =>
      intro v19 v20 h H locs cells slots ls hl hw
      replace h := (c_Finder_walk_l1_s Zd K o a0 a1 a2 x16 n9 (v19, v20)).symm.trans h
      refine lv_iload hx hb d3_7_19 (lv_at hl.1 5 rfl) ?_
      refine lv_aload_n hx hb d3_7_21 rfl (lv_at hl.1 0 rfl) ?_
      obtain ⟨x39, hr, h⟩ := ob h
      refine xg_i (ci := 8) (C := r_8) (T := f_8) (N := 8) (ref := "PagedValues$Finder") hx hb hts (fun w h => List.mem_cons_of_mem _ (ly_8 w h)) hown hE hw rfl 5 (by decide) (hts _ (List.mem_cons_of_mem _ k190)) (fun _ h9 => h9) hr d3_7_22 ?_
      clear hr
      refine lv_icmp_ge (tgt := 75) hx hb d3_7_25 rfl (fun c40 => ?_) (fun c40 => ?_)
      ·
        replace h := (if_pos c40).symm.trans h
        have e9 := Option.some.inj h
        subst e18
        have hl := lw_sub hl (l' := [(0, .ref o), (1, va_rf a0), (2, .int a1), (3, .int a2), (4, .int x16), (5, .int v19)]) [0, 1, 2, 3, 4, 5] rfl
        exact hj _ _ rfl _ _ _ _ _ hl hw
      ·
        replace h := (if_neg c40).symm.trans h
        refine lv_aload_n hx hb d3_7_28 rfl (lv_at hl.1 0 rfl) ?_
        obtain ⟨x41, hr, h⟩ := ob h
        refine xg_i (ci := 8) (C := r_8) (T := f_8) (N := 8) (ref := "PagedValues$Finder") hx hb hts (fun w h => List.mem_cons_of_mem _ (ly_8 w h)) hown hE hw rfl 7 (by decide) (hts _ (List.mem_cons_of_mem _ k192)) (fun _ h9 => h9) hr d3_7_29 ?_
        clear hr
        refine lv_if_ne (tgt := 75) hx hb d3_7_32 rfl (fun c42 => ?_) (fun c42 => ?_)
        ·
          replace h := (if_neg c42).symm.trans h
          have e9 := Option.some.inj h
          subst e18
          have hl := lw_sub hl (l' := [(0, .ref o), (1, va_rf a0), (2, .int a1), (3, .int a2), (4, .int x16), (5, .int v19)]) [0, 1, 2, 3, 4, 5] rfl
          exact hj _ _ rfl _ _ _ _ _ hl hw
        ·
          replace h := (if_pos c42).symm.trans h
          refine lv_aload_n hx hb d3_7_35 rfl (lv_at hl.1 0 rfl) ?_
          refine xq_aload_n (r := a0) hx hb d3_7_36 rfl (lv_at hl.1 1 rfl) ?_
          refine lv_iload_n hx hb d3_7_37 rfl (lv_at hl.1 2 rfl) ?_
          refine lv_iload_n hx hb d3_7_38 rfl (lv_at hl.1 3 rfl) ?_
          refine lv_aload_n hx hb d3_7_39 rfl (lv_at hl.1 0 rfl) ?_
          obtain ⟨x43, hr, h⟩ := ob h
          refine xg_q (ci := 8) (C := r_8) (T := f_8) (N := 8) (ref := "PagedValues$Finder") hx hb hts (fun w h => List.mem_cons_of_mem _ (ly_8 w h)) hown hE hw rfl 2 (by decide) (hts _ (List.mem_cons_of_mem _ k187)) (fun _ h9 => h9) hr d3_7_40 ?_
          clear hr
          refine lv_iload hx hb d3_7_43 (lv_at hl.1 5 rfl) ?_
          obtain ⟨a44z, hn44, h⟩ := ob h
          have hn44 : x43 = some a44z := hn44
          refine W.eq (g2 := F0 m 45 ls [.int v19, .ref a44z, .int a2, .int a1, va_rf a0, .ref o]) (by rw [hn44]; rfl) ?_
          obtain ⟨x45, hr, h⟩ := ob h
          refine xa_q hx hb hE hw (t := 5) rfl (i := v19) hr d3_7_45 ?_
          clear hr
          obtain ⟨u9, ho, h⟩ := ob h
          obtain ⟨st47, hc, h⟩ := ob h
          refine hV_v (ci := 8) (As := [va_rf a0, .int a1, .int a2, va_rf x45]) (rest := []) ⟨hx, hb, hml, hown, hts⟩ (cc_Finder_visit l G Zd K o a0 a1 a2 x45 v20 st47 hc) (kw_V (n := 4) hts k959 k956 k12 k958 ks28 (by decide +kernel) ⟨Nat.le_of_ble_eq_true rfl, Nat.le_of_ble_eq_true rfl⟩) hE hw rfl rfl ho rfl hl.1.1 rfl (c1_8 c1_n (Nat.le_of_ble_eq_true rfl)) d3_7_46 (fun H locs cells slots hw => ?_)
          clear hc ho u9
          refine W.eq (g2 := F0 m 49 ls []) rfl ?_
          refine lv_iload hx hb d3_7_49 (lv_at hl.1 4 rfl) ?_
          obtain ⟨e49, hX, h⟩ := ob h
          have hj : ∀ (H : Heap) (locs : List Loc) (cells slots : Nat) (ls : Array Slot), lw ls 6 [(0, .ref o), (1, va_rf a0), (2, .int a1), (3, .int a2), (4, .int x16), (5, .int v19)] → wsH G Zd A s e49 H locs → W p l e (rmH Zd (51) st.1) s m args below meth c H locs cells slots Q (F0 m 69 ls []) := by
            intro H locs cells slots ls hl hw
            obtain ⟨y51, hr, h⟩ := ob h
            refine xt_iinc (k := 5) (v := y51) (lv' := [(5, .int y51), (0, .ref o), (1, va_rf a0), (2, .int a1), (3, .int a2), (4, .int x16)]) hx hb d3_7_69 hl rfl hr (by decide) rfl (fun ls hl => ?_)
            clear hr
            refine lv_goto (tgt := 19) hx hb d3_7_72 rfl ?_
            have hl := lw_sub hl (l' := [(0, .ref o), (1, va_rf a0), (2, .int a1), (3, .int a2), (4, .int x16), (5, .int y51)]) [1, 2, 3, 4, 5, 0] rfl
            exact ih _ _ h _ _ _ _ _ hl hw
          clear h
          refine lv_if_eq (tgt := 69) hx hb d3_7_51 rfl (fun c52 => ?_) (fun c52 => ?_)
          ·
            replace h := (if_pos c52).symm.trans hX
            have e9 := Option.some.inj h
            subst e49
            have hl := lw_sub hl (l' := [(0, .ref o), (1, va_rf a0), (2, .int a1), (3, .int a2), (4, .int x16), (5, .int v19)]) [0, 1, 2, 3, 4, 5] rfl
            exact hj _ _ _ _ _ hl hw
          ·
            replace h := (if_neg c52).symm.trans hX
            refine lv_aload_n hx hb d3_7_54 rfl (lv_at hl.1 0 rfl) ?_
            refine xq_aload_n (r := a0) hx hb d3_7_55 rfl (lv_at hl.1 1 rfl) ?_
            refine lv_iload_n hx hb d3_7_56 rfl (lv_at hl.1 2 rfl) ?_
            refine lv_iload_n hx hb d3_7_57 rfl (lv_at hl.1 3 rfl) ?_
            refine lv_aload_n hx hb d3_7_58 rfl (lv_at hl.1 0 rfl) ?_
            obtain ⟨x53, hr, h⟩ := ob h
            refine xg_q (ci := 8) (C := r_8) (T := f_8) (N := 8) (ref := "PagedValues$Finder") hx hb hts (fun w h => List.mem_cons_of_mem _ (ly_8 w h)) hown hE hw rfl 2 (by decide) (hts _ (List.mem_cons_of_mem _ k187)) (fun _ h9 => h9) hr d3_7_59 ?_
            clear hr
            refine lv_iload hx hb d3_7_62 (lv_at hl.1 5 rfl) ?_
            obtain ⟨a54z, hn54, h⟩ := ob h
            have hn54 : x53 = some a54z := hn54
            refine W.eq (g2 := F0 m 64 ls [.int v19, .ref a54z, .int a2, .int a1, va_rf a0, .ref o]) (by rw [hn54]; rfl) ?_
            obtain ⟨x55, hr, h⟩ := ob h
            refine xa_q hx hb hE hw (t := 5) rfl (i := v19) hr d3_7_64 ?_
            clear hr
            refine lv_iconst (v := 0) hx hb d3_7_65 (by decide) ?_
            obtain ⟨u9, ho, h⟩ := ob h
            obtain ⟨st57, hc, h⟩ := ob h
            refine hV_v (ci := 8) (As := [va_rf a0, .int a1, .int a2, va_rf x55, .int 0]) (rest := []) ⟨hx, hb, hml, hown, hts⟩ (cc_Finder_visitParts l G Zd K 10 o a0 a1 a2 x55 (0 : Int32) st47 st57 hc) (kw_V (n := 5) hts k974 k971 k12 k973 ks31 (by decide +kernel) ⟨Nat.le_of_ble_eq_true rfl, Nat.le_of_ble_eq_true rfl⟩) hE hw rfl rfl ho rfl hl.1.1 rfl (c1_8 c1_n (Nat.le_of_ble_eq_true rfl)) d3_7_66 (fun H locs cells slots hw => ?_)
            clear hc ho u9
            refine W.eq (g2 := F0 m 69 ls []) rfl ?_
            have e9 := Option.some.inj h
            subst e49
            have hl := lw_sub hl (l' := [(0, .ref o), (1, va_rf a0), (2, .int a1), (3, .int a2), (4, .int x16), (5, .int v19)]) [0, 1, 2, 3, 4, 5] rfl
            exact hj _ _ _ _ _ hl hw
  have hl := lw_sub hl (l' := [(0, .ref o), (1, va_rf a0), (2, .int a1), (3, .int a2), (4, .int x16), (5, .int 0)]) [2, 3, 4, 5, 1, 0] rfl
  exact hloop _ _ _ hX _ _ _ _ _ hl hw
def c_Finder_ask_l2 (Zd : Nat → Nat) (K : KE) (o : Nat) (a2 : Int32) : Nat → (Int32 × CS) → Option (Int32 × CS)
  | 0, _ => none
  | n9 + 1, e9 => (gI K e9.2 o 8 5).bind fun x26 => if x26 ≤ e9.1 then (some (e9.1, e9.2)) else ((gI K e9.2 o 8 7).bind fun x28 => if x28 = (0 : Int32) then ((gQ K e9.2 o 8 2).bind fun x30 => x30.bind fun a31z => (rQ K e9.2 a31z 5 e9.1).bind fun x32 => (isO K e9.2 o 8).bind fun _ => (c_Finder_keep Zd K o x32 a2 e9.2).bind fun st34 => (some (e9.1 + 1)).bind fun y36 => c_Finder_ask_l2 Zd K o a2 n9 (y36, st34)) else (some (e9.1, e9.2)))
theorem c_Finder_ask_l2_s (Zd : Nat → Nat) (K : KE) (o : Nat) (a2 : Int32) (n9 : Nat) (e9 : Int32 × CS) : c_Finder_ask_l2 Zd K o a2 (n9 + 1) e9 = ((gI K e9.2 o 8 5).bind fun x26 => if x26 ≤ e9.1 then (some (e9.1, e9.2)) else ((gI K e9.2 o 8 7).bind fun x28 => if x28 = (0 : Int32) then ((gQ K e9.2 o 8 2).bind fun x30 => x30.bind fun a31z => (rQ K e9.2 a31z 5 e9.1).bind fun x32 => (isO K e9.2 o 8).bind fun _ => (c_Finder_keep Zd K o x32 a2 e9.2).bind fun st34 => (some (e9.1 + 1)).bind fun y36 => c_Finder_ask_l2 Zd K o a2 n9 (y36, st34)) else (some (e9.1, e9.2)))) := rfl
def c_Finder_ask_l1 (Zd : Nat → Nat) (K : KE) (o : Nat) (a0 : Option Nat) : Nat → (Int32 × CS) → Option (Int32 × CS)
  | 0, _ => none
  | n9 + 1, e9 => a0.bind fun a37z => (gI K e9.2 a37z 6 1).bind fun x38 => if x38 ≤ e9.1 then (some (e9.1, e9.2)) else ((gI K e9.2 o 8 7).bind fun x40 => if x40 = (0 : Int32) then ((gQ K e9.2 a37z 6 0).bind fun x42 => x42.bind fun a43z => (rQ K e9.2 a43z 7 e9.1).bind fun x44 => x44.bind fun a45z => (gI K e9.2 a45z 7 0).bind fun x46 => (if x46 = (0 : Int32) then (some e9.2) else ((isO K e9.2 a37z 6).bind fun _ => (c_Query_segmentEnd Zd K a37z e9.1 e9.2).bind fun x51 => (isO K e9.2 o 8).bind fun _ => (c_Finder_walk Zd K o a0 e9.1 x51 e9.2).bind fun st55 => some st55)).bind fun e47 => (some (e9.1 + 1)).bind fun y49 => c_Finder_ask_l1 Zd K o a0 n9 (y49, e47)) else (some (e9.1, e9.2)))
theorem c_Finder_ask_l1_s (Zd : Nat → Nat) (K : KE) (o : Nat) (a0 : Option Nat) (n9 : Nat) (e9 : Int32 × CS) : c_Finder_ask_l1 Zd K o a0 (n9 + 1) e9 = (a0.bind fun a37z => (gI K e9.2 a37z 6 1).bind fun x38 => if x38 ≤ e9.1 then (some (e9.1, e9.2)) else ((gI K e9.2 o 8 7).bind fun x40 => if x40 = (0 : Int32) then ((gQ K e9.2 a37z 6 0).bind fun x42 => x42.bind fun a43z => (rQ K e9.2 a43z 7 e9.1).bind fun x44 => x44.bind fun a45z => (gI K e9.2 a45z 7 0).bind fun x46 => (if x46 = (0 : Int32) then (some e9.2) else ((isO K e9.2 a37z 6).bind fun _ => (c_Query_segmentEnd Zd K a37z e9.1 e9.2).bind fun x51 => (isO K e9.2 o 8).bind fun _ => (c_Finder_walk Zd K o a0 e9.1 x51 e9.2).bind fun st55 => some st55)).bind fun e47 => (some (e9.1 + 1)).bind fun y49 => c_Finder_ask_l1 Zd K o a0 n9 (y49, e47)) else (some (e9.1, e9.2)))) := rfl
def c_Finder_ask (Zd : Nat → Nat) (K : KE) (o : Nat) (a0 : Option Nat) (a1 : Option Nat) (a2 : Int32) (st : CS) : Option (CS) := nl a1 (some st) (fun a11z => (gQ K st o 8 2).bind fun x12 => x12.bind fun a13z => (wQ st a13z 5 11 (0 : Int32) a1).bind fun st14 => (sF st14 o 8 5 (.int 1)).bind fun st15 => (c_Finder_ask_l1 Zd K o a0 4096 ((0 : Int32), st15)).bind fun e16 => (c_Finder_ask_l2 Zd K o a2 4096 ((0 : Int32), e16.2)).bind fun e21 => some e21.2)
set_option maxHeartbeats 4000000 in
set_option maxRecDepth 100000 in
theorem cc_Finder_ask (l : Launch) (G : Gk) (Zd : Nat → Nat) (K : KE) (o : Nat) (a0 : Option Nat) (a1 : Option Nat) (a2 : Int32) (st : CS) (st0 : CS) (hm : c_Finder_ask Zd K o a0 a1 a2 st = some st0) : CT l y3_5 prog_3_method_5_code 5 none G Zd K (52) [.ref o, va_rf a0, va_rf a1, .int a2] st (hV G Zd st0) := by
  refine goH (d := 52) (y := y3_5) (cc := prog_3_method_5_code) (maxL := 5) (ret := none) (av := [.ref o, va_rf a0, va_rf a1, .int a2]) (Qc := hV G Zd st0) "PagedValues$Finder" rfl (by decide) (c1_c rfl (c1_c (rf_cat _) (c1_c (rf_cat _) (c1_c rfl c1_n)))) (Nat.le_of_ble_eq_true rfl) ?_
  intro p e s m below meth c ls A args Q hQ hx hb hr hlk hml hown hts hin hl hE hw
  have hl : lw ls 5 [(0, .ref o), (1, va_rf a0), (2, va_rf a1), (3, .int a2)] := hl
  have hZ := hE.2.2.1
  have h := hm
  clear hm
  refine xq_aload_n (r := a1) hx hb d3_5_0 rfl (lv_at hl.1 2 rfl) ?_
  rcases nl_case h with ⟨hn11, h⟩ | ⟨a11z, hn11, h⟩
  ·
    have hn11 : a1 = none := hn11
    refine W.eq (g2 := F0 m 1 ls [.null]) (by rw [hn11]; rfl) ?_
    refine lv_ifnonnullN hx hb d3_5_1 ?_
    cases h
    exact finH_v hQ hx hb hr hlk hE hw d3_5_4
  ·
    have hn11 : a1 = some a11z := hn11
    refine W.eq (g2 := F0 m 1 ls [.ref a11z]) (by rw [hn11]; rfl) ?_
    refine lv_ifnonnull (tgt := 5) hx hb d3_5_1 rfl ?_
    refine lv_aload_n hx hb d3_5_5 rfl (lv_at hl.1 0 rfl) ?_
    obtain ⟨x12, hr, h⟩ := ob h
    refine xg_q (ci := 8) (C := r_8) (T := f_8) (N := 8) (ref := "PagedValues$Finder") hx hb hts (fun w h => List.mem_cons_of_mem _ (ly_8 w h)) hown hE hw rfl 2 (by decide) (hts _ (List.mem_cons_of_mem _ k187)) (fun _ h9 => h9) hr d3_5_6 ?_
    clear hr
    refine lv_iconst (v := 0) hx hb d3_5_9 (by decide) ?_
    refine xq_aload_n (r := a1) hx hb d3_5_10 rfl (lv_at hl.1 2 rfl) ?_
    obtain ⟨a13z, hn13, h⟩ := ob h
    have hn13 : x12 = some a13z := hn13
    refine W.eq (g2 := F0 m 11 ls [va_rf a1, .int 0, .ref a13z]) (by rw [hn13]; rfl) ?_
    obtain ⟨st14, hr, h⟩ := ob h
    refine xs_q (ci := 11) (t := 5) hx hb hE hw rfl rfl (i := (0 : Int32)) (v := a1) hr d3_5_11 (fun H locs hw => ?_)
    clear hr
    refine lv_aload_n hx hb d3_5_12 rfl (lv_at hl.1 0 rfl) ?_
    refine lv_iconst (v := 1) hx hb d3_5_13 (by decide) ?_
    obtain ⟨st15, hr, h⟩ := ob h
    refine xp (ci := 8) (ty := .int) (C := r_8) (T := f_8) (N := 8) (ref := "PagedValues$Finder") hx hb hts (fun w h => List.mem_cons_of_mem _ (ly_8 w h)) ft_8 ft_8_ok nm_8 hown hE hw rfl 5 (by decide) (hts _ (List.mem_cons_of_mem _ k190)) (fun _ h9 => h9) rfl hr (by decide +kernel) rfl rfl d3_5_14 (fun H locs hw => ?_)
    clear hr
    refine lv_iconst (v := 0) hx hb d3_5_17 (by decide) ?_
    refine xt_istore (x := 0) (lv' := [(4, .int 0), (0, .ref o), (1, va_rf a0), (2, va_rf a1), (3, .int a2)]) hx hb d3_5_18 hl (by decide) rfl (fun ls hl => ?_)
    obtain ⟨e16, hX, hrest⟩ := ob h
    clear h
    have hj : ∀ (v19 : Int32) (v20 : CS), e16 = (v19, v20) → ∀ (H : Heap) (locs : List Loc) (cells slots : Nat) (ls : Array Slot), lw ls 5 [(0, .ref o), (1, va_rf a0), (2, va_rf a1), (3, .int a2), (4, .int v19)] → wsH G Zd A s v20 H locs → W p l e (rmH Zd (52) st.1) s m args below meth c H locs cells slots Q (F0 m 68 ls []) := by
      intro v19 v20 he H locs cells slots ls hl hw
      subst e16
      have h := hrest
      clear hrest
      refine lv_iconst (v := 0) hx hb d3_5_68 (by decide) ?_
      refine xt_istore (x := 0) (lv' := [(4, .int 0), (0, .ref o), (1, va_rf a0), (2, va_rf a1), (3, .int a2)]) hx hb d3_5_69 hl (by decide) rfl (fun ls hl => ?_)
      obtain ⟨e21, hX, hrest⟩ := ob h
      clear h
      have hj : ∀ (v24 : Int32) (v25 : CS), e21 = (v24, v25) → ∀ (H : Heap) (locs : List Loc) (cells slots : Nat) (ls : Array Slot), lw ls 5 [(0, .ref o), (1, va_rf a0), (2, va_rf a1), (3, .int a2), (4, .int v24)] → wsH G Zd A s v25 H locs → W p l e (rmH Zd (52) st.1) s m args below meth c H locs cells slots Q (F0 m 105 ls []) := by
        intro v24 v25 he H locs cells slots ls hl hw
        subst e21
        have h := hrest
        clear hrest
        cases h
        exact finH_v hQ hx hb hr hlk hE hw d3_5_105
      have hloop : ∀ (n9 : Nat) (v22 : Int32) (v23 : CS), c_Finder_ask_l2 Zd K o a2 n9 (v22, v23) = some e21 → ∀ (H : Heap) (locs : List Loc) (cells slots : Nat) (ls : Array Slot), lw ls 5 [(0, .ref o), (1, va_rf a0), (2, va_rf a1), (3, .int a2), (4, .int v22)] → wsH G Zd A s v23 H locs → W p l e (rmH Zd (52) st.1) s m args below meth c H locs cells slots Q (F0 m 71 ls []) := by
        intro n9
        induction n9 with
        | zero =>
          intro v22 v23 h
          cases h
        | succ n9 ih =>
          intro v22 v23 h H locs cells slots ls hl hw
          replace h := (c_Finder_ask_l2_s Zd K o a2 n9 (v22, v23)).symm.trans h
          refine lv_iload hx hb d3_5_71 (lv_at hl.1 4 rfl) ?_
          refine lv_aload_n hx hb d3_5_73 rfl (lv_at hl.1 0 rfl) ?_
          obtain ⟨x26, hr, h⟩ := ob h
          refine xg_i (ci := 8) (C := r_8) (T := f_8) (N := 8) (ref := "PagedValues$Finder") hx hb hts (fun w h => List.mem_cons_of_mem _ (ly_8 w h)) hown hE hw rfl 5 (by decide) (hts _ (List.mem_cons_of_mem _ k190)) (fun _ h9 => h9) hr d3_5_74 ?_
          clear hr
          refine lv_icmp_ge (tgt := 105) hx hb d3_5_77 rfl (fun c27 => ?_) (fun c27 => ?_)
          ·
            replace h := (if_pos c27).symm.trans h
            have e9 := Option.some.inj h
            subst e21
            have hl := lw_sub hl (l' := [(0, .ref o), (1, va_rf a0), (2, va_rf a1), (3, .int a2), (4, .int v22)]) [0, 1, 2, 3, 4] rfl
            exact hj _ _ rfl _ _ _ _ _ hl hw
          ·
            replace h := (if_neg c27).symm.trans h
            refine lv_aload_n hx hb d3_5_80 rfl (lv_at hl.1 0 rfl) ?_
            obtain ⟨x28, hr, h⟩ := ob h
            refine xg_i (ci := 8) (C := r_8) (T := f_8) (N := 8) (ref := "PagedValues$Finder") hx hb hts (fun w h => List.mem_cons_of_mem _ (ly_8 w h)) hown hE hw rfl 7 (by decide) (hts _ (List.mem_cons_of_mem _ k192)) (fun _ h9 => h9) hr d3_5_81 ?_
            clear hr
            refine lv_if_ne (tgt := 105) hx hb d3_5_84 rfl (fun c29 => ?_) (fun c29 => ?_)
            ·
              replace h := (if_neg c29).symm.trans h
              have e9 := Option.some.inj h
              subst e21
              have hl := lw_sub hl (l' := [(0, .ref o), (1, va_rf a0), (2, va_rf a1), (3, .int a2), (4, .int v22)]) [0, 1, 2, 3, 4] rfl
              exact hj _ _ rfl _ _ _ _ _ hl hw
            ·
              replace h := (if_pos c29).symm.trans h
              refine lv_aload_n hx hb d3_5_87 rfl (lv_at hl.1 0 rfl) ?_
              refine lv_aload_n hx hb d3_5_88 rfl (lv_at hl.1 0 rfl) ?_
              obtain ⟨x30, hr, h⟩ := ob h
              refine xg_q (ci := 8) (C := r_8) (T := f_8) (N := 8) (ref := "PagedValues$Finder") hx hb hts (fun w h => List.mem_cons_of_mem _ (ly_8 w h)) hown hE hw rfl 2 (by decide) (hts _ (List.mem_cons_of_mem _ k187)) (fun _ h9 => h9) hr d3_5_89 ?_
              clear hr
              refine lv_iload hx hb d3_5_92 (lv_at hl.1 4 rfl) ?_
              obtain ⟨a31z, hn31, h⟩ := ob h
              have hn31 : x30 = some a31z := hn31
              refine W.eq (g2 := F0 m 94 ls [.int v22, .ref a31z, .ref o]) (by rw [hn31]; rfl) ?_
              obtain ⟨x32, hr, h⟩ := ob h
              refine xa_q hx hb hE hw (t := 5) rfl (i := v22) hr d3_5_94 ?_
              clear hr
              refine lv_iload_n hx hb d3_5_95 rfl (lv_at hl.1 3 rfl) ?_
              obtain ⟨u9, ho, h⟩ := ob h
              obtain ⟨st34, hc, h⟩ := ob h
              refine hV_v (ci := 8) (As := [va_rf x32, .int a2]) (rest := []) ⟨hx, hb, hml, hown, hts⟩ (cc_Finder_keep l G Zd K o x32 a2 v23 st34 hc) (kw_V (n := 2) hts k978 k975 k12 k977 ks32 (by decide +kernel) ⟨Nat.le_of_ble_eq_true rfl, Nat.le_of_ble_eq_true rfl⟩) hE hw rfl rfl ho rfl hl.1.1 rfl (c1_8 c1_n (Nat.le_of_ble_eq_true rfl)) d3_5_96 (fun H locs cells slots hw => ?_)
              clear hc ho u9
              refine W.eq (g2 := F0 m 99 ls []) rfl ?_
              obtain ⟨y36, hr, h⟩ := ob h
              refine xt_iinc (k := 4) (v := y36) (lv' := [(4, .int y36), (0, .ref o), (1, va_rf a0), (2, va_rf a1), (3, .int a2)]) hx hb d3_5_99 hl rfl hr (by decide) rfl (fun ls hl => ?_)
              clear hr
              refine lv_goto (tgt := 71) hx hb d3_5_102 rfl ?_
              have hl := lw_sub hl (l' := [(0, .ref o), (1, va_rf a0), (2, va_rf a1), (3, .int a2), (4, .int y36)]) [1, 2, 3, 4, 0] rfl
              exact ih _ _ h _ _ _ _ _ hl hw
      have hl := lw_sub hl (l' := [(0, .ref o), (1, va_rf a0), (2, va_rf a1), (3, .int a2), (4, .int 0)]) [1, 2, 3, 4, 0] rfl
      exact hloop _ _ _ hX _ _ _ _ _ hl hw
    have hloop : ∀ (n9 : Nat) (v17 : Int32) (v18 : CS), c_Finder_ask_l1 Zd K o a0 n9 (v17, v18) = some e16 → ∀ (H : Heap) (locs : List Loc) (cells slots : Nat) (ls : Array Slot), lw ls 5 [(0, .ref o), (1, va_rf a0), (2, va_rf a1), (3, .int a2), (4, .int v17)] → wsH G Zd A s v18 H locs → W p l e (rmH Zd (52) st.1) s m args below meth c H locs cells slots Q (F0 m 20 ls []) := by
      intro n9
      induction n9 with
      | zero =>
        intro v17 v18 h
        cases h
      | succ n9 ih =>
        intro v17 v18 h H locs cells slots ls hl hw
        replace h := (c_Finder_ask_l1_s Zd K o a0 n9 (v17, v18)).symm.trans h
        refine lv_iload hx hb d3_5_20 (lv_at hl.1 4 rfl) ?_
        refine xq_aload_n (r := a0) hx hb d3_5_22 rfl (lv_at hl.1 1 rfl) ?_
        obtain ⟨a37z, hn37, h⟩ := ob h
        have hn37 : a0 = some a37z := hn37
        refine W.eq (g2 := F0 m 23 ls [.ref a37z, .int v17]) (by rw [hn37]; rfl) ?_
        obtain ⟨x38, hr, h⟩ := ob h
        refine xgN_i (ci := 6) (C := r_6) (T := f_6) (N := 2) (ref := "PagedValues$Query") hx hb hts (fun w h => List.mem_cons_of_mem _ (ly_6 w h)) hown hE hw rfl 1 (by decide) (va_Nw.use rfl (hZ.1.1 _ kn169)) (fun _ h9 => h9) hr d3_5_23 ?_
        clear hr
        refine lv_icmp_ge (tgt := 68) hx hb d3_5_26 rfl (fun c39 => ?_) (fun c39 => ?_)
        ·
          replace h := (if_pos c39).symm.trans h
          have e9 := Option.some.inj h
          subst e16
          have hl := lw_sub hl (l' := [(0, .ref o), (1, va_rf a0), (2, va_rf a1), (3, .int a2), (4, .int v17)]) [0, 1, 2, 3, 4] rfl
          exact hj _ _ rfl _ _ _ _ _ hl hw
        ·
          replace h := (if_neg c39).symm.trans h
          refine lv_aload_n hx hb d3_5_29 rfl (lv_at hl.1 0 rfl) ?_
          obtain ⟨x40, hr, h⟩ := ob h
          refine xg_i (ci := 8) (C := r_8) (T := f_8) (N := 8) (ref := "PagedValues$Finder") hx hb hts (fun w h => List.mem_cons_of_mem _ (ly_8 w h)) hown hE hw rfl 7 (by decide) (hts _ (List.mem_cons_of_mem _ k192)) (fun _ h9 => h9) hr d3_5_30 ?_
          clear hr
          refine lv_if_ne (tgt := 68) hx hb d3_5_33 rfl (fun c41 => ?_) (fun c41 => ?_)
          ·
            replace h := (if_neg c41).symm.trans h
            have e9 := Option.some.inj h
            subst e16
            have hl := lw_sub hl (l' := [(0, .ref o), (1, va_rf a0), (2, va_rf a1), (3, .int a2), (4, .int v17)]) [0, 1, 2, 3, 4] rfl
            exact hj _ _ rfl _ _ _ _ _ hl hw
          ·
            replace h := (if_pos c41).symm.trans h
            refine xq_aload_n (r := a0) hx hb d3_5_36 rfl (lv_at hl.1 1 rfl) ?_
            refine W.eq (g2 := F0 m 37 ls [.ref a37z]) (by rw [hn37]; rfl) ?_
            obtain ⟨x42, hr, h⟩ := ob h
            refine xgN_q (ci := 6) (C := r_6) (T := f_6) (N := 2) (ref := "PagedValues$Query") hx hb hts (fun w h => List.mem_cons_of_mem _ (ly_6 w h)) hown hE hw rfl 0 (by decide) (va_Nw.use rfl (hZ.1.1 _ kn167)) (fun _ h9 => h9) hr d3_5_37 ?_
            clear hr
            refine lv_iload hx hb d3_5_40 (lv_at hl.1 4 rfl) ?_
            obtain ⟨a43z, hn43, h⟩ := ob h
            have hn43 : x42 = some a43z := hn43
            refine W.eq (g2 := F0 m 42 ls [.int v17, .ref a43z]) (by rw [hn43]; rfl) ?_
            obtain ⟨x44, hr, h⟩ := ob h
            refine xa_q hx hb hE hw (t := 7) rfl (i := v17) hr d3_5_42 ?_
            clear hr
            obtain ⟨a45z, hn45, h⟩ := ob h
            have hn45 : x44 = some a45z := hn45
            refine W.eq (g2 := F0 m 43 ls [.ref a45z]) (by rw [hn45]; rfl) ?_
            obtain ⟨x46, hr, h⟩ := ob h
            refine xgN_i (ci := 7) (C := r_7) (T := f_7) (N := 5) (ref := "PagedValues$Selector") hx hb hts (fun w h => List.mem_cons_of_mem _ (ly_7 w h)) hown hE hw rfl 0 (by decide) (va_Nw.use rfl (hZ.1.1 _ kn144)) (fun _ h9 => h9) hr d3_5_43 ?_
            clear hr
            obtain ⟨e47, hX, h⟩ := ob h
            have hj : ∀ (H : Heap) (locs : List Loc) (cells slots : Nat) (ls : Array Slot), lw ls 5 [(0, .ref o), (1, va_rf a0), (2, va_rf a1), (3, .int a2), (4, .int v17)] → wsH G Zd A s e47 H locs → W p l e (rmH Zd (52) st.1) s m args below meth c H locs cells slots Q (F0 m 62 ls []) := by
              intro H locs cells slots ls hl hw
              obtain ⟨y49, hr, h⟩ := ob h
              refine xt_iinc (k := 4) (v := y49) (lv' := [(4, .int y49), (0, .ref o), (1, va_rf a0), (2, va_rf a1), (3, .int a2)]) hx hb d3_5_62 hl rfl hr (by decide) rfl (fun ls hl => ?_)
              clear hr
              refine lv_goto (tgt := 20) hx hb d3_5_65 rfl ?_
              have hl := lw_sub hl (l' := [(0, .ref o), (1, va_rf a0), (2, va_rf a1), (3, .int a2), (4, .int y49)]) [1, 2, 3, 4, 0] rfl
              exact ih _ _ h _ _ _ _ _ hl hw
            clear h
            refine lv_if_eq (tgt := 62) hx hb d3_5_46 rfl (fun c50 => ?_) (fun c50 => ?_)
            ·
              replace h := (if_pos c50).symm.trans hX
              have e9 := Option.some.inj h
              subst e47
              have hl := lw_sub hl (l' := [(0, .ref o), (1, va_rf a0), (2, va_rf a1), (3, .int a2), (4, .int v17)]) [0, 1, 2, 3, 4] rfl
              exact hj _ _ _ _ _ hl hw
            ·
              replace h := (if_neg c50).symm.trans hX
              refine lv_aload_n hx hb d3_5_49 rfl (lv_at hl.1 0 rfl) ?_
              refine xq_aload_n (r := a0) hx hb d3_5_50 rfl (lv_at hl.1 1 rfl) ?_
              refine lv_iload hx hb d3_5_51 (lv_at hl.1 4 rfl) ?_
              refine xq_aload_n (r := a0) hx hb d3_5_53 rfl (lv_at hl.1 1 rfl) ?_
              refine lv_iload hx hb d3_5_54 (lv_at hl.1 4 rfl) ?_
              refine W.eq (g2 := F0 m 56 ls [.int v17, .ref a37z, .int v17, va_rf a0, .ref o]) (by rw [hn37]; rfl) ?_
              obtain ⟨u9, ho, h⟩ := ob h
              obtain ⟨x51, hc, h⟩ := ob h
              refine hV_i (ci := 6) (As := [.int v17]) (rest := [.int v17, va_rf a0, .ref o]) ⟨hx, hb, hml, hown, hts⟩ (cc_Query_segmentEnd l G Zd K a37z v17 v18 x51 hc) (kw_V (n := 1) hts k951 k948 k10 k949 k950 (by decide +kernel) ⟨Nat.le_of_ble_eq_true rfl, Nat.le_of_ble_eq_true rfl⟩) hE hw rfl rfl ho rfl hl.1.1 rfl (c1_8 (c1_c rfl (c1_c (rf_cat _) (c1_c rfl c1_n))) (Nat.le_of_ble_eq_true rfl)) d3_5_56 (fun H locs cells slots hw => ?_)
              clear hc ho u9
              refine W.eq (g2 := F0 m 59 ls [.int x51, .int v17, va_rf a0, .ref o]) rfl ?_
              obtain ⟨u9, ho, h⟩ := ob h
              obtain ⟨st55, hc, h⟩ := ob h
              refine hV_v (ci := 8) (As := [va_rf a0, .int v17, .int x51]) (rest := []) ⟨hx, hb, hml, hown, hts⟩ (cc_Finder_walk l G Zd K o a0 v17 x51 v18 st55 hc) (kw_V (n := 3) hts k955 k952 k12 k954 ks27 (by decide +kernel) ⟨Nat.le_of_ble_eq_true rfl, Nat.le_of_ble_eq_true rfl⟩) hE hw rfl rfl ho rfl hl.1.1 rfl (c1_8 c1_n (Nat.le_of_ble_eq_true rfl)) d3_5_59 (fun H locs cells slots hw => ?_)
              clear hc ho u9
              refine W.eq (g2 := F0 m 62 ls []) rfl ?_
              have e9 := Option.some.inj h
              subst e47
              have hl := lw_sub hl (l' := [(0, .ref o), (1, va_rf a0), (2, va_rf a1), (3, .int a2), (4, .int v17)]) [0, 1, 2, 3, 4] rfl
              exact hj _ _ _ _ _ hl hw
    have hl := lw_sub hl (l' := [(0, .ref o), (1, va_rf a0), (2, va_rf a1), (3, .int a2), (4, .int 0)]) [1, 2, 3, 4, 0] rfl
    exact hloop _ _ _ hX _ _ _ _ _ hl hw
theorem d10_16_0 : decode prog_10_method_16_code 0 = .ok (.iload_n 1, 1) := by decide +kernel
theorem d10_16_1 : decode prog_10_method_16_code 1 = .ok (.iconst 4, 1) := by decide +kernel
theorem d10_16_2 : decode prog_10_method_16_code 2 = .ok (.idiv, 1) := by decide +kernel
theorem d10_16_3 : decode prog_10_method_16_code 3 = .ok (.istore_n 3, 1) := by decide +kernel
theorem d10_16_4 : decode prog_10_method_16_code 4 = .ok (.aload_n 0, 1) := by decide +kernel
theorem d10_16_5 : decode prog_10_method_16_code 5 = .ok (.aload_n 0, 1) := by decide +kernel
theorem d10_16_6 : decode prog_10_method_16_code 6 = .ok (.invokevirtual 46, 3) := by decide +kernel
theorem d10_3_0 : decode prog_10_method_3_code 0 = .ok (.aload_n 0, 1) := by decide +kernel
theorem d10_3_1 : decode prog_10_method_3_code 1 = .ok (.getfield 21, 3) := by decide +kernel
theorem d10_3_4 : decode prog_10_method_3_code 4 = .ok (.aload_n 0, 1) := by decide +kernel
theorem d10_3_5 : decode prog_10_method_3_code 5 = .ok (.invokevirtual 38, 3) := by decide +kernel
theorem d10_2_0 : decode prog_10_method_2_code 0 = .ok (.aload_n 0, 1) := by decide +kernel
theorem d10_2_1 : decode prog_10_method_2_code 1 = .ok (.getfield 17, 3) := by decide +kernel
theorem d10_2_4 : decode prog_10_method_2_code 4 = .ok (.iconst 1, 1) := by decide +kernel
theorem d10_2_5 : decode prog_10_method_2_code 5 = .ok (.iaload, 1) := by decide +kernel
theorem d10_2_6 : decode prog_10_method_2_code 6 = .ok (.aload_n 0, 1) := by decide +kernel
theorem d10_2_7 : decode prog_10_method_2_code 7 = .ok (.getfield 17, 3) := by decide +kernel
theorem d10_2_10 : decode prog_10_method_2_code 10 = .ok (.iconst 0, 1) := by decide +kernel
theorem d10_2_11 : decode prog_10_method_2_code 11 = .ok (.iaload, 1) := by decide +kernel
theorem d10_2_12 : decode prog_10_method_2_code 12 = .ok (.if_icmp .le 7, 3) := by decide +kernel
theorem d10_2_19 : decode prog_10_method_2_code 19 = .ok (.iconst 0, 1) := by decide +kernel
theorem d10_2_15 : decode prog_10_method_2_code 15 = .ok (.iconst 1, 1) := by decide +kernel
theorem d10_2_16 : decode prog_10_method_2_code 16 = .ok (.goto 4, 3) := by decide +kernel
theorem d10_2_20 : decode prog_10_method_2_code 20 = .ok (.ireturn, 1) := by decide +kernel
def y10_2 : MethodName := { cls := "PagedValues$Store", name := "currentMeta", desc := "()I" }
theorem k690 : (Jvm.Cond.code ({ cls := "PagedValues$Store", name := "currentMeta", desc := "()I" } : Jvm.MethodName) prog_10_method_2_code (1 : Nat) (Option.some Jvm.ClassFile.FieldType.int)) ∈ TB := tk_3 210 rfl rfl
theorem k687 : (Jvm.Cond.methodLink "PagedValues$Store" (38 : Nat) ({ cls := "PagedValues$Store", name := "currentMeta", desc := "()I" } : Jvm.MethodName)) ∈ TB := tk_3 207 rfl rfl
theorem k688 : (Jvm.Cond.instanceMethod ({ cls := "PagedValues$Store", name := "currentMeta", desc := "()I" } : Jvm.MethodName)) ∈ TB := tk_3 208 rfl rfl
theorem k689 : (Jvm.Cond.selects "PagedValues$Store" ({ cls := "PagedValues$Store", name := "currentMeta", desc := "()I" } : Jvm.MethodName) ({ cls := "PagedValues$Store", name := "currentMeta", desc := "()I" } : Jvm.MethodName)) ∈ TB := tk_3 209 rfl rfl
theorem d10_3_8 : decode prog_10_method_3_code 8 = .ok (.iaload, 1) := by decide +kernel
theorem d10_3_9 : decode prog_10_method_3_code 9 = .ok (.ireturn, 1) := by decide +kernel
def y10_3 : MethodName := { cls := "PagedValues$Store", name := "currentRoot", desc := "()I" }
theorem k686 : (Jvm.Cond.code ({ cls := "PagedValues$Store", name := "currentRoot", desc := "()I" } : Jvm.MethodName) prog_10_method_3_code (1 : Nat) (Option.some Jvm.ClassFile.FieldType.int)) ∈ TB := tk_3 206 rfl rfl
theorem k683 : (Jvm.Cond.methodLink "PagedValues$Store" (46 : Nat) ({ cls := "PagedValues$Store", name := "currentRoot", desc := "()I" } : Jvm.MethodName)) ∈ TB := tk_3 203 rfl rfl
theorem k684 : (Jvm.Cond.instanceMethod ({ cls := "PagedValues$Store", name := "currentRoot", desc := "()I" } : Jvm.MethodName)) ∈ TB := tk_3 204 rfl rfl
theorem k685 : (Jvm.Cond.selects "PagedValues$Store" ({ cls := "PagedValues$Store", name := "currentRoot", desc := "()I" } : Jvm.MethodName) ({ cls := "PagedValues$Store", name := "currentRoot", desc := "()I" } : Jvm.MethodName)) ∈ TB := tk_3 205 rfl rfl
theorem d10_16_9 : decode prog_10_method_16_code 9 = .ok (.iconst 1, 1) := by decide +kernel
theorem d10_16_10 : decode prog_10_method_16_code 10 = .ok (.iload_n 3, 1) := by decide +kernel
theorem d10_16_11 : decode prog_10_method_16_code 11 = .ok (.isub, 1) := by decide +kernel
theorem d10_16_12 : decode prog_10_method_16_code 12 = .ok (.invokevirtual 55, 3) := by decide +kernel
theorem d10_10_0 : decode prog_10_method_10_code 0 = .ok (.iload_n 1, 1) := by decide +kernel
theorem d10_10_1 : decode prog_10_method_10_code 1 = .ok (.iconst (-1), 1) := by decide +kernel
theorem d10_10_2 : decode prog_10_method_10_code 2 = .ok (.if_icmp .ne 7, 3) := by decide +kernel
theorem d10_10_9 : decode prog_10_method_10_code 9 = .ok (.aload_n 0, 1) := by decide +kernel
theorem d10_10_10 : decode prog_10_method_10_code 10 = .ok (.getfield 11, 3) := by decide +kernel
theorem d10_10_13 : decode prog_10_method_10_code 13 = .ok (.iload_n 1, 1) := by decide +kernel
theorem d10_10_14 : decode prog_10_method_10_code 14 = .ok (.aaload, 1) := by decide +kernel
theorem d10_10_15 : decode prog_10_method_10_code 15 = .ok (.getfield 49, 3) := by decide +kernel
theorem kn229 : (Jvm.Cond.fieldLinkNest "PagedValues$Store" (49 : Nat) "PagedValues$Page" "leaves" "[I" "PagedValues") ∈ NW := tn_1 229 rfl rfl
theorem d10_10_18 : decode prog_10_method_10_code 18 = .ok (.iload_n 2, 1) := by decide +kernel
theorem d10_10_19 : decode prog_10_method_10_code 19 = .ok (.iaload, 1) := by decide +kernel
theorem d10_10_5 : decode prog_10_method_10_code 5 = .ok (.iconst (-1), 1) := by decide +kernel
theorem d10_10_6 : decode prog_10_method_10_code 6 = .ok (.goto 14, 3) := by decide +kernel
theorem d10_10_20 : decode prog_10_method_10_code 20 = .ok (.ireturn, 1) := by decide +kernel
def y10_10 : MethodName := { cls := "PagedValues$Store", name := "leafOf", desc := "(II)I" }
theorem k694 : (Jvm.Cond.code ({ cls := "PagedValues$Store", name := "leafOf", desc := "(II)I" } : Jvm.MethodName) prog_10_method_10_code (3 : Nat) (Option.some Jvm.ClassFile.FieldType.int)) ∈ TB := tk_3 214 rfl rfl
theorem k691 : (Jvm.Cond.methodLink "PagedValues$Store" (55 : Nat) ({ cls := "PagedValues$Store", name := "leafOf", desc := "(II)I" } : Jvm.MethodName)) ∈ TB := tk_3 211 rfl rfl
theorem k693 : (Jvm.Cond.instanceMethod ({ cls := "PagedValues$Store", name := "leafOf", desc := "(II)I" } : Jvm.MethodName)) ∈ TB := tk_3 213 rfl rfl
theorem ks8 : Cond.selects y10_10.cls y10_10 y10_10 ∈ TB := List.mem_filter.mpr ⟨List.mem_append_left _ (List.mem_of_getElem? (i := 8) (by decide +kernel)), rfl⟩
theorem d10_16_15 : decode prog_10_method_16_code 15 = .ok (.istore 4, 2) := by decide +kernel
theorem d10_16_17 : decode prog_10_method_16_code 17 = .ok (.aload_n 0, 1) := by decide +kernel
theorem d10_16_18 : decode prog_10_method_16_code 18 = .ok (.iload_n 3, 1) := by decide +kernel
theorem d10_16_19 : decode prog_10_method_16_code 19 = .ok (.iload_n 1, 1) := by decide +kernel
theorem d10_16_20 : decode prog_10_method_16_code 20 = .ok (.aload_n 2, 1) := by decide +kernel
theorem d10_16_21 : decode prog_10_method_16_code 21 = .ok (.invokevirtual 78, 3) := by decide +kernel
theorem d10_17_0 : decode prog_10_method_17_code 0 = .ok (.iconst 0, 1) := by decide +kernel
theorem d10_17_1 : decode prog_10_method_17_code 1 = .ok (.istore 4, 2) := by decide +kernel
theorem d10_17_3 : decode prog_10_method_17_code 3 = .ok (.iconst 0, 1) := by decide +kernel
theorem d10_17_4 : decode prog_10_method_17_code 4 = .ok (.istore 5, 2) := by decide +kernel
theorem d10_17_75 : decode prog_10_method_17_code 75 = .ok (.iload 4, 2) := by decide +kernel
theorem d10_17_77 : decode prog_10_method_17_code 77 = .ok (.ireturn, 1) := by decide +kernel
theorem d10_17_6 : decode prog_10_method_17_code 6 = .ok (.iload 5, 2) := by decide +kernel
theorem d10_17_8 : decode prog_10_method_17_code 8 = .ok (.iconst 4, 1) := by decide +kernel
theorem d10_17_9 : decode prog_10_method_17_code 9 = .ok (.if_icmp .ge 66, 3) := by decide +kernel
theorem d10_17_12 : decode prog_10_method_17_code 12 = .ok (.iload_n 1, 1) := by decide +kernel
theorem d10_17_13 : decode prog_10_method_17_code 13 = .ok (.iconst 4, 1) := by decide +kernel
theorem d10_17_14 : decode prog_10_method_17_code 14 = .ok (.imul, 1) := by decide +kernel
theorem d10_17_15 : decode prog_10_method_17_code 15 = .ok (.iload 5, 2) := by decide +kernel
theorem d10_17_17 : decode prog_10_method_17_code 17 = .ok (.iadd, 1) := by decide +kernel
theorem d10_17_18 : decode prog_10_method_17_code 18 = .ok (.istore 6, 2) := by decide +kernel
theorem d10_17_20 : decode prog_10_method_17_code 20 = .ok (.aload_n 0, 1) := by decide +kernel
theorem d10_17_21 : decode prog_10_method_17_code 21 = .ok (.getfield 33, 3) := by decide +kernel
theorem d10_17_24 : decode prog_10_method_17_code 24 = .ok (.iload 5, 2) := by decide +kernel
theorem d10_17_26 : decode prog_10_method_17_code 26 = .ok (.iload 6, 2) := by decide +kernel
theorem d10_17_28 : decode prog_10_method_17_code 28 = .ok (.iload_n 2, 1) := by decide +kernel
theorem d10_17_29 : decode prog_10_method_17_code 29 = .ok (.if_icmp .ne 7, 3) := by decide +kernel
theorem d10_17_36 : decode prog_10_method_17_code 36 = .ok (.aload_n 0, 1) := by decide +kernel
theorem d10_17_37 : decode prog_10_method_17_code 37 = .ok (.aload_n 0, 1) := by decide +kernel
theorem d10_17_38 : decode prog_10_method_17_code 38 = .ok (.invokevirtual 46, 3) := by decide +kernel
theorem d10_17_41 : decode prog_10_method_17_code 41 = .ok (.iload 6, 2) := by decide +kernel
theorem d10_17_43 : decode prog_10_method_17_code 43 = .ok (.invokevirtual 62, 3) := by decide +kernel
theorem d10_11_0 : decode prog_10_method_11_code 0 = .ok (.iload_n 2, 1) := by decide +kernel
theorem d10_11_1 : decode prog_10_method_11_code 1 = .ok (.invokestatic 52, 3) := by decide +kernel
theorem d1_17_0 : decode prog_1_method_17_code 0 = .ok (.iload_n 0, 1) := by decide +kernel
theorem d1_17_1 : decode prog_1_method_17_code 1 = .ok (.ifCond .lt 13, 3) := by decide +kernel
theorem d1_17_14 : decode prog_1_method_17_code 14 = .ok (.iconst 0, 1) := by decide +kernel
theorem d1_17_4 : decode prog_1_method_17_code 4 = .ok (.iload_n 0, 1) := by decide +kernel
theorem d1_17_5 : decode prog_1_method_17_code 5 = .ok (.bipush 8, 2) := by decide +kernel
theorem d1_17_7 : decode prog_1_method_17_code 7 = .ok (.if_icmp .ge 7, 3) := by decide +kernel
theorem d1_17_10 : decode prog_1_method_17_code 10 = .ok (.iconst 1, 1) := by decide +kernel
theorem d1_17_11 : decode prog_1_method_17_code 11 = .ok (.goto 4, 3) := by decide +kernel
theorem d1_17_15 : decode prog_1_method_17_code 15 = .ok (.ireturn, 1) := by decide +kernel
def y1_17 : MethodName := { cls := "PagedValues", name := "isId", desc := "(I)Z" }
theorem k306 : (Jvm.Cond.code ({ cls := "PagedValues", name := "isId", desc := "(I)Z" } : Jvm.MethodName) prog_1_method_17_code (1 : Nat) (Option.some Jvm.ClassFile.FieldType.boolean)) ∈ TB := tk_2 66 rfl rfl
theorem k1 : (Jvm.Cond.initialized "PagedValues") ∈ TB := tk_1 1 rfl rfl
theorem kn703 : (Jvm.Cond.methodLinkNest "PagedValues$Store" (52 : Nat) ({ cls := "PagedValues", name := "isId", desc := "(I)Z" } : Jvm.MethodName) "PagedValues") ∈ NW := tn_3 223 rfl rfl
theorem k305 : (Jvm.Cond.static ({ cls := "PagedValues", name := "isId", desc := "(I)Z" } : Jvm.MethodName)) ∈ TB := tk_2 65 rfl rfl
theorem d10_11_4 : decode prog_10_method_11_code 4 = .ok (.ifCond .ne 5, 3) := by decide +kernel
theorem d10_11_9 : decode prog_10_method_11_code 9 = .ok (.aload_n 0, 1) := by decide +kernel
theorem d10_11_10 : decode prog_10_method_11_code 10 = .ok (.iload_n 1, 1) := by decide +kernel
theorem d10_11_11 : decode prog_10_method_11_code 11 = .ok (.iload_n 2, 1) := by decide +kernel
theorem d10_11_12 : decode prog_10_method_11_code 12 = .ok (.iconst 4, 1) := by decide +kernel
theorem d10_11_13 : decode prog_10_method_11_code 13 = .ok (.idiv, 1) := by decide +kernel
theorem d10_11_14 : decode prog_10_method_11_code 14 = .ok (.invokevirtual 55, 3) := by decide +kernel
theorem d10_11_17 : decode prog_10_method_11_code 17 = .ok (.istore_n 3, 1) := by decide +kernel
theorem d10_11_18 : decode prog_10_method_11_code 18 = .ok (.iload_n 3, 1) := by decide +kernel
theorem d10_11_19 : decode prog_10_method_11_code 19 = .ok (.iconst (-1), 1) := by decide +kernel
theorem d10_11_20 : decode prog_10_method_11_code 20 = .ok (.if_icmp .ne 7, 3) := by decide +kernel
theorem d10_11_27 : decode prog_10_method_11_code 27 = .ok (.aload_n 0, 1) := by decide +kernel
theorem d10_11_28 : decode prog_10_method_11_code 28 = .ok (.getfield 11, 3) := by decide +kernel
theorem d10_11_31 : decode prog_10_method_11_code 31 = .ok (.iload_n 3, 1) := by decide +kernel
theorem d10_11_32 : decode prog_10_method_11_code 32 = .ok (.aaload, 1) := by decide +kernel
theorem d10_11_33 : decode prog_10_method_11_code 33 = .ok (.getfield 59, 3) := by decide +kernel
theorem kn227 : (Jvm.Cond.fieldLinkNest "PagedValues$Store" (59 : Nat) "PagedValues$Page" "documents" "[LPagedValues$Value;" "PagedValues") ∈ NW := tn_1 227 rfl rfl
theorem d10_11_36 : decode prog_10_method_11_code 36 = .ok (.iload_n 2, 1) := by decide +kernel
theorem d10_11_37 : decode prog_10_method_11_code 37 = .ok (.iconst 4, 1) := by decide +kernel
theorem d10_11_38 : decode prog_10_method_11_code 38 = .ok (.irem, 1) := by decide +kernel
theorem d10_11_39 : decode prog_10_method_11_code 39 = .ok (.aaload, 1) := by decide +kernel
theorem d10_11_23 : decode prog_10_method_11_code 23 = .ok (.aconst_null, 1) := by decide +kernel
theorem d10_11_24 : decode prog_10_method_11_code 24 = .ok (.goto 16, 3) := by decide +kernel
theorem d10_11_40 : decode prog_10_method_11_code 40 = .ok (.areturn, 1) := by decide +kernel
theorem d10_11_7 : decode prog_10_method_11_code 7 = .ok (.aconst_null, 1) := by decide +kernel
theorem d10_11_8 : decode prog_10_method_11_code 8 = .ok (.areturn, 1) := by decide +kernel
def y10_11 : MethodName := { cls := "PagedValues$Store", name := "document", desc := "(II)LPagedValues$Value;" }
theorem k702 : (Jvm.Cond.code ({ cls := "PagedValues$Store", name := "document", desc := "(II)LPagedValues$Value;" } : Jvm.MethodName) prog_10_method_11_code (4 : Nat) (Option.some (Jvm.ClassFile.FieldType.object "PagedValues$Value"))) ∈ TB := tk_3 222 rfl rfl
theorem k699 : (Jvm.Cond.methodLink "PagedValues$Store" (62 : Nat) ({ cls := "PagedValues$Store", name := "document", desc := "(II)LPagedValues$Value;" } : Jvm.MethodName)) ∈ TB := tk_3 219 rfl rfl
theorem k700 : (Jvm.Cond.instanceMethod ({ cls := "PagedValues$Store", name := "document", desc := "(II)LPagedValues$Value;" } : Jvm.MethodName)) ∈ TB := tk_3 220 rfl rfl
theorem k701 : (Jvm.Cond.selects "PagedValues$Store" ({ cls := "PagedValues$Store", name := "document", desc := "(II)LPagedValues$Value;" } : Jvm.MethodName) ({ cls := "PagedValues$Store", name := "document", desc := "(II)LPagedValues$Value;" } : Jvm.MethodName)) ∈ TB := tk_3 221 rfl rfl
theorem d10_17_32 : decode prog_10_method_17_code 32 = .ok (.aload_n 3, 1) := by decide +kernel
theorem d10_17_33 : decode prog_10_method_17_code 33 = .ok (.goto 13, 3) := by decide +kernel
theorem d10_17_46 : decode prog_10_method_17_code 46 = .ok (.aastore, 1) := by decide +kernel
theorem d10_17_47 : decode prog_10_method_17_code 47 = .ok (.iload 4, 2) := by decide +kernel
theorem d10_17_49 : decode prog_10_method_17_code 49 = .ok (.ifCond .ne 13, 3) := by decide +kernel
theorem d10_17_62 : decode prog_10_method_17_code 62 = .ok (.iconst 1, 1) := by decide +kernel
theorem d10_17_63 : decode prog_10_method_17_code 63 = .ok (.goto 4, 3) := by decide +kernel
theorem d10_17_52 : decode prog_10_method_17_code 52 = .ok (.aload_n 0, 1) := by decide +kernel
theorem d10_17_53 : decode prog_10_method_17_code 53 = .ok (.getfield 33, 3) := by decide +kernel
theorem d10_17_56 : decode prog_10_method_17_code 56 = .ok (.iload 5, 2) := by decide +kernel
theorem d10_17_58 : decode prog_10_method_17_code 58 = .ok (.aaload, 1) := by decide +kernel
theorem d10_17_59 : decode prog_10_method_17_code 59 = .ok (.ifnull 7, 3) := by decide +kernel
theorem d10_17_66 : decode prog_10_method_17_code 66 = .ok (.iconst 0, 1) := by decide +kernel
theorem d10_17_67 : decode prog_10_method_17_code 67 = .ok (.istore 4, 2) := by decide +kernel
theorem d10_17_69 : decode prog_10_method_17_code 69 = .ok (.iinc 5 1, 3) := by decide +kernel
theorem d10_17_72 : decode prog_10_method_17_code 72 = .ok (.goto (-66), 3) := by decide +kernel
def y10_17 : MethodName := { cls := "PagedValues$Store", name := "draftHalf", desc := "(IILPagedValues$Value;)Z" }
theorem k698 : (Jvm.Cond.code ({ cls := "PagedValues$Store", name := "draftHalf", desc := "(IILPagedValues$Value;)Z" } : Jvm.MethodName) prog_10_method_17_code (7 : Nat) (Option.some Jvm.ClassFile.FieldType.boolean)) ∈ TB := tk_3 218 rfl rfl
theorem k695 : (Jvm.Cond.methodLink "PagedValues$Store" (78 : Nat) ({ cls := "PagedValues$Store", name := "draftHalf", desc := "(IILPagedValues$Value;)Z" } : Jvm.MethodName)) ∈ TB := tk_3 215 rfl rfl
theorem k697 : (Jvm.Cond.instanceMethod ({ cls := "PagedValues$Store", name := "draftHalf", desc := "(IILPagedValues$Value;)Z" } : Jvm.MethodName)) ∈ TB := tk_3 217 rfl rfl
theorem ks9 : Cond.selects y10_17.cls y10_17 y10_17 ∈ TB := List.mem_filter.mpr ⟨List.mem_append_left _ (List.mem_of_getElem? (i := 9) (by decide +kernel)), rfl⟩
theorem d10_16_24 : decode prog_10_method_16_code 24 = .ok (.istore 5, 2) := by decide +kernel
theorem d10_16_26 : decode prog_10_method_16_code 26 = .ok (.iload 5, 2) := by decide +kernel
theorem d10_16_28 : decode prog_10_method_16_code 28 = .ok (.ifCond .ne 9, 3) := by decide +kernel
theorem d10_16_37 : decode prog_10_method_16_code 37 = .ok (.iconst 1, 1) := by decide +kernel
theorem d10_16_38 : decode prog_10_method_16_code 38 = .ok (.goto 4, 3) := by decide +kernel
theorem d10_16_31 : decode prog_10_method_16_code 31 = .ok (.iload 4, 2) := by decide +kernel
theorem d10_16_33 : decode prog_10_method_16_code 33 = .ok (.iconst (-1), 1) := by decide +kernel
theorem d10_16_34 : decode prog_10_method_16_code 34 = .ok (.if_icmp .eq 7, 3) := by decide +kernel
theorem d10_16_41 : decode prog_10_method_16_code 41 = .ok (.iconst 0, 1) := by decide +kernel
theorem d10_16_42 : decode prog_10_method_16_code 42 = .ok (.istore 6, 2) := by decide +kernel
theorem d10_16_44 : decode prog_10_method_16_code 44 = .ok (.iload 5, 2) := by decide +kernel
theorem d10_16_46 : decode prog_10_method_16_code 46 = .ok (.ifCond .eq 11, 3) := by decide +kernel
theorem d10_16_57 : decode prog_10_method_16_code 57 = .ok (.iconst (-1), 1) := by decide +kernel
theorem d10_16_49 : decode prog_10_method_16_code 49 = .ok (.aload_n 0, 1) := by decide +kernel
theorem d10_16_50 : decode prog_10_method_16_code 50 = .ok (.iconst 0, 1) := by decide +kernel
theorem d10_16_51 : decode prog_10_method_16_code 51 = .ok (.invokevirtual 82, 3) := by decide +kernel
theorem d10_15_0 : decode prog_10_method_15_code 0 = .ok (.iload_n 1, 1) := by decide +kernel
theorem d10_15_1 : decode prog_10_method_15_code 1 = .ok (.istore_n 2, 1) := by decide +kernel
theorem d10_15_24 : decode prog_10_method_15_code 24 = .ok (.iconst (-1), 1) := by decide +kernel
theorem d10_15_25 : decode prog_10_method_15_code 25 = .ok (.ireturn, 1) := by decide +kernel
theorem d10_15_2 : decode prog_10_method_15_code 2 = .ok (.iload_n 2, 1) := by decide +kernel
theorem d10_15_3 : decode prog_10_method_15_code 3 = .ok (.bipush 12, 2) := by decide +kernel
theorem d10_15_5 : decode prog_10_method_15_code 5 = .ok (.if_icmp .ge 19, 3) := by decide +kernel
theorem d10_15_8 : decode prog_10_method_15_code 8 = .ok (.aload_n 0, 1) := by decide +kernel
theorem d10_15_9 : decode prog_10_method_15_code 9 = .ok (.iload_n 2, 1) := by decide +kernel
theorem d10_15_10 : decode prog_10_method_15_code 10 = .ok (.invokevirtual 74, 3) := by decide +kernel
theorem d10_13_0 : decode prog_10_method_13_code 0 = .ok (.iconst 0, 1) := by decide +kernel
theorem d10_13_1 : decode prog_10_method_13_code 1 = .ok (.istore_n 2, 1) := by decide +kernel
theorem d10_13_2 : decode prog_10_method_13_code 2 = .ok (.iconst 0, 1) := by decide +kernel
theorem d10_13_3 : decode prog_10_method_13_code 3 = .ok (.istore_n 3, 1) := by decide +kernel
theorem d10_13_31 : decode prog_10_method_13_code 31 = .ok (.iconst 0, 1) := by decide +kernel
theorem d10_13_32 : decode prog_10_method_13_code 32 = .ok (.istore_n 3, 1) := by decide +kernel
theorem d10_13_69 : decode prog_10_method_13_code 69 = .ok (.iload_n 2, 1) := by decide +kernel
theorem d10_13_70 : decode prog_10_method_13_code 70 = .ok (.ireturn, 1) := by decide +kernel
theorem d10_13_33 : decode prog_10_method_13_code 33 = .ok (.iload_n 3, 1) := by decide +kernel
theorem d10_13_34 : decode prog_10_method_13_code 34 = .ok (.iconst 3, 1) := by decide +kernel
theorem d10_13_35 : decode prog_10_method_13_code 35 = .ok (.if_icmp .ge 34, 3) := by decide +kernel
theorem d10_13_38 : decode prog_10_method_13_code 38 = .ok (.aload_n 0, 1) := by decide +kernel
theorem d10_13_39 : decode prog_10_method_13_code 39 = .ok (.getfield 24, 3) := by decide +kernel
theorem d10_13_42 : decode prog_10_method_13_code 42 = .ok (.iload_n 3, 1) := by decide +kernel
theorem d10_13_43 : decode prog_10_method_13_code 43 = .ok (.baload, 1) := by decide +kernel
theorem d10_13_44 : decode prog_10_method_13_code 44 = .ok (.ifCond .eq 19, 3) := by decide +kernel
theorem d10_13_47 : decode prog_10_method_13_code 47 = .ok (.iload_n 2, 1) := by decide +kernel
theorem d10_13_48 : decode prog_10_method_13_code 48 = .ok (.aload_n 0, 1) := by decide +kernel
theorem d10_13_49 : decode prog_10_method_13_code 49 = .ok (.aload_n 0, 1) := by decide +kernel
theorem d10_13_50 : decode prog_10_method_13_code 50 = .ok (.getfield 28, 3) := by decide +kernel
theorem d10_13_53 : decode prog_10_method_13_code 53 = .ok (.iload_n 3, 1) := by decide +kernel
theorem d10_13_54 : decode prog_10_method_13_code 54 = .ok (.iaload, 1) := by decide +kernel
theorem d10_13_55 : decode prog_10_method_13_code 55 = .ok (.iload_n 1, 1) := by decide +kernel
theorem d10_13_56 : decode prog_10_method_13_code 56 = .ok (.invokevirtual 66, 3) := by decide +kernel
theorem d10_14_0 : decode prog_10_method_14_code 0 = .ok (.iload_n 1, 1) := by decide +kernel
theorem d10_14_1 : decode prog_10_method_14_code 1 = .ok (.iload_n 2, 1) := by decide +kernel
theorem d10_14_2 : decode prog_10_method_14_code 2 = .ok (.if_icmp .ne 5, 3) := by decide +kernel
theorem d10_14_7 : decode prog_10_method_14_code 7 = .ok (.aload_n 0, 1) := by decide +kernel
theorem d10_14_8 : decode prog_10_method_14_code 8 = .ok (.iload_n 1, 1) := by decide +kernel
theorem d10_14_9 : decode prog_10_method_14_code 9 = .ok (.iconst 0, 1) := by decide +kernel
theorem d10_14_10 : decode prog_10_method_14_code 10 = .ok (.invokevirtual 55, 3) := by decide +kernel
theorem d10_14_13 : decode prog_10_method_14_code 13 = .ok (.iload_n 2, 1) := by decide +kernel
theorem d10_14_14 : decode prog_10_method_14_code 14 = .ok (.if_icmp .eq 13, 3) := by decide +kernel
theorem d10_14_27 : decode prog_10_method_14_code 27 = .ok (.iconst 2, 1) := by decide +kernel
theorem d10_14_28 : decode prog_10_method_14_code 28 = .ok (.goto 4, 3) := by decide +kernel
theorem d10_14_17 : decode prog_10_method_14_code 17 = .ok (.aload_n 0, 1) := by decide +kernel
theorem d10_14_18 : decode prog_10_method_14_code 18 = .ok (.iload_n 1, 1) := by decide +kernel
theorem d10_14_19 : decode prog_10_method_14_code 19 = .ok (.iconst 1, 1) := by decide +kernel
theorem d10_14_20 : decode prog_10_method_14_code 20 = .ok (.invokevirtual 55, 3) := by decide +kernel
theorem d10_14_23 : decode prog_10_method_14_code 23 = .ok (.iload_n 2, 1) := by decide +kernel
theorem d10_14_24 : decode prog_10_method_14_code 24 = .ok (.if_icmp .ne 7, 3) := by decide +kernel
theorem d10_14_31 : decode prog_10_method_14_code 31 = .ok (.iconst 0, 1) := by decide +kernel
theorem d10_14_32 : decode prog_10_method_14_code 32 = .ok (.ireturn, 1) := by decide +kernel
theorem d10_14_5 : decode prog_10_method_14_code 5 = .ok (.iconst 1, 1) := by decide +kernel
theorem d10_14_6 : decode prog_10_method_14_code 6 = .ok (.ireturn, 1) := by decide +kernel
def y10_14 : MethodName := { cls := "PagedValues$Store", name := "useUnder", desc := "(II)I" }
theorem k715 : (Jvm.Cond.code ({ cls := "PagedValues$Store", name := "useUnder", desc := "(II)I" } : Jvm.MethodName) prog_10_method_14_code (3 : Nat) (Option.some Jvm.ClassFile.FieldType.int)) ∈ TB := tk_3 235 rfl rfl
theorem k712 : (Jvm.Cond.methodLink "PagedValues$Store" (66 : Nat) ({ cls := "PagedValues$Store", name := "useUnder", desc := "(II)I" } : Jvm.MethodName)) ∈ TB := tk_3 232 rfl rfl
theorem k714 : (Jvm.Cond.instanceMethod ({ cls := "PagedValues$Store", name := "useUnder", desc := "(II)I" } : Jvm.MethodName)) ∈ TB := tk_3 234 rfl rfl
theorem ks11 : Cond.selects y10_14.cls y10_14 y10_14 ∈ TB := List.mem_filter.mpr ⟨List.mem_append_left _ (List.mem_of_getElem? (i := 11) (by decide +kernel)), rfl⟩
theorem d10_13_59 : decode prog_10_method_13_code 59 = .ok (.invokestatic 69, 3) := by decide +kernel
theorem k716 : (Jvm.Cond.methodLink "PagedValues$Store" (69 : Nat) ({ cls := "java/lang/Math", name := "max", desc := "(II)I" } : Jvm.MethodName)) ∈ TB := tk_3 236 rfl rfl
theorem d10_13_62 : decode prog_10_method_13_code 62 = .ok (.istore_n 2, 1) := by decide +kernel
theorem d10_13_63 : decode prog_10_method_13_code 63 = .ok (.iinc 3 1, 3) := by decide +kernel
theorem d10_13_66 : decode prog_10_method_13_code 66 = .ok (.goto (-33), 3) := by decide +kernel
theorem d10_13_4 : decode prog_10_method_13_code 4 = .ok (.iload_n 3, 1) := by decide +kernel
theorem d10_13_5 : decode prog_10_method_13_code 5 = .ok (.iconst 2, 1) := by decide +kernel
theorem d10_13_6 : decode prog_10_method_13_code 6 = .ok (.if_icmp .ge 25, 3) := by decide +kernel
theorem d10_13_9 : decode prog_10_method_13_code 9 = .ok (.iload_n 2, 1) := by decide +kernel
theorem d10_13_10 : decode prog_10_method_13_code 10 = .ok (.aload_n 0, 1) := by decide +kernel
theorem d10_13_11 : decode prog_10_method_13_code 11 = .ok (.aload_n 0, 1) := by decide +kernel
theorem d10_13_12 : decode prog_10_method_13_code 12 = .ok (.getfield 21, 3) := by decide +kernel
theorem d10_13_15 : decode prog_10_method_13_code 15 = .ok (.iload_n 3, 1) := by decide +kernel
theorem d10_13_16 : decode prog_10_method_13_code 16 = .ok (.iaload, 1) := by decide +kernel
theorem d10_13_17 : decode prog_10_method_13_code 17 = .ok (.iload_n 1, 1) := by decide +kernel
theorem d10_13_18 : decode prog_10_method_13_code 18 = .ok (.invokevirtual 66, 3) := by decide +kernel
theorem d10_13_21 : decode prog_10_method_13_code 21 = .ok (.invokestatic 69, 3) := by decide +kernel
theorem d10_13_24 : decode prog_10_method_13_code 24 = .ok (.istore_n 2, 1) := by decide +kernel
theorem d10_13_25 : decode prog_10_method_13_code 25 = .ok (.iinc 3 1, 3) := by decide +kernel
theorem d10_13_28 : decode prog_10_method_13_code 28 = .ok (.goto (-24), 3) := by decide +kernel
def y10_13 : MethodName := { cls := "PagedValues$Store", name := "useOf", desc := "(I)I" }
theorem k711 : (Jvm.Cond.code ({ cls := "PagedValues$Store", name := "useOf", desc := "(I)I" } : Jvm.MethodName) prog_10_method_13_code (4 : Nat) (Option.some Jvm.ClassFile.FieldType.int)) ∈ TB := tk_3 231 rfl rfl
theorem k708 : (Jvm.Cond.methodLink "PagedValues$Store" (74 : Nat) ({ cls := "PagedValues$Store", name := "useOf", desc := "(I)I" } : Jvm.MethodName)) ∈ TB := tk_3 228 rfl rfl
theorem k709 : (Jvm.Cond.instanceMethod ({ cls := "PagedValues$Store", name := "useOf", desc := "(I)I" } : Jvm.MethodName)) ∈ TB := tk_3 229 rfl rfl
theorem k710 : (Jvm.Cond.selects "PagedValues$Store" ({ cls := "PagedValues$Store", name := "useOf", desc := "(I)I" } : Jvm.MethodName) ({ cls := "PagedValues$Store", name := "useOf", desc := "(I)I" } : Jvm.MethodName)) ∈ TB := tk_3 230 rfl rfl
theorem d10_15_13 : decode prog_10_method_15_code 13 = .ok (.ifCond .ne 5, 3) := by decide +kernel
theorem d10_15_18 : decode prog_10_method_15_code 18 = .ok (.iinc 2 1, 3) := by decide +kernel
theorem d10_15_21 : decode prog_10_method_15_code 21 = .ok (.goto (-19), 3) := by decide +kernel
theorem d10_15_16 : decode prog_10_method_15_code 16 = .ok (.iload_n 2, 1) := by decide +kernel
theorem d10_15_17 : decode prog_10_method_15_code 17 = .ok (.ireturn, 1) := by decide +kernel
def y10_15 : MethodName := { cls := "PagedValues$Store", name := "freeFrom", desc := "(I)I" }
theorem k707 : (Jvm.Cond.code ({ cls := "PagedValues$Store", name := "freeFrom", desc := "(I)I" } : Jvm.MethodName) prog_10_method_15_code (3 : Nat) (Option.some Jvm.ClassFile.FieldType.int)) ∈ TB := tk_3 227 rfl rfl
theorem k704 : (Jvm.Cond.methodLink "PagedValues$Store" (82 : Nat) ({ cls := "PagedValues$Store", name := "freeFrom", desc := "(I)I" } : Jvm.MethodName)) ∈ TB := tk_3 224 rfl rfl
theorem k706 : (Jvm.Cond.instanceMethod ({ cls := "PagedValues$Store", name := "freeFrom", desc := "(I)I" } : Jvm.MethodName)) ∈ TB := tk_3 226 rfl rfl
theorem ks10 : Cond.selects y10_15.cls y10_15 y10_15 ∈ TB := List.mem_filter.mpr ⟨List.mem_append_left _ (List.mem_of_getElem? (i := 10) (by decide +kernel)), rfl⟩
theorem d10_16_54 : decode prog_10_method_16_code 54 = .ok (.goto 4, 3) := by decide +kernel
theorem d10_16_58 : decode prog_10_method_16_code 58 = .ok (.istore 7, 2) := by decide +kernel
theorem d10_16_60 : decode prog_10_method_16_code 60 = .ok (.iload 6, 2) := by decide +kernel
theorem d10_16_62 : decode prog_10_method_16_code 62 = .ok (.ifCond .eq 14, 3) := by decide +kernel
theorem d10_16_76 : decode prog_10_method_16_code 76 = .ok (.iconst (-1), 1) := by decide +kernel
theorem d10_16_65 : decode prog_10_method_16_code 65 = .ok (.aload_n 0, 1) := by decide +kernel
theorem d10_16_66 : decode prog_10_method_16_code 66 = .ok (.iload 7, 2) := by decide +kernel
theorem d10_16_68 : decode prog_10_method_16_code 68 = .ok (.iconst 1, 1) := by decide +kernel
theorem d10_16_69 : decode prog_10_method_16_code 69 = .ok (.iadd, 1) := by decide +kernel
theorem d10_16_70 : decode prog_10_method_16_code 70 = .ok (.invokevirtual 82, 3) := by decide +kernel
theorem d10_16_73 : decode prog_10_method_16_code 73 = .ok (.goto 4, 3) := by decide +kernel
theorem d10_16_77 : decode prog_10_method_16_code 77 = .ok (.istore 8, 2) := by decide +kernel
theorem d10_16_79 : decode prog_10_method_16_code 79 = .ok (.iload 5, 2) := by decide +kernel
theorem d10_16_81 : decode prog_10_method_16_code 81 = .ok (.ifCond .eq 9, 3) := by decide +kernel
theorem d10_16_90 : decode prog_10_method_16_code 90 = .ok (.iload 6, 2) := by decide +kernel
theorem d10_16_92 : decode prog_10_method_16_code 92 = .ok (.ifCond .eq 12, 3) := by decide +kernel
theorem d10_16_104 : decode prog_10_method_16_code 104 = .ok (.iload 5, 2) := by decide +kernel
theorem d10_16_106 : decode prog_10_method_16_code 106 = .ok (.ifCond .eq 9, 3) := by decide +kernel
theorem d10_16_109 : decode prog_10_method_16_code 109 = .ok (.aload_n 0, 1) := by decide +kernel
theorem d10_16_110 : decode prog_10_method_16_code 110 = .ok (.iload 7, 2) := by decide +kernel
theorem d10_16_112 : decode prog_10_method_16_code 112 = .ok (.invokevirtual 85, 3) := by decide +kernel
theorem d10_18_0 : decode prog_10_method_18_code 0 = .ok (.iconst 0, 1) := by decide +kernel
theorem d10_18_1 : decode prog_10_method_18_code 1 = .ok (.istore_n 2, 1) := by decide +kernel
theorem d10_18_30 : decode prog_10_method_18_code 30 = .ok (.aload_n 0, 1) := by decide +kernel
theorem d10_18_31 : decode prog_10_method_18_code 31 = .ok (.invokevirtual 100, 3) := by decide +kernel
theorem d10_21_0 : decode prog_10_method_21_code 0 = .ok (.aload_n 0, 1) := by decide +kernel
theorem d10_21_1 : decode prog_10_method_21_code 1 = .ok (.dup, 1) := by decide +kernel
theorem d10_21_2 : decode prog_10_method_21_code 2 = .ok (.getfield 103, 3) := by decide +kernel
theorem k244 : (Jvm.Cond.fieldLink "PagedValues$Store" (103 : Nat) "PagedValues$Store" "blocks" "I") ∈ TB := tk_2 4 rfl rfl
theorem d10_21_5 : decode prog_10_method_21_code 5 = .ok (.iconst 1, 1) := by decide +kernel
theorem d10_21_6 : decode prog_10_method_21_code 6 = .ok (.iadd, 1) := by decide +kernel
theorem d10_21_7 : decode prog_10_method_21_code 7 = .ok (.putfield 103, 3) := by decide +kernel
theorem d10_21_10 : decode prog_10_method_21_code 10 = .ok (.aload_n 0, 1) := by decide +kernel
theorem d10_21_11 : decode prog_10_method_21_code 11 = .ok (.getfield 107, 3) := by decide +kernel
theorem k246 : (Jvm.Cond.fieldLink "PagedValues$Store" (107 : Nat) "PagedValues$Store" "blocksLeft" "I") ∈ TB := tk_2 6 rfl rfl
theorem d10_21_14 : decode prog_10_method_21_code 14 = .ok (.ifCond .le 24, 3) := by decide +kernel
theorem d10_21_17 : decode prog_10_method_21_code 17 = .ok (.aload_n 0, 1) := by decide +kernel
theorem d10_21_18 : decode prog_10_method_21_code 18 = .ok (.dup, 1) := by decide +kernel
theorem d10_21_19 : decode prog_10_method_21_code 19 = .ok (.getfield 107, 3) := by decide +kernel
theorem d10_21_22 : decode prog_10_method_21_code 22 = .ok (.iconst 1, 1) := by decide +kernel
theorem d10_21_23 : decode prog_10_method_21_code 23 = .ok (.isub, 1) := by decide +kernel
theorem d10_21_24 : decode prog_10_method_21_code 24 = .ok (.putfield 107, 3) := by decide +kernel
theorem d10_21_27 : decode prog_10_method_21_code 27 = .ok (.aload_n 0, 1) := by decide +kernel
theorem d10_21_28 : decode prog_10_method_21_code 28 = .ok (.getfield 107, 3) := by decide +kernel
theorem d10_21_31 : decode prog_10_method_21_code 31 = .ok (.ifCond .ne 7, 3) := by decide +kernel
theorem d10_21_34 : decode prog_10_method_21_code 34 = .ok (.aload_n 0, 1) := by decide +kernel
theorem d10_21_35 : decode prog_10_method_21_code 35 = .ok (.invokevirtual 110, 3) := by decide +kernel
theorem d10_22_0 : decode prog_10_method_22_code 0 = .ok (.aload_n 0, 1) := by decide +kernel
theorem d10_22_1 : decode prog_10_method_22_code 1 = .ok (.iconst 1, 1) := by decide +kernel
theorem d10_22_2 : decode prog_10_method_22_code 2 = .ok (.putfield 89, 3) := by decide +kernel
theorem k248 : (Jvm.Cond.fieldLink "PagedValues$Store" (89 : Nat) "PagedValues$Store" "stopped" "Z") ∈ TB := tk_2 8 rfl rfl
theorem d10_22_5 : decode prog_10_method_22_code 5 = .ok (.iconst 0, 1) := by decide +kernel
theorem d10_22_6 : decode prog_10_method_22_code 6 = .ok (.istore_n 1, 1) := by decide +kernel
theorem d10_22_25 : decode prog_10_method_22_code 25 = .ok (.return_, 1) := by decide +kernel
theorem d10_22_7 : decode prog_10_method_22_code 7 = .ok (.iload_n 1, 1) := by decide +kernel
theorem d10_22_8 : decode prog_10_method_22_code 8 = .ok (.iconst 3, 1) := by decide +kernel
theorem d10_22_9 : decode prog_10_method_22_code 9 = .ok (.if_icmp .ge 16, 3) := by decide +kernel
theorem d10_22_12 : decode prog_10_method_22_code 12 = .ok (.aload_n 0, 1) := by decide +kernel
theorem d10_22_13 : decode prog_10_method_22_code 13 = .ok (.getfield 24, 3) := by decide +kernel
theorem d10_22_16 : decode prog_10_method_22_code 16 = .ok (.iload_n 1, 1) := by decide +kernel
theorem d10_22_17 : decode prog_10_method_22_code 17 = .ok (.iconst 0, 1) := by decide +kernel
theorem d10_22_18 : decode prog_10_method_22_code 18 = .ok (.bastore, 1) := by decide +kernel
theorem d10_22_19 : decode prog_10_method_22_code 19 = .ok (.iinc 1 1, 3) := by decide +kernel
theorem d10_22_22 : decode prog_10_method_22_code 22 = .ok (.goto (-15), 3) := by decide +kernel
def y10_22 : MethodName := { cls := "PagedValues$Store", name := "stop", desc := "()V" }
theorem k728 : (Jvm.Cond.code ({ cls := "PagedValues$Store", name := "stop", desc := "()V" } : Jvm.MethodName) prog_10_method_22_code (2 : Nat) (Option.none : Option Jvm.ClassFile.FieldType)) ∈ TB := tk_4 8 rfl rfl
theorem k725 : (Jvm.Cond.methodLink "PagedValues$Store" (110 : Nat) ({ cls := "PagedValues$Store", name := "stop", desc := "()V" } : Jvm.MethodName)) ∈ TB := tk_4 5 rfl rfl
theorem k727 : (Jvm.Cond.instanceMethod ({ cls := "PagedValues$Store", name := "stop", desc := "()V" } : Jvm.MethodName)) ∈ TB := tk_4 7 rfl rfl
theorem ks14 : Cond.selects y10_22.cls y10_22 y10_22 ∈ TB := List.mem_filter.mpr ⟨List.mem_append_left _ (List.mem_of_getElem? (i := 14) (by decide +kernel)), rfl⟩
theorem d10_21_38 : decode prog_10_method_21_code 38 = .ok (.return_, 1) := by decide +kernel
def y10_21 : MethodName := { cls := "PagedValues$Store", name := "countBlock", desc := "()V" }
theorem k724 : (Jvm.Cond.code ({ cls := "PagedValues$Store", name := "countBlock", desc := "()V" } : Jvm.MethodName) prog_10_method_21_code (1 : Nat) (Option.none : Option Jvm.ClassFile.FieldType)) ∈ TB := tk_4 4 rfl rfl
theorem k721 : (Jvm.Cond.methodLink "PagedValues$Store" (100 : Nat) ({ cls := "PagedValues$Store", name := "countBlock", desc := "()V" } : Jvm.MethodName)) ∈ TB := tk_4 1 rfl rfl
theorem k723 : (Jvm.Cond.instanceMethod ({ cls := "PagedValues$Store", name := "countBlock", desc := "()V" } : Jvm.MethodName)) ∈ TB := tk_4 3 rfl rfl
theorem ks13 : Cond.selects y10_21.cls y10_21 y10_21 ∈ TB := List.mem_filter.mpr ⟨List.mem_append_left _ (List.mem_of_getElem? (i := 13) (by decide +kernel)), rfl⟩
theorem d10_18_34 : decode prog_10_method_18_code 34 = .ok (.return_, 1) := by decide +kernel
theorem d10_18_2 : decode prog_10_method_18_code 2 = .ok (.iload_n 2, 1) := by decide +kernel
theorem d10_18_3 : decode prog_10_method_18_code 3 = .ok (.iconst 4, 1) := by decide +kernel
theorem d10_18_4 : decode prog_10_method_18_code 4 = .ok (.if_icmp .ge 26, 3) := by decide +kernel
theorem d10_18_7 : decode prog_10_method_18_code 7 = .ok (.aload_n 0, 1) := by decide +kernel
theorem d10_18_8 : decode prog_10_method_18_code 8 = .ok (.getfield 11, 3) := by decide +kernel
theorem d10_18_11 : decode prog_10_method_18_code 11 = .ok (.iload_n 1, 1) := by decide +kernel
theorem d10_18_12 : decode prog_10_method_18_code 12 = .ok (.aaload, 1) := by decide +kernel
theorem d10_18_13 : decode prog_10_method_18_code 13 = .ok (.getfield 59, 3) := by decide +kernel
theorem d10_18_16 : decode prog_10_method_18_code 16 = .ok (.iload_n 2, 1) := by decide +kernel
theorem d10_18_17 : decode prog_10_method_18_code 17 = .ok (.aload_n 0, 1) := by decide +kernel
theorem d10_18_18 : decode prog_10_method_18_code 18 = .ok (.getfield 33, 3) := by decide +kernel
theorem d10_18_21 : decode prog_10_method_18_code 21 = .ok (.iload_n 2, 1) := by decide +kernel
theorem d10_18_22 : decode prog_10_method_18_code 22 = .ok (.aaload, 1) := by decide +kernel
theorem d10_18_23 : decode prog_10_method_18_code 23 = .ok (.aastore, 1) := by decide +kernel
theorem d10_18_24 : decode prog_10_method_18_code 24 = .ok (.iinc 2 1, 3) := by decide +kernel
theorem d10_18_27 : decode prog_10_method_18_code 27 = .ok (.goto (-25), 3) := by decide +kernel
def y10_18 : MethodName := { cls := "PagedValues$Store", name := "writeLeaf", desc := "(I)V" }
theorem k720 : (Jvm.Cond.code ({ cls := "PagedValues$Store", name := "writeLeaf", desc := "(I)V" } : Jvm.MethodName) prog_10_method_18_code (3 : Nat) (Option.none : Option Jvm.ClassFile.FieldType)) ∈ TB := tk_4 0 rfl rfl
theorem k717 : (Jvm.Cond.methodLink "PagedValues$Store" (85 : Nat) ({ cls := "PagedValues$Store", name := "writeLeaf", desc := "(I)V" } : Jvm.MethodName)) ∈ TB := tk_3 237 rfl rfl
theorem k719 : (Jvm.Cond.instanceMethod ({ cls := "PagedValues$Store", name := "writeLeaf", desc := "(I)V" } : Jvm.MethodName)) ∈ TB := tk_3 239 rfl rfl
theorem ks12 : Cond.selects y10_18.cls y10_18 y10_18 ∈ TB := List.mem_filter.mpr ⟨List.mem_append_left _ (List.mem_of_getElem? (i := 12) (by decide +kernel)), rfl⟩
theorem d10_16_115 : decode prog_10_method_16_code 115 = .ok (.iload 6, 2) := by decide +kernel
theorem d10_16_117 : decode prog_10_method_16_code 117 = .ok (.ifCond .eq 21, 3) := by decide +kernel
theorem d10_16_120 : decode prog_10_method_16_code 120 = .ok (.aload_n 0, 1) := by decide +kernel
theorem d10_16_121 : decode prog_10_method_16_code 121 = .ok (.getfield 89, 3) := by decide +kernel
theorem d10_16_124 : decode prog_10_method_16_code 124 = .ok (.ifCond .ne 14, 3) := by decide +kernel
theorem d10_16_127 : decode prog_10_method_16_code 127 = .ok (.aload_n 0, 1) := by decide +kernel
theorem d10_16_128 : decode prog_10_method_16_code 128 = .ok (.iload 8, 2) := by decide +kernel
theorem d10_16_130 : decode prog_10_method_16_code 130 = .ok (.iload_n 3, 1) := by decide +kernel
theorem d10_16_131 : decode prog_10_method_16_code 131 = .ok (.iload 7, 2) := by decide +kernel
theorem d10_16_133 : decode prog_10_method_16_code 133 = .ok (.iload 4, 2) := by decide +kernel
theorem d10_16_135 : decode prog_10_method_16_code 135 = .ok (.invokevirtual 93, 3) := by decide +kernel
theorem d10_19_0 : decode prog_10_method_19_code 0 = .ok (.aload_n 0, 1) := by decide +kernel
theorem d10_19_1 : decode prog_10_method_19_code 1 = .ok (.getfield 11, 3) := by decide +kernel
theorem d10_19_4 : decode prog_10_method_19_code 4 = .ok (.iload_n 1, 1) := by decide +kernel
theorem d10_19_5 : decode prog_10_method_19_code 5 = .ok (.aaload, 1) := by decide +kernel
theorem d10_19_6 : decode prog_10_method_19_code 6 = .ok (.getfield 49, 3) := by decide +kernel
theorem d10_19_9 : decode prog_10_method_19_code 9 = .ok (.iload_n 2, 1) := by decide +kernel
theorem d10_19_10 : decode prog_10_method_19_code 10 = .ok (.iload_n 3, 1) := by decide +kernel
theorem d10_19_11 : decode prog_10_method_19_code 11 = .ok (.iastore, 1) := by decide +kernel
theorem d10_19_12 : decode prog_10_method_19_code 12 = .ok (.aload_n 0, 1) := by decide +kernel
theorem d10_19_13 : decode prog_10_method_19_code 13 = .ok (.getfield 11, 3) := by decide +kernel
theorem d10_19_16 : decode prog_10_method_19_code 16 = .ok (.iload_n 1, 1) := by decide +kernel
theorem d10_19_17 : decode prog_10_method_19_code 17 = .ok (.aaload, 1) := by decide +kernel
theorem d10_19_18 : decode prog_10_method_19_code 18 = .ok (.getfield 49, 3) := by decide +kernel
theorem d10_19_21 : decode prog_10_method_19_code 21 = .ok (.iconst 1, 1) := by decide +kernel
theorem d10_19_22 : decode prog_10_method_19_code 22 = .ok (.iload_n 2, 1) := by decide +kernel
theorem d10_19_23 : decode prog_10_method_19_code 23 = .ok (.isub, 1) := by decide +kernel
theorem d10_19_24 : decode prog_10_method_19_code 24 = .ok (.iload 4, 2) := by decide +kernel
theorem d10_19_26 : decode prog_10_method_19_code 26 = .ok (.iastore, 1) := by decide +kernel
theorem d10_19_27 : decode prog_10_method_19_code 27 = .ok (.aload_n 0, 1) := by decide +kernel
theorem d10_19_28 : decode prog_10_method_19_code 28 = .ok (.invokevirtual 100, 3) := by decide +kernel
theorem d10_19_31 : decode prog_10_method_19_code 31 = .ok (.return_, 1) := by decide +kernel
def y10_19 : MethodName := { cls := "PagedValues$Store", name := "writeRoot", desc := "(IIII)V" }
theorem k732 : (Jvm.Cond.code ({ cls := "PagedValues$Store", name := "writeRoot", desc := "(IIII)V" } : Jvm.MethodName) prog_10_method_19_code (5 : Nat) (Option.none : Option Jvm.ClassFile.FieldType)) ∈ TB := tk_4 12 rfl rfl
theorem k729 : (Jvm.Cond.methodLink "PagedValues$Store" (93 : Nat) ({ cls := "PagedValues$Store", name := "writeRoot", desc := "(IIII)V" } : Jvm.MethodName)) ∈ TB := tk_4 9 rfl rfl
theorem k731 : (Jvm.Cond.instanceMethod ({ cls := "PagedValues$Store", name := "writeRoot", desc := "(IIII)V" } : Jvm.MethodName)) ∈ TB := tk_4 11 rfl rfl
theorem ks15 : Cond.selects y10_19.cls y10_19 y10_19 ∈ TB := List.mem_filter.mpr ⟨List.mem_append_left _ (List.mem_of_getElem? (i := 15) (by decide +kernel)), rfl⟩
theorem d10_16_138 : decode prog_10_method_16_code 138 = .ok (.aload_n 0, 1) := by decide +kernel
theorem d10_16_139 : decode prog_10_method_16_code 139 = .ok (.getfield 89, 3) := by decide +kernel
theorem d10_16_142 : decode prog_10_method_16_code 142 = .ok (.ifCond .ne 9, 3) := by decide +kernel
theorem d10_16_145 : decode prog_10_method_16_code 145 = .ok (.aload_n 0, 1) := by decide +kernel
theorem d10_16_146 : decode prog_10_method_16_code 146 = .ok (.iload 8, 2) := by decide +kernel
theorem d10_16_148 : decode prog_10_method_16_code 148 = .ok (.invokevirtual 97, 3) := by decide +kernel
theorem d10_20_0 : decode prog_10_method_20_code 0 = .ok (.aload_n 0, 1) := by decide +kernel
theorem d10_20_1 : decode prog_10_method_20_code 1 = .ok (.invokevirtual 38, 3) := by decide +kernel
theorem d10_20_4 : decode prog_10_method_20_code 4 = .ok (.istore_n 2, 1) := by decide +kernel
theorem d10_20_5 : decode prog_10_method_20_code 5 = .ok (.aload_n 0, 1) := by decide +kernel
theorem d10_20_6 : decode prog_10_method_20_code 6 = .ok (.getfield 21, 3) := by decide +kernel
theorem d10_20_9 : decode prog_10_method_20_code 9 = .ok (.iconst 1, 1) := by decide +kernel
theorem d10_20_10 : decode prog_10_method_20_code 10 = .ok (.iload_n 2, 1) := by decide +kernel
theorem d10_20_11 : decode prog_10_method_20_code 11 = .ok (.isub, 1) := by decide +kernel
theorem d10_20_12 : decode prog_10_method_20_code 12 = .ok (.iload_n 1, 1) := by decide +kernel
theorem d10_20_13 : decode prog_10_method_20_code 13 = .ok (.iastore, 1) := by decide +kernel
theorem d10_20_14 : decode prog_10_method_20_code 14 = .ok (.aload_n 0, 1) := by decide +kernel
theorem d10_20_15 : decode prog_10_method_20_code 15 = .ok (.getfield 17, 3) := by decide +kernel
theorem d10_20_18 : decode prog_10_method_20_code 18 = .ok (.iconst 1, 1) := by decide +kernel
theorem d10_20_19 : decode prog_10_method_20_code 19 = .ok (.iload_n 2, 1) := by decide +kernel
theorem d10_20_20 : decode prog_10_method_20_code 20 = .ok (.isub, 1) := by decide +kernel
theorem d10_20_21 : decode prog_10_method_20_code 21 = .ok (.aload_n 0, 1) := by decide +kernel
theorem d10_20_22 : decode prog_10_method_20_code 22 = .ok (.getfield 17, 3) := by decide +kernel
theorem d10_20_25 : decode prog_10_method_20_code 25 = .ok (.iload_n 2, 1) := by decide +kernel
theorem d10_20_26 : decode prog_10_method_20_code 26 = .ok (.iaload, 1) := by decide +kernel
theorem d10_20_27 : decode prog_10_method_20_code 27 = .ok (.iconst 1, 1) := by decide +kernel
theorem d10_20_28 : decode prog_10_method_20_code 28 = .ok (.iadd, 1) := by decide +kernel
theorem d10_20_29 : decode prog_10_method_20_code 29 = .ok (.iastore, 1) := by decide +kernel
theorem d10_20_30 : decode prog_10_method_20_code 30 = .ok (.aload_n 0, 1) := by decide +kernel
theorem d10_20_31 : decode prog_10_method_20_code 31 = .ok (.invokevirtual 100, 3) := by decide +kernel
theorem d10_20_34 : decode prog_10_method_20_code 34 = .ok (.return_, 1) := by decide +kernel
def y10_20 : MethodName := { cls := "PagedValues$Store", name := "writeMeta", desc := "(I)V" }
theorem k736 : (Jvm.Cond.code ({ cls := "PagedValues$Store", name := "writeMeta", desc := "(I)V" } : Jvm.MethodName) prog_10_method_20_code (3 : Nat) (Option.none : Option Jvm.ClassFile.FieldType)) ∈ TB := tk_4 16 rfl rfl
theorem k733 : (Jvm.Cond.methodLink "PagedValues$Store" (97 : Nat) ({ cls := "PagedValues$Store", name := "writeMeta", desc := "(I)V" } : Jvm.MethodName)) ∈ TB := tk_4 13 rfl rfl
theorem k735 : (Jvm.Cond.instanceMethod ({ cls := "PagedValues$Store", name := "writeMeta", desc := "(I)V" } : Jvm.MethodName)) ∈ TB := tk_4 15 rfl rfl
theorem ks16 : Cond.selects y10_20.cls y10_20 y10_20 ∈ TB := List.mem_filter.mpr ⟨List.mem_append_left _ (List.mem_of_getElem? (i := 16) (by decide +kernel)), rfl⟩
theorem d10_16_151 : decode prog_10_method_16_code 151 = .ok (.aload_n 0, 1) := by decide +kernel
theorem d10_16_152 : decode prog_10_method_16_code 152 = .ok (.getfield 89, 3) := by decide +kernel
theorem d10_16_155 : decode prog_10_method_16_code 155 = .ok (.ifCond .eq 8, 3) := by decide +kernel
theorem d10_16_163 : decode prog_10_method_16_code 163 = .ok (.iconst 0, 1) := by decide +kernel
theorem d10_16_158 : decode prog_10_method_16_code 158 = .ok (.bipush (-9), 2) := by decide +kernel
theorem d10_16_160 : decode prog_10_method_16_code 160 = .ok (.goto 4, 3) := by decide +kernel
theorem d10_16_164 : decode prog_10_method_16_code 164 = .ok (.ireturn, 1) := by decide +kernel
theorem d10_16_95 : decode prog_10_method_16_code 95 = .ok (.iload 8, 2) := by decide +kernel
theorem d10_16_97 : decode prog_10_method_16_code 97 = .ok (.iconst (-1), 1) := by decide +kernel
theorem d10_16_98 : decode prog_10_method_16_code 98 = .ok (.if_icmp .ne 6, 3) := by decide +kernel
theorem d10_16_101 : decode prog_10_method_16_code 101 = .ok (.bipush (-2), 2) := by decide +kernel
theorem d10_16_103 : decode prog_10_method_16_code 103 = .ok (.ireturn, 1) := by decide +kernel
theorem d10_16_84 : decode prog_10_method_16_code 84 = .ok (.iload 7, 2) := by decide +kernel
theorem d10_16_86 : decode prog_10_method_16_code 86 = .ok (.iconst (-1), 1) := by decide +kernel
theorem d10_16_87 : decode prog_10_method_16_code 87 = .ok (.if_icmp .eq 14, 3) := by decide +kernel
def y10_16 : MethodName := { cls := "PagedValues$Store", name := "change", desc := "(ILPagedValues$Value;)I" }
def c_Store_currentMeta (Zd : Nat → Nat) (K : KE) (o : Nat) (st : CS) : Option (Int32) := (gQ K st o 9 1).bind fun x11 => x11.bind fun a12z => (rA K st a12z 1 (1 : Int32)).bind fun x13 => (gQ K st o 9 1).bind fun x14 => x14.bind fun a15z => (rA K st a15z 1 (0 : Int32)).bind fun x16 => (if x13 ≤ x16 then (some (0 : Int32)) else (some (1 : Int32))).bind fun e17 => some e17
set_option maxHeartbeats 4000000 in
set_option maxRecDepth 100000 in
theorem cc_Store_currentMeta (l : Launch) (G : Gk) (Zd : Nat → Nat) (K : KE) (o : Nat) (st : CS) (r0 : Int32) (hm : c_Store_currentMeta Zd K o st = some r0) : CT l y10_2 prog_10_method_2_code 1 (some .int) G Zd K (0) [.ref o] st (hI G Zd r0 st) := by
  refine goH (d := 0) (y := y10_2) (cc := prog_10_method_2_code) (maxL := 1) (ret := (some .int)) (av := [.ref o]) (Qc := hI G Zd r0 st) "PagedValues$Store" rfl (by decide) (c1_c rfl c1_n) (Nat.le_of_ble_eq_true rfl) ?_
  intro p e s m below meth c ls A args Q hQ hx hb hr hlk hml hown hts hin hl hE hw
  have hl : lw ls 1 [(0, .ref o)] := hl
  have hZ := hE.2.2.1
  have h := hm
  clear hm
  refine lv_aload_n hx hb d10_2_0 rfl (lv_at hl.1 0 rfl) ?_
  obtain ⟨x11, hr, h⟩ := ob h
  refine xg_q (ci := 9) (C := r_9) (T := f_9) (N := 9) (ref := "PagedValues$Store") hx hb hts (fun w h => List.mem_cons_of_mem _ (ly_9 w h)) hown hE hw rfl 1 (by decide) (hts _ (List.mem_cons_of_mem _ k237)) (fun _ h9 => h9) hr d10_2_1 ?_
  clear hr
  refine lv_iconst (v := 1) hx hb d10_2_4 (by decide) ?_
  obtain ⟨a12z, hn12, h⟩ := ob h
  have hn12 : x11 = some a12z := hn12
  refine W.eq (g2 := F0 m 5 ls [.int 1, .ref a12z]) (by rw [hn12]; rfl) ?_
  obtain ⟨x13, hr, h⟩ := ob h
  refine xa_i hx hb hE hw (i := (1 : Int32)) hr d10_2_5 ?_
  clear hr
  refine lv_aload_n hx hb d10_2_6 rfl (lv_at hl.1 0 rfl) ?_
  obtain ⟨x14, hr, h⟩ := ob h
  refine xg_q (ci := 9) (C := r_9) (T := f_9) (N := 9) (ref := "PagedValues$Store") hx hb hts (fun w h => List.mem_cons_of_mem _ (ly_9 w h)) hown hE hw rfl 1 (by decide) (hts _ (List.mem_cons_of_mem _ k237)) (fun _ h9 => h9) hr d10_2_7 ?_
  clear hr
  refine lv_iconst (v := 0) hx hb d10_2_10 (by decide) ?_
  obtain ⟨a15z, hn15, h⟩ := ob h
  have hn15 : x14 = some a15z := hn15
  refine W.eq (g2 := F0 m 11 ls [.int 0, .ref a15z, .int x13]) (by rw [hn15]; rfl) ?_
  obtain ⟨x16, hr, h⟩ := ob h
  refine xa_i hx hb hE hw (i := (0 : Int32)) hr d10_2_11 ?_
  clear hr
  obtain ⟨e17, hX, h⟩ := ob h
  have hj : ∀ (H : Heap) (locs : List Loc) (cells slots : Nat) (ls : Array Slot), lw ls 1 [(0, .ref o)] → wsH G Zd A s st H locs → W p l e (rmH Zd (0) st.1) s m args below meth c H locs cells slots Q (F0 m 20 ls [.int e17]) := by
    intro H locs cells slots ls hl hw
    cases h
    exact finH_i hQ hx hb hr hlk hE hw d10_2_20
  clear h
  refine lv_icmp_le (tgt := 19) hx hb d10_2_12 rfl (fun c19 => ?_) (fun c19 => ?_)
  ·
    replace h := (if_pos c19).symm.trans hX
    refine lv_iconst (v := 0) hx hb d10_2_19 (by decide) ?_
    have e9 := Option.some.inj h
    subst e17
    have hl := lw_sub hl (l' := [(0, .ref o)]) [0] rfl
    exact hj _ _ _ _ _ hl hw
  ·
    replace h := (if_neg c19).symm.trans hX
    refine lv_iconst (v := 1) hx hb d10_2_15 (by decide) ?_
    refine lv_goto (tgt := 20) hx hb d10_2_16 rfl ?_
    have e9 := Option.some.inj h
    subst e17
    have hl := lw_sub hl (l' := [(0, .ref o)]) [0] rfl
    exact hj _ _ _ _ _ hl hw
def c_Store_currentRoot (Zd : Nat → Nat) (K : KE) (o : Nat) (st : CS) : Option (Int32) := (gQ K st o 9 2).bind fun x11 => (isO K st o 9).bind fun _ => (c_Store_currentMeta Zd K o st).bind fun x12 => x11.bind fun a15z => (rA K st a15z 1 x12).bind fun x16 => some x16
set_option maxHeartbeats 4000000 in
set_option maxRecDepth 100000 in
theorem cc_Store_currentRoot (l : Launch) (G : Gk) (Zd : Nat → Nat) (K : KE) (o : Nat) (st : CS) (r0 : Int32) (hm : c_Store_currentRoot Zd K o st = some r0) : CT l y10_3 prog_10_method_3_code 1 (some .int) G Zd K (1) [.ref o] st (hI G Zd r0 st) := by
  refine goH (d := 1) (y := y10_3) (cc := prog_10_method_3_code) (maxL := 1) (ret := (some .int)) (av := [.ref o]) (Qc := hI G Zd r0 st) "PagedValues$Store" rfl (by decide) (c1_c rfl c1_n) (Nat.le_of_ble_eq_true rfl) ?_
  intro p e s m below meth c ls A args Q hQ hx hb hr hlk hml hown hts hin hl hE hw
  have hl : lw ls 1 [(0, .ref o)] := hl
  have hZ := hE.2.2.1
  have h := hm
  clear hm
  refine lv_aload_n hx hb d10_3_0 rfl (lv_at hl.1 0 rfl) ?_
  obtain ⟨x11, hr, h⟩ := ob h
  refine xg_q (ci := 9) (C := r_9) (T := f_9) (N := 9) (ref := "PagedValues$Store") hx hb hts (fun w h => List.mem_cons_of_mem _ (ly_9 w h)) hown hE hw rfl 2 (by decide) (hts _ (List.mem_cons_of_mem _ k239)) (fun _ h9 => h9) hr d10_3_1 ?_
  clear hr
  refine lv_aload_n hx hb d10_3_4 rfl (lv_at hl.1 0 rfl) ?_
  obtain ⟨u9, ho, h⟩ := ob h
  obtain ⟨x12, hc, h⟩ := ob h
  refine hV_i (ci := 9) (As := []) (rest := [va_rf x11]) ⟨hx, hb, hml, hown, hts⟩ (cc_Store_currentMeta l G Zd K o st x12 hc) (kw_V (n := 0) hts k690 k687 k13 k688 k689 (by decide +kernel) ⟨Nat.le_of_ble_eq_true rfl, Nat.le_of_ble_eq_true rfl⟩) hE hw rfl rfl ho rfl hl.1.1 rfl (c1_8 (c1_c (rf_cat _) c1_n) (Nat.le_of_ble_eq_true rfl)) d10_3_5 (fun H locs cells slots hw => ?_)
  clear hc ho u9
  refine W.eq (g2 := F0 m 8 ls [.int x12, va_rf x11]) rfl ?_
  obtain ⟨a15z, hn15, h⟩ := ob h
  have hn15 : x11 = some a15z := hn15
  refine W.eq (g2 := F0 m 8 ls [.int x12, .ref a15z]) (by rw [hn15]; rfl) ?_
  obtain ⟨x16, hr, h⟩ := ob h
  refine xa_i hx hb hE hw (i := x12) hr d10_3_8 ?_
  clear hr
  cases h
  exact finH_i hQ hx hb hr hlk hE hw d10_3_9
def c_Store_leafOf (Zd : Nat → Nat) (K : KE) (o : Nat) (a0 : Int32) (a1 : Int32) (st : CS) : Option (Int32) := (if a0 = ((-1) : Int32) then (some ((-1) : Int32)) else ((gQ K st o 9 0).bind fun x14 => x14.bind fun a15z => (rQ K st a15z 6 a0).bind fun x16 => x16.bind fun a17z => (gQ K st a17z 10 1).bind fun x18 => x18.bind fun a19z => (rA K st a19z 1 a1).bind fun x20 => some x20)).bind fun e11 => some e11
set_option maxHeartbeats 4000000 in
set_option maxRecDepth 100000 in
theorem cc_Store_leafOf (l : Launch) (G : Gk) (Zd : Nat → Nat) (K : KE) (o : Nat) (a0 : Int32) (a1 : Int32) (st : CS) (r0 : Int32) (hm : c_Store_leafOf Zd K o a0 a1 st = some r0) : CT l y10_10 prog_10_method_10_code 3 (some .int) G Zd K (0) [.ref o, .int a0, .int a1] st (hI G Zd r0 st) := by
  refine goH (d := 0) (y := y10_10) (cc := prog_10_method_10_code) (maxL := 3) (ret := (some .int)) (av := [.ref o, .int a0, .int a1]) (Qc := hI G Zd r0 st) "PagedValues$Store" rfl (by decide) (c1_c rfl (c1_c rfl (c1_c rfl c1_n))) (Nat.le_of_ble_eq_true rfl) ?_
  intro p e s m below meth c ls A args Q hQ hx hb hr hlk hml hown hts hin hl hE hw
  have hl : lw ls 3 [(0, .ref o), (1, .int a0), (2, .int a1)] := hl
  have hZ := hE.2.2.1
  have h := hm
  clear hm
  refine lv_iload_n hx hb d10_10_0 rfl (lv_at hl.1 1 rfl) ?_
  refine lv_iconst (v := (-1)) hx hb d10_10_1 (by decide) ?_
  obtain ⟨e11, hX, h⟩ := ob h
  have hj : ∀ (H : Heap) (locs : List Loc) (cells slots : Nat) (ls : Array Slot), lw ls 3 [(0, .ref o), (1, .int a0), (2, .int a1)] → wsH G Zd A s st H locs → W p l e (rmH Zd (0) st.1) s m args below meth c H locs cells slots Q (F0 m 20 ls [.int e11]) := by
    intro H locs cells slots ls hl hw
    cases h
    exact finH_i hQ hx hb hr hlk hE hw d10_10_20
  clear h
  refine lv_icmp_ne (tgt := 9) hx hb d10_10_2 rfl (fun c13 => ?_) (fun c13 => ?_)
  ·
    replace h := (if_neg c13).symm.trans hX
    refine lv_aload_n hx hb d10_10_9 rfl (lv_at hl.1 0 rfl) ?_
    obtain ⟨x14, hr, h⟩ := ob h
    refine xg_q (ci := 9) (C := r_9) (T := f_9) (N := 9) (ref := "PagedValues$Store") hx hb hts (fun w h => List.mem_cons_of_mem _ (ly_9 w h)) hown hE hw rfl 0 (by decide) (hts _ (List.mem_cons_of_mem _ k236)) (fun _ h9 => h9) hr d10_10_10 ?_
    clear hr
    refine lv_iload_n hx hb d10_10_13 rfl (lv_at hl.1 1 rfl) ?_
    obtain ⟨a15z, hn15, h⟩ := ob h
    have hn15 : x14 = some a15z := hn15
    refine W.eq (g2 := F0 m 14 ls [.int a0, .ref a15z]) (by rw [hn15]; rfl) ?_
    obtain ⟨x16, hr, h⟩ := ob h
    refine xa_q hx hb hE hw (t := 6) rfl (i := a0) hr d10_10_14 ?_
    clear hr
    obtain ⟨a17z, hn17, h⟩ := ob h
    have hn17 : x16 = some a17z := hn17
    refine W.eq (g2 := F0 m 15 ls [.ref a17z]) (by rw [hn17]; rfl) ?_
    obtain ⟨x18, hr, h⟩ := ob h
    refine xgN_q (ci := 10) (C := r_10) (T := f_10) (N := 2) (ref := "PagedValues$Page") hx hb hts (fun w h => List.mem_cons_of_mem _ (ly_10 w h)) hown hE hw rfl 1 (by decide) (va_Nw.use rfl (hZ.1.1 _ kn229)) (fun _ h9 => h9) hr d10_10_15 ?_
    clear hr
    refine lv_iload_n hx hb d10_10_18 rfl (lv_at hl.1 2 rfl) ?_
    obtain ⟨a19z, hn19, h⟩ := ob h
    have hn19 : x18 = some a19z := hn19
    refine W.eq (g2 := F0 m 19 ls [.int a1, .ref a19z]) (by rw [hn19]; rfl) ?_
    obtain ⟨x20, hr, h⟩ := ob h
    refine xa_i hx hb hE hw (i := a1) hr d10_10_19 ?_
    clear hr
    have e9 := Option.some.inj h
    subst e11
    have hl := lw_sub hl (l' := [(0, .ref o), (1, .int a0), (2, .int a1)]) [0, 1, 2] rfl
    exact hj _ _ _ _ _ hl hw
  ·
    replace h := (if_pos c13).symm.trans hX
    refine lv_iconst (v := (-1)) hx hb d10_10_5 (by decide) ?_
    refine lv_goto (tgt := 20) hx hb d10_10_6 rfl ?_
    have e9 := Option.some.inj h
    subst e11
    have hl := lw_sub hl (l' := [(0, .ref o), (1, .int a0), (2, .int a1)]) [0, 1, 2] rfl
    exact hj _ _ _ _ _ hl hw
def c_PagedValues_isId (Zd : Nat → Nat) (K : KE) (a0 : Int32) (st : CS) : Option (Int32) := (if a0 < (0 : Int32) then (some (0 : Int32)) else (if (8 : Int32) ≤ a0 then (some (0 : Int32)) else (some (1 : Int32)))).bind fun e11 => (bz e11).bind fun _ => some e11
set_option maxHeartbeats 4000000 in
set_option maxRecDepth 100000 in
theorem cc_PagedValues_isId (l : Launch) (G : Gk) (Zd : Nat → Nat) (K : KE) (a0 : Int32) (st : CS) (r0 : Int32) (hm : c_PagedValues_isId Zd K a0 st = some r0) : CT l y1_17 prog_1_method_17_code 1 (some .boolean) G Zd K (0) [.int a0] st (hI G Zd r0 st) := by
  refine goH (d := 0) (y := y1_17) (cc := prog_1_method_17_code) (maxL := 1) (ret := (some .boolean)) (av := [.int a0]) (Qc := hI G Zd r0 st) "PagedValues" rfl (by decide) (c1_c rfl c1_n) (Nat.le_of_ble_eq_true rfl) ?_
  intro p e s m below meth c ls A args Q hQ hx hb hr hlk hml hown hts hin hl hE hw
  have hl : lw ls 1 [(0, .int a0)] := hl
  have hZ := hE.2.2.1
  have h := hm
  clear hm
  refine lv_iload_n hx hb d1_17_0 rfl (lv_at hl.1 0 rfl) ?_
  obtain ⟨e11, hX, h⟩ := ob h
  have hj : ∀ (H : Heap) (locs : List Loc) (cells slots : Nat) (ls : Array Slot), lw ls 1 [(0, .int a0)] → wsH G Zd A s st H locs → W p l e (rmH Zd (0) st.1) s m args below meth c H locs cells slots Q (F0 m 15 ls [.int e11]) := by
    intro H locs cells slots ls hl hw
    obtain ⟨u9, hr9, h⟩ := ob h
    have hi := bz_some hr9
    clear hr9 u9
    cases h
    exact finH_z hQ hx hb hr hlk (nar01 hi) hE hw d1_17_15
  clear h
  refine lv_if_lt (tgt := 14) hx hb d1_17_1 rfl (fun c13 => ?_) (fun c13 => ?_)
  ·
    replace h := (if_pos c13).symm.trans hX
    refine lv_iconst (v := 0) hx hb d1_17_14 (by decide) ?_
    have e9 := Option.some.inj h
    subst e11
    have hl := lw_sub hl (l' := [(0, .int a0)]) [0] rfl
    exact hj _ _ _ _ _ hl hw
  ·
    replace h := (if_neg c13).symm.trans hX
    refine lv_iload_n hx hb d1_17_4 rfl (lv_at hl.1 0 rfl) ?_
    refine lv_bipush (v := 8) hx hb d1_17_5 (by decide) ?_
    refine lv_icmp_ge (tgt := 14) hx hb d1_17_7 rfl (fun c14 => ?_) (fun c14 => ?_)
    ·
      replace h := (if_pos c14).symm.trans h
      refine lv_iconst (v := 0) hx hb d1_17_14 (by decide) ?_
      have e9 := Option.some.inj h
      subst e11
      have hl := lw_sub hl (l' := [(0, .int a0)]) [0] rfl
      exact hj _ _ _ _ _ hl hw
    ·
      replace h := (if_neg c14).symm.trans h
      refine lv_iconst (v := 1) hx hb d1_17_10 (by decide) ?_
      refine lv_goto (tgt := 15) hx hb d1_17_11 rfl ?_
      have e9 := Option.some.inj h
      subst e11
      have hl := lw_sub hl (l' := [(0, .int a0)]) [0] rfl
      exact hj _ _ _ _ _ hl hw
def c_Store_document (Zd : Nat → Nat) (K : KE) (o : Nat) (a0 : Int32) (a1 : Int32) (st : CS) : Option (Option Nat) := (c_PagedValues_isId Zd K a1 st).bind fun x11 => if x11 = (0 : Int32) then (some none) else ((some (a1 / (4 : Int32))).bind fun y15 => (isO K st o 9).bind fun _ => (c_Store_leafOf Zd K o a0 y15 st).bind fun x16 => (if x16 = ((-1) : Int32) then (some none) else ((gQ K st o 9 0).bind fun x22 => x22.bind fun a23z => (rQ K st a23z 6 x16).bind fun x24 => x24.bind fun a25z => (gQ K st a25z 10 0).bind fun x26 => (some (a1 - a1 / (4 : Int32) * (4 : Int32))).bind fun y27 => x26.bind fun a28z => (rQ K st a28z 5 y27).bind fun x29 => some x29)).bind fun e19 => some e19)
set_option maxHeartbeats 4000000 in
set_option maxRecDepth 100000 in
theorem cc_Store_document (l : Launch) (G : Gk) (Zd : Nat → Nat) (K : KE) (o : Nat) (a0 : Int32) (a1 : Int32) (st : CS) (r0 : Option Nat) (hm : c_Store_document Zd K o a0 a1 st = some r0) : CT l y10_11 prog_10_method_11_code 4 (some (.object "PagedValues$Value")) G Zd K (1) [.ref o, .int a0, .int a1] st (hQ G Zd r0 st) := by
  refine goH (d := 1) (y := y10_11) (cc := prog_10_method_11_code) (maxL := 4) (ret := (some (.object "PagedValues$Value"))) (av := [.ref o, .int a0, .int a1]) (Qc := hQ G Zd r0 st) "PagedValues$Store" rfl (by decide) (c1_c rfl (c1_c rfl (c1_c rfl c1_n))) (Nat.le_of_ble_eq_true rfl) ?_
  intro p e s m below meth c ls A args Q hQ hx hb hr hlk hml hown hts hin hl hE hw
  have hl : lw ls 4 [(0, .ref o), (1, .int a0), (2, .int a1)] := hl
  have hZ := hE.2.2.1
  have h := hm
  clear hm
  refine lv_iload_n hx hb d10_11_0 rfl (lv_at hl.1 2 rfl) ?_
  obtain ⟨x11, hc, h⟩ := ob h
  refine hSN_i (As := [.int a1]) (rest := []) ⟨hx, hb, hml, hown, hts⟩ (cc_PagedValues_isId l G Zd K a1 st x11 hc) (kw_SN (n := 1) hts hZ.1.1 k306 kn703 k1 k305 (by decide +kernel) ⟨Nat.le_of_ble_eq_true rfl, Nat.le_of_ble_eq_true rfl⟩) hE hw rfl hl.1.1 rfl (c1_8 c1_n (Nat.le_of_ble_eq_true rfl)) d10_11_1 (fun H locs cells slots hw => ?_)
  clear hc
  refine W.eq (g2 := F0 m 4 ls [.int x11]) rfl ?_
  refine lv_if_ne (tgt := 9) hx hb d10_11_4 rfl (fun c14 => ?_) (fun c14 => ?_)
  ·
    replace h := (if_neg c14).symm.trans h
    refine lv_aload_n hx hb d10_11_9 rfl (lv_at hl.1 0 rfl) ?_
    refine lv_iload_n hx hb d10_11_10 rfl (lv_at hl.1 1 rfl) ?_
    refine lv_iload_n hx hb d10_11_11 rfl (lv_at hl.1 2 rfl) ?_
    refine lv_iconst (v := 4) hx hb d10_11_12 (by decide) ?_
    refine lv_idiv hx hb d10_11_13 (by decide) ?_
    obtain ⟨y15, hr, h⟩ := ob h
    refine lv_topi (fun y9 ey => ?_)
    have e9 := ey.trans (Option.some.inj hr)
    clear ey
    subst y9
    clear hr
    obtain ⟨u9, ho, h⟩ := ob h
    obtain ⟨x16, hc, h⟩ := ob h
    refine hV_i (ci := 9) (As := [.int a0, .int y15]) (rest := []) ⟨hx, hb, hml, hown, hts⟩ (cc_Store_leafOf l G Zd K o a0 y15 st x16 hc) (kw_V (n := 2) hts k694 k691 k13 k693 ks8 (by decide +kernel) ⟨Nat.le_of_ble_eq_true rfl, Nat.le_of_ble_eq_true rfl⟩) hE hw rfl rfl ho rfl hl.1.1 rfl (c1_8 c1_n (Nat.le_of_ble_eq_true rfl)) d10_11_14 (fun H locs cells slots hw => ?_)
    clear hc ho u9
    refine W.eq (g2 := F0 m 17 ls [.int x16]) rfl ?_
    refine xt_istore_n (x := x16) (lv' := [(3, .int x16), (0, .ref o), (1, .int a0), (2, .int a1)]) hx hb d10_11_17 rfl hl (by decide) rfl (fun ls hl => ?_)
    refine lv_iload_n hx hb d10_11_18 rfl (lv_at hl.1 0 rfl) ?_
    refine lv_iconst (v := (-1)) hx hb d10_11_19 (by decide) ?_
    obtain ⟨e19, hX, h⟩ := ob h
    have hj : ∀ (H : Heap) (locs : List Loc) (cells slots : Nat) (ls : Array Slot), lw ls 4 [(0, .ref o), (1, .int a0), (2, .int a1), (3, .int x16)] → wsH G Zd A s st H locs → W p l e (rmH Zd (1) st.1) s m args below meth c H locs cells slots Q (F0 m 40 ls [va_rf e19]) := by
      intro H locs cells slots ls hl hw
      cases h
      exact finH_q hQ hx hb hr hlk rfl (Or.inl ⟨_, rfl⟩) hE hw d10_11_40
    clear h
    refine lv_icmp_ne (tgt := 27) hx hb d10_11_20 rfl (fun c21 => ?_) (fun c21 => ?_)
    ·
      replace h := (if_neg c21).symm.trans hX
      refine lv_aload_n hx hb d10_11_27 rfl (lv_at hl.1 1 rfl) ?_
      obtain ⟨x22, hr, h⟩ := ob h
      refine xg_q (ci := 9) (C := r_9) (T := f_9) (N := 9) (ref := "PagedValues$Store") hx hb hts (fun w h => List.mem_cons_of_mem _ (ly_9 w h)) hown hE hw rfl 0 (by decide) (hts _ (List.mem_cons_of_mem _ k236)) (fun _ h9 => h9) hr d10_11_28 ?_
      clear hr
      refine lv_iload_n hx hb d10_11_31 rfl (lv_at hl.1 0 rfl) ?_
      obtain ⟨a23z, hn23, h⟩ := ob h
      have hn23 : x22 = some a23z := hn23
      refine W.eq (g2 := F0 m 32 ls [.int x16, .ref a23z]) (by rw [hn23]; rfl) ?_
      obtain ⟨x24, hr, h⟩ := ob h
      refine xa_q hx hb hE hw (t := 6) rfl (i := x16) hr d10_11_32 ?_
      clear hr
      obtain ⟨a25z, hn25, h⟩ := ob h
      have hn25 : x24 = some a25z := hn25
      refine W.eq (g2 := F0 m 33 ls [.ref a25z]) (by rw [hn25]; rfl) ?_
      obtain ⟨x26, hr, h⟩ := ob h
      refine xgN_q (ci := 10) (C := r_10) (T := f_10) (N := 2) (ref := "PagedValues$Page") hx hb hts (fun w h => List.mem_cons_of_mem _ (ly_10 w h)) hown hE hw rfl 0 (by decide) (va_Nw.use rfl (hZ.1.1 _ kn227)) (fun _ h9 => h9) hr d10_11_33 ?_
      clear hr
      refine lv_iload_n hx hb d10_11_36 rfl (lv_at hl.1 3 rfl) ?_
      refine lv_iconst (v := 4) hx hb d10_11_37 (by decide) ?_
      refine lv_irem hx hb d10_11_38 (by decide) ?_
      obtain ⟨y27, hr, h⟩ := ob h
      refine lv_topi (fun y9 ey => ?_)
      have e9 := ey.trans (Option.some.inj hr)
      clear ey
      subst y9
      clear hr
      obtain ⟨a28z, hn28, h⟩ := ob h
      have hn28 : x26 = some a28z := hn28
      refine W.eq (g2 := F0 m 39 ls [.int y27, .ref a28z]) (by rw [hn28]; rfl) ?_
      obtain ⟨x29, hr, h⟩ := ob h
      refine xa_q hx hb hE hw (t := 5) rfl (i := y27) hr d10_11_39 ?_
      clear hr
      have e9 := Option.some.inj h
      subst e19
      have hl := lw_sub hl (l' := [(0, .ref o), (1, .int a0), (2, .int a1), (3, .int x16)]) [1, 2, 3, 0] rfl
      exact hj _ _ _ _ _ hl hw
    ·
      replace h := (if_pos c21).symm.trans hX
      refine lv_null hx hb d10_11_23 ?_
      refine lv_goto (tgt := 40) hx hb d10_11_24 rfl ?_
      have e9 := Option.some.inj h
      subst e19
      have hl := lw_sub hl (l' := [(0, .ref o), (1, .int a0), (2, .int a1), (3, .int x16)]) [1, 2, 3, 0] rfl
      exact hj _ _ _ _ _ hl hw
  ·
    replace h := (if_pos c14).symm.trans h
    refine lv_null hx hb d10_11_7 ?_
    cases h
    exact finH_q hQ hx hb hr hlk rfl (Or.inl ⟨_, rfl⟩) hE hw d10_11_8
