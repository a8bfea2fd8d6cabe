def m_at (a0 : Int32) : Option (Int32) := (if (80 : Int32) ≤ a0 then ((some (a0 - 80)).bind fun y4 => (some (60 * y4)).bind fun y5 => (some (1920 + y5)).bind fun y6 => some y6) else ((some (24 * a0)).bind fun y7 => some y7)).bind fun e2 => some e2
set_option maxHeartbeats 4000000 in
set_option maxRecDepth 100000 in
theorem cm_at (l : Launch) (G : Gk) (Zd : Nat → Nat) (w0 : va_W) (a0 : Int32) (r0 : Int32) (hm : m_at a0 = some r0) (sz : Nat) : Met l y15_20 (Cond.code y15_20 prog_15_method_20_code 1 (some .int) :: TB) (rmD 0 0 0) (va_Pc [.int a0] (pcW G Zd w0 sz)) (qI G (fun rr (_ : Unit) => rr = r0) (fun _ => w0) (va_A w0 sz)) 0 0 (va_A w0 sz) := by
  refine go (y := y15_20) (cc := prog_15_method_20_code) (maxL := 1) (ret := (some .int)) (av := [.int a0]) (Qc := qI G (fun rr (_ : Unit) => rr = r0) (fun _ => w0)) "PagedValuesModel" rfl (by decide) (Nat.le_of_ble_eq_true rfl) ?_
  intro p e s m below meth c ls A hx hb hr hlk hml hown hts hin hl hP hD hK hS hA hZ
  have hl : lv_has ls 1 [(0, .int a0)] := hl
  have h := hm
  clear hm
  refine lv_iload_n hx hb d15_20_0 rfl (lv_at hl 0 rfl) ?_
  refine lv_bipush (v := 80) hx hb d15_20_1 (by decide) ?_
  obtain ⟨e2, hX, h⟩ := ob h
  have hj : ∀ (H : Heap) (locs : List Loc) (ls : Array Slot), lv_has ls 1 [(0, .int a0)] → va_P G.1 vwCl w0 H → va_D A w0 → va_S A s.heap H locs → W p l e (rmD 0 0 0) s m ([.int a0] : List Value).toArray below meth c H locs 0 0 (MQ below (qI G (fun rr (_ : Unit) => rr = r0) (fun _ => w0) A) ([.int a0] : List Value).toArray s 0 0 A) (F0 m 24 ls [.int e2]) := by
    intro H locs ls hl hP hD hS
    cases h
    exact fin_i hx hb hr hlk hS () rfl hP hD (Nat.le_of_ble_eq_true rfl) (Nat.le_of_ble_eq_true rfl) d15_20_24
  clear h
  refine lv_icmp_ge (tgt := 13) hx hb d15_20_3 rfl (fun c1 => ?_) (fun c1 => ?_)
  ·
    replace h := (if_pos c1).symm.trans hX
    refine lv_sipush (v := 1920) hx hb d15_20_13 (by decide) ?_
    refine lv_bipush (v := 60) hx hb d15_20_16 (by decide) ?_
    refine lv_iload_n hx hb d15_20_18 rfl (lv_at hl 0 rfl) ?_
    refine lv_bipush (v := 80) hx hb d15_20_19 (by decide) ?_
    refine lv_isub hx hb d15_20_21 ?_
    obtain ⟨y4, hr, h⟩ := ob h
    refine lv_topi (fun y9 ey => ?_)
    have e9 := ey.trans (Option.some.inj hr)
    clear ey
    subst y9
    clear hr
    refine lv_imul hx hb d15_20_22 ?_
    obtain ⟨y5, hr, h⟩ := ob h
    refine lv_topi (fun y9 ey => ?_)
    have e9 := ey.trans (Option.some.inj hr)
    clear ey
    subst y9
    clear hr
    refine lv_iadd hx hb d15_20_23 ?_
    obtain ⟨y6, hr, h⟩ := ob h
    refine lv_topi (fun y9 ey => ?_)
    have e9 := ey.trans (Option.some.inj hr)
    clear ey
    subst y9
    clear hr
    have e9 := Option.some.inj h
    subst e2
    have hl := lv_sub hl (l' := [(0, .int a0)]) [0] rfl
    exact hj _ _ _ hl hP hD hS
  ·
    replace h := (if_neg c1).symm.trans hX
    refine lv_bipush (v := 24) hx hb d15_20_6 (by decide) ?_
    refine lv_iload_n hx hb d15_20_8 rfl (lv_at hl 0 rfl) ?_
    refine lv_imul hx hb d15_20_9 ?_
    obtain ⟨y7, hr, h⟩ := ob h
    refine lv_topi (fun y9 ey => ?_)
    have e9 := ey.trans (Option.some.inj hr)
    clear ey
    subst y9
    clear hr
    refine lv_goto (tgt := 24) hx hb d15_20_10 rfl ?_
    have e9 := Option.some.inj h
    subst e2
    have hl := lv_sub hl (l' := [(0, .int a0)]) [0] rfl
    exact hj _ _ _ hl hP hD hS
def m_named (a0 : Int64) (a1 : Int64) (st : MS) : Option (MS) := (m_at (80 : Int32)).bind fun x1 => (some (x1 + (st.1 3))).bind fun y4 => (ix 2100 y4).bind fun k5z => (m_at (80 : Int32)).bind fun x6 => (some (x6 + (st.1 3))).bind fun y9 => (ix 2100 y9).bind fun k10z => some (st.1, st.2.1, st.2.2.1, va_up (va_up st.2.2.2 2 (vp_updL (st.2.2.2 2) k5z a0)) 3 (vp_updL (st.2.2.2 3) k10z a1))
set_option maxHeartbeats 4000000 in
set_option maxRecDepth 100000 in
theorem cm_named (l : Launch) (G : Gk) (Zd : Nat → Nat) (q : Nat → Nat) (a0 : Int64) (a1 : Int64) (st : MS) (st0 : MS) (hm : m_named a0 a1 st = some st0) (sz : Nat) : Met l y15_23 (Cond.code y15_23 prog_15_method_23_code 5 none :: TB) (rmD 1 0 0) (va_Pc [.ref (q 0), .long a0, .long a1] (pcW G Zd (wMs q G.2 st) sz)) (qV G (fun (_ : Unit) => True) (fun _ => (wMs q G.2 st0)) (va_A (wMs q G.2 st) sz)) 0 0 (va_A (wMs q G.2 st) sz) := by
  refine go (y := y15_23) (cc := prog_15_method_23_code) (maxL := 5) (ret := none) (av := [.ref (q 0), .long a0, .long a1]) (Qc := qV G (fun (_ : Unit) => True) (fun _ => (wMs q G.2 st0))) "PagedValuesModel" rfl (by decide) (Nat.le_of_ble_eq_true rfl) ?_
  intro p e s m below meth c ls A hx hb hr hlk hml hown hts hin hl hP hD hK hS hA hZ
  have hl : lv_has ls 5 [(0, .ref (q 0)), (1, .long a0), (3, .long a1)] := hl
  have h := hm
  clear hm
  refine lv_aload_n hx hb d15_23_0 rfl (lv_at hl 0 rfl) ?_
  refine va_get (D := G.1) (ci := 13) (v := .ref (q 6)) (C := r_13) (T := f_13) (N := 42) (ref := "PagedValuesModel") hx hb hts (fun w h => List.mem_cons_of_mem _ (ly_13 w h)) hown hK hP 0 rfl rfl 8 (by decide) (hts _ (List.mem_cons_of_mem _ k1159)) (fun _ h9 => h9) rfl d15_23_1 ?_
  refine lv_bipush (v := 80) hx hb d15_23_4 (by decide) ?_
  obtain ⟨x1, hc, h⟩ := ob h
  refine sS_i (As := [.int 80]) (rest := [.ref (q 6)]) ⟨hx, hb, hml, hown, hts⟩ (cm_at l G Zd _ (80 : Int32) x1 hc _) (kw_S (n := 1) hts k1312 k1310 k15 k1311 (by decide +kernel) ⟨Nat.le_of_ble_eq_true rfl, Nat.le_of_ble_eq_true rfl⟩) hP hD hK hS hA hZ rfl hl.1 rfl (Nat.le_of_ble_eq_true rfl) d15_23_6 ⟨Nat.le_of_ble_eq_true rfl, Nat.le_of_ble_eq_true rfl⟩ (fun rr u9 H locs hp hP hD hS => ?_)
  clear u9
  subst rr
  clear hc
  refine W.eq (g2 := F0 m 9 ls [.int x1, .ref (q 6)]) rfl ?_
  have hP : va_P G.1 vwCl (wMs q G.2 st) H := hP
  have hD : va_D A (wMs q G.2 st) := hD
  refine lv_aload_n hx hb d15_23_9 rfl (lv_at hl 0 rfl) ?_
  refine va_get (D := G.1) (ci := 13) (v := .int (st.1 3)) (C := r_13) (T := f_13) (N := 42) (ref := "PagedValuesModel") hx hb hts (fun w h => List.mem_cons_of_mem _ (ly_13 w h)) hown hK hP 0 rfl rfl 10 (by decide) (hts _ (List.mem_cons_of_mem _ k1161)) (fun _ h9 => h9) rfl d15_23_10 ?_
  refine lv_iadd hx hb d15_23_13 ?_
  obtain ⟨y4, hr, h⟩ := ob h
  refine lv_topi (fun y9 ey => ?_)
  have e9 := ey.trans (Option.some.inj hr)
  clear ey
  subst y9
  clear hr
  refine lv_lload_n hx hb d15_23_14 rfl (lv_at hl 1 rfl) ?_
  obtain ⟨k5z, hr, h⟩ := ob h
  obtain ⟨hi, hk⟩ := ix_some hr
  clear hr
  refine va_last (D := G.1) hx hb hK hP hD hS 6 4 rfl rfl (i := y4) (x := a0) hi d15_23_15 (fun H locs hP hD hS => ?_)
  rw [hk] at hP hD
  clear hk hi
  have hP : va_P G.1 vwCl (wMs q G.2 (st.1, st.2.1, st.2.2.1, va_up st.2.2.2 2 (vp_updL (st.2.2.2 2) k5z a0))) H := hP
  have hD : va_D A (wMs q G.2 (st.1, st.2.1, st.2.2.1, va_up st.2.2.2 2 (vp_updL (st.2.2.2 2) k5z a0))) := hD
  refine lv_aload_n hx hb d15_23_16 rfl (lv_at hl 0 rfl) ?_
  refine va_get (D := G.1) (ci := 13) (v := .ref (q 7)) (C := r_13) (T := f_13) (N := 42) (ref := "PagedValuesModel") hx hb hts (fun w h => List.mem_cons_of_mem _ (ly_13 w h)) hown hK hP 0 rfl rfl 9 (by decide) (hts _ (List.mem_cons_of_mem _ k1160)) (fun _ h9 => h9) rfl d15_23_17 ?_
  refine lv_bipush (v := 80) hx hb d15_23_20 (by decide) ?_
  obtain ⟨x6, hc, h⟩ := ob h
  refine sS_i (As := [.int 80]) (rest := [.ref (q 7)]) ⟨hx, hb, hml, hown, hts⟩ (cm_at l G Zd _ (80 : Int32) x6 hc _) (kw_S (n := 1) hts k1312 k1310 k15 k1311 (by decide +kernel) ⟨Nat.le_of_ble_eq_true rfl, Nat.le_of_ble_eq_true rfl⟩) hP hD hK hS hA hZ rfl hl.1 rfl (Nat.le_of_ble_eq_true rfl) d15_23_22 ⟨Nat.le_of_ble_eq_true rfl, Nat.le_of_ble_eq_true rfl⟩ (fun rr u9 H locs hp hP hD hS => ?_)
  clear u9
  subst rr
  clear hc
  refine W.eq (g2 := F0 m 25 ls [.int x6, .ref (q 7)]) rfl ?_
  have hP : va_P G.1 vwCl (wMs q G.2 (st.1, st.2.1, st.2.2.1, va_up st.2.2.2 2 (vp_updL (st.2.2.2 2) k5z a0))) H := hP
  have hD : va_D A (wMs q G.2 (st.1, st.2.1, st.2.2.1, va_up st.2.2.2 2 (vp_updL (st.2.2.2 2) k5z a0))) := hD
  refine lv_aload_n hx hb d15_23_25 rfl (lv_at hl 0 rfl) ?_
  refine va_get (D := G.1) (ci := 13) (v := .int (st.1 3)) (C := r_13) (T := f_13) (N := 42) (ref := "PagedValuesModel") hx hb hts (fun w h => List.mem_cons_of_mem _ (ly_13 w h)) hown hK hP 0 rfl rfl 10 (by decide) (hts _ (List.mem_cons_of_mem _ k1161)) (fun _ h9 => h9) rfl d15_23_26 ?_
  refine lv_iadd hx hb d15_23_29 ?_
  obtain ⟨y9, hr, h⟩ := ob h
  refine lv_topi (fun y9 ey => ?_)
  have e9 := ey.trans (Option.some.inj hr)
  clear ey
  subst y9
  clear hr
  refine lv_lload_n hx hb d15_23_30 rfl (lv_at hl 2 rfl) ?_
  obtain ⟨k10z, hr, h⟩ := ob h
  obtain ⟨hi, hk⟩ := ix_some hr
  clear hr
  refine va_last (D := G.1) hx hb hK hP hD hS 7 4 rfl rfl (i := y9) (x := a1) hi d15_23_31 (fun H locs hP hD hS => ?_)
  rw [hk] at hP hD
  clear hk hi
  have hP : va_P G.1 vwCl (wMs q G.2 (st.1, st.2.1, st.2.2.1, va_up (va_up st.2.2.2 2 (vp_updL (st.2.2.2 2) k5z a0)) 3 (vp_updL (st.2.2.2 3) k10z a1))) H := hP
  have hD : va_D A (wMs q G.2 (st.1, st.2.1, st.2.2.1, va_up (va_up st.2.2.2 2 (vp_updL (st.2.2.2 2) k5z a0)) 3 (vp_updL (st.2.2.2 3) k10z a1))) := hD
  cases h
  exact fin_v hx hb hr hlk hS () trivial hP hD (Nat.le_of_ble_eq_true rfl) (Nat.le_of_ble_eq_true rfl) d15_23_32
def m_node (a0 : Int32) (a1 : Int64) (a2 : Int64) (st : MS) : Option (MS) := (m_at (80 : Int32)).bind fun x1 => (some (x1 + (st.1 3))).bind fun y4 => (some a0.toInt8.toInt32).bind fun y5 => (ix 2100 y4).bind fun k6z => (some (vp_nar .byte y5)).bind fun y7 => (ix 2100 y4).bind fun k8z => (some (vp_nar .byte (1 : Int32))).bind fun y9 => (ix 2100 y4).bind fun k10z => (ix 2100 y4).bind fun k11z => (some ((st.1 3) + 1)).bind fun y12 => some (upd st.1 3 y12, st.2.1, va_up (va_up st.2.2.1 1 (upd (st.2.2.1 1) k6z y7)) 2 (upd (st.2.2.1 2) k8z y9), va_up (va_up st.2.2.2 0 (vp_updL (st.2.2.2 0) k10z a1)) 1 (vp_updL (st.2.2.2 1) k11z a2))
set_option maxHeartbeats 4000000 in
set_option maxRecDepth 100000 in
theorem cm_node (l : Launch) (G : Gk) (Zd : Nat → Nat) (q : Nat → Nat) (a0 : Int32) (a1 : Int64) (a2 : Int64) (st : MS) (st0 : MS) (hm : m_node a0 a1 a2 st = some st0) (sz : Nat) : Met l y15_21 (Cond.code y15_21 prog_15_method_21_code 7 none :: TB) (rmD 1 0 0) (va_Pc [.ref (q 0), .int a0, .long a1, .long a2] (pcW G Zd (wMs q G.2 st) sz)) (qV G (fun (_ : Unit) => True) (fun _ => (wMs q G.2 st0)) (va_A (wMs q G.2 st) sz)) 0 0 (va_A (wMs q G.2 st) sz) := by
  refine go (y := y15_21) (cc := prog_15_method_21_code) (maxL := 7) (ret := none) (av := [.ref (q 0), .int a0, .long a1, .long a2]) (Qc := qV G (fun (_ : Unit) => True) (fun _ => (wMs q G.2 st0))) "PagedValuesModel" rfl (by decide) (Nat.le_of_ble_eq_true rfl) ?_
  intro p e s m below meth c ls A hx hb hr hlk hml hown hts hin hl hP hD hK hS hA hZ
  have hl : lv_has ls 7 [(0, .ref (q 0)), (1, .int a0), (2, .long a1), (4, .long a2)] := hl
  have h := hm
  clear hm
  refine lv_bipush (v := 80) hx hb d15_21_0 (by decide) ?_
  obtain ⟨x1, hc, h⟩ := ob h
  refine sS_i (As := [.int 80]) (rest := []) ⟨hx, hb, hml, hown, hts⟩ (cm_at l G Zd _ (80 : Int32) x1 hc _) (kw_S (n := 1) hts k1312 k1310 k15 k1311 (by decide +kernel) ⟨Nat.le_of_ble_eq_true rfl, Nat.le_of_ble_eq_true rfl⟩) hP hD hK hS hA hZ rfl hl.1 rfl (Nat.le_of_ble_eq_true rfl) d15_21_2 ⟨Nat.le_of_ble_eq_true rfl, Nat.le_of_ble_eq_true rfl⟩ (fun rr u9 H locs hp hP hD hS => ?_)
  clear u9
  subst rr
  clear hc
  refine W.eq (g2 := F0 m 5 ls [.int x1]) rfl ?_
  have hP : va_P G.1 vwCl (wMs q G.2 st) H := hP
  have hD : va_D A (wMs q G.2 st) := hD
  refine lv_aload_n hx hb d15_21_5 rfl (lv_at hl 0 rfl) ?_
  refine va_get (D := G.1) (ci := 13) (v := .int (st.1 3)) (C := r_13) (T := f_13) (N := 42) (ref := "PagedValuesModel") hx hb hts (fun w h => List.mem_cons_of_mem _ (ly_13 w h)) hown hK hP 0 rfl rfl 10 (by decide) (hts _ (List.mem_cons_of_mem _ k1161)) (fun _ h9 => h9) rfl d15_21_6 ?_
  refine lv_iadd hx hb d15_21_9 ?_
  obtain ⟨y4, hr, h⟩ := ob h
  refine lv_topi (fun y9 ey => ?_)
  have e9 := ey.trans (Option.some.inj hr)
  clear ey
  subst y9
  clear hr
  refine lv_istore (lv' := [(6, .int y4), (0, .ref (q 0)), (1, .int a0), (2, .long a1), (4, .long a2)]) hx hb d15_21_10 hl (by decide) rfl (fun ls hl => ?_)
  refine lv_aload_n hx hb d15_21_12 rfl (lv_at hl 1 rfl) ?_
  refine va_get (D := G.1) (ci := 13) (v := .ref (q 2)) (C := r_13) (T := f_13) (N := 42) (ref := "PagedValuesModel") hx hb hts (fun w h => List.mem_cons_of_mem _ (ly_13 w h)) hown hK hP 0 rfl rfl 4 (by decide) (hts _ (List.mem_cons_of_mem _ k1155)) (fun _ h9 => h9) rfl d15_21_13 ?_
  refine lv_iload hx hb d15_21_16 (lv_at hl 0 rfl) ?_
  refine lv_iload_n hx hb d15_21_18 rfl (lv_at hl 2 rfl) ?_
  refine lv_i2b hx hb d15_21_19 rfl ?_
  obtain ⟨y5, hr, h⟩ := ob h
  refine lv_topi (fun y9 ey => ?_)
  have e9 := ey.trans (Option.some.inj hr)
  clear ey
  subst y9
  clear hr
  obtain ⟨k6z, hr, h⟩ := ob h
  obtain ⟨hi, hk⟩ := ix_some hr
  clear hr
  refine va_bast (D := G.1) hx hb hK hP hD hS 2 2 rfl rfl (i := y4) (x := y5) hi d15_21_20 (fun H locs hP hD hS => ?_)
  rw [hk] at hP hD
  clear hk hi
  obtain ⟨y7, hr, h⟩ := ob h
  rw [Option.some.inj hr] at hP hD
  clear hr
  have hP : va_P G.1 vwCl (wMs q G.2 (st.1, st.2.1, va_up st.2.2.1 1 (upd (st.2.2.1 1) k6z y7), st.2.2.2)) H := hP
  have hD : va_D A (wMs q G.2 (st.1, st.2.1, va_up st.2.2.1 1 (upd (st.2.2.1 1) k6z y7), st.2.2.2)) := hD
  refine lv_aload_n hx hb d15_21_21 rfl (lv_at hl 1 rfl) ?_
  refine va_get (D := G.1) (ci := 13) (v := .ref (q 3)) (C := r_13) (T := f_13) (N := 42) (ref := "PagedValuesModel") hx hb hts (fun w h => List.mem_cons_of_mem _ (ly_13 w h)) hown hK hP 0 rfl rfl 5 (by decide) (hts _ (List.mem_cons_of_mem _ k1156)) (fun _ h9 => h9) rfl d15_21_22 ?_
  refine lv_iload hx hb d15_21_25 (lv_at hl 0 rfl) ?_
  refine lv_iconst (v := 1) hx hb d15_21_27 (by decide) ?_
  obtain ⟨k8z, hr, h⟩ := ob h
  obtain ⟨hi, hk⟩ := ix_some hr
  clear hr
  refine va_bast (D := G.1) hx hb hK hP hD hS 3 2 rfl rfl (i := y4) (x := (1 : Int32)) hi d15_21_28 (fun H locs hP hD hS => ?_)
  rw [hk] at hP hD
  clear hk hi
  obtain ⟨y9, hr, h⟩ := ob h
  rw [Option.some.inj hr] at hP hD
  clear hr
  have hP : va_P G.1 vwCl (wMs q G.2 (st.1, st.2.1, va_up (va_up st.2.2.1 1 (upd (st.2.2.1 1) k6z y7)) 2 (upd (st.2.2.1 2) k8z y9), st.2.2.2)) H := hP
  have hD : va_D A (wMs q G.2 (st.1, st.2.1, va_up (va_up st.2.2.1 1 (upd (st.2.2.1 1) k6z y7)) 2 (upd (st.2.2.1 2) k8z y9), st.2.2.2)) := hD
  refine lv_aload_n hx hb d15_21_29 rfl (lv_at hl 1 rfl) ?_
  refine va_get (D := G.1) (ci := 13) (v := .ref (q 4)) (C := r_13) (T := f_13) (N := 42) (ref := "PagedValuesModel") hx hb hts (fun w h => List.mem_cons_of_mem _ (ly_13 w h)) hown hK hP 0 rfl rfl 6 (by decide) (hts _ (List.mem_cons_of_mem _ k1157)) (fun _ h9 => h9) rfl d15_21_30 ?_
  refine lv_iload hx hb d15_21_33 (lv_at hl 0 rfl) ?_
  refine lv_lload_n hx hb d15_21_35 rfl (lv_at hl 3 rfl) ?_
  obtain ⟨k10z, hr, h⟩ := ob h
  obtain ⟨hi, hk⟩ := ix_some hr
  clear hr
  refine va_last (D := G.1) hx hb hK hP hD hS 4 4 rfl rfl (i := y4) (x := a1) hi d15_21_36 (fun H locs hP hD hS => ?_)
  rw [hk] at hP hD
  clear hk hi
  have hP : va_P G.1 vwCl (wMs q G.2 (st.1, st.2.1, va_up (va_up st.2.2.1 1 (upd (st.2.2.1 1) k6z y7)) 2 (upd (st.2.2.1 2) k8z y9), va_up st.2.2.2 0 (vp_updL (st.2.2.2 0) k10z a1))) H := hP
  have hD : va_D A (wMs q G.2 (st.1, st.2.1, va_up (va_up st.2.2.1 1 (upd (st.2.2.1 1) k6z y7)) 2 (upd (st.2.2.1 2) k8z y9), va_up st.2.2.2 0 (vp_updL (st.2.2.2 0) k10z a1))) := hD
  refine lv_aload_n hx hb d15_21_37 rfl (lv_at hl 1 rfl) ?_
  refine va_get (D := G.1) (ci := 13) (v := .ref (q 5)) (C := r_13) (T := f_13) (N := 42) (ref := "PagedValuesModel") hx hb hts (fun w h => List.mem_cons_of_mem _ (ly_13 w h)) hown hK hP 0 rfl rfl 7 (by decide) (hts _ (List.mem_cons_of_mem _ k1158)) (fun _ h9 => h9) rfl d15_21_38 ?_
  refine lv_iload hx hb d15_21_41 (lv_at hl 0 rfl) ?_
  refine lv_lload hx hb d15_21_43 (lv_at hl 4 rfl) ?_
  obtain ⟨k11z, hr, h⟩ := ob h
  obtain ⟨hi, hk⟩ := ix_some hr
  clear hr
  refine va_last (D := G.1) hx hb hK hP hD hS 5 4 rfl rfl (i := y4) (x := a2) hi d15_21_45 (fun H locs hP hD hS => ?_)
  rw [hk] at hP hD
  clear hk hi
  have hP : va_P G.1 vwCl (wMs q G.2 (st.1, st.2.1, va_up (va_up st.2.2.1 1 (upd (st.2.2.1 1) k6z y7)) 2 (upd (st.2.2.1 2) k8z y9), va_up (va_up st.2.2.2 0 (vp_updL (st.2.2.2 0) k10z a1)) 1 (vp_updL (st.2.2.2 1) k11z a2))) H := hP
  have hD : va_D A (wMs q G.2 (st.1, st.2.1, va_up (va_up st.2.2.1 1 (upd (st.2.2.1 1) k6z y7)) 2 (upd (st.2.2.1 2) k8z y9), va_up (va_up st.2.2.2 0 (vp_updL (st.2.2.2 0) k10z a1)) 1 (vp_updL (st.2.2.2 1) k11z a2))) := hD
  refine lv_aload_n hx hb d15_21_46 rfl (lv_at hl 1 rfl) ?_
  refine lv_dup hx hb d15_21_47 rfl ?_
  refine va_get (D := G.1) (ci := 13) (v := .int (st.1 3)) (C := r_13) (T := f_13) (N := 42) (ref := "PagedValuesModel") hx hb hts (fun w h => List.mem_cons_of_mem _ (ly_13 w h)) hown hK hP 0 rfl rfl 10 (by decide) (hts _ (List.mem_cons_of_mem _ k1161)) (fun _ h9 => h9) rfl d15_21_48 ?_
  refine lv_iconst (v := 1) hx hb d15_21_51 (by decide) ?_
  refine lv_iadd hx hb d15_21_52 ?_
  obtain ⟨y12, hr, h⟩ := ob h
  refine lv_topi (fun y9 ey => ?_)
  have e9 := ey.trans (Option.some.inj hr)
  clear ey
  subst y9
  clear hr
  refine va_put (D := G.1) (ci := 13) (v := .int y12) (ty := .int) (C := r_13) (T := f_13) (N := 42) (ref := "PagedValuesModel") hx hb hts (fun w h => List.mem_cons_of_mem _ (ly_13 w h)) ft_13 ft_13_ok nm_13 hown hK hP hD hS 0 rfl rfl 10 (by decide) (hts _ (List.mem_cons_of_mem _ k1161)) (fun _ h9 => h9) rfl (by decide +kernel) rfl rfl (Nat.le_of_ble_eq_true rfl) d15_21_53 (fun H locs hP hD hS => ?_)
  have hP : va_P G.1 vwCl (wMs q G.2 (upd st.1 3 y12, st.2.1, va_up (va_up st.2.2.1 1 (upd (st.2.2.1 1) k6z y7)) 2 (upd (st.2.2.1 2) k8z y9), va_up (va_up st.2.2.2 0 (vp_updL (st.2.2.2 0) k10z a1)) 1 (vp_updL (st.2.2.2 1) k11z a2))) H := hP
  have hD : va_D A (wMs q G.2 (upd st.1 3 y12, st.2.1, va_up (va_up st.2.2.1 1 (upd (st.2.2.1 1) k6z y7)) 2 (upd (st.2.2.1 2) k8z y9), va_up (va_up st.2.2.2 0 (vp_updL (st.2.2.2 0) k10z a1)) 1 (vp_updL (st.2.2.2 1) k11z a2))) := hD
  cases h
  exact fin_v hx hb hr hlk hS () trivial hP hD (Nat.le_of_ble_eq_true rfl) (Nat.le_of_ble_eq_true rfl) d15_21_56
def m_fault (st : MS) : Option (MS) := (if (0 : Int32) ≤ (st.1 2) then (some (st.1 2)) else (some (st.1 1))).bind fun e2 => some (upd st.1 2 e2, st.2.1, st.2.2.1, st.2.2.2)
set_option maxHeartbeats 4000000 in
set_option maxRecDepth 100000 in
theorem cm_fault (l : Launch) (G : Gk) (Zd : Nat → Nat) (q : Nat → Nat) (st : MS) (st0 : MS) (hm : m_fault st = some st0) (sz : Nat) : Met l y15_8 (Cond.code y15_8 prog_15_method_8_code 1 none :: TB) (rmD 0 0 0) (va_Pc [.ref (q 0)] (pcW G Zd (wMs q G.2 st) sz)) (qV G (fun (_ : Unit) => True) (fun _ => (wMs q G.2 st0)) (va_A (wMs q G.2 st) sz)) 0 0 (va_A (wMs q G.2 st) sz) := by
  refine go (y := y15_8) (cc := prog_15_method_8_code) (maxL := 1) (ret := none) (av := [.ref (q 0)]) (Qc := qV G (fun (_ : Unit) => True) (fun _ => (wMs q G.2 st0))) "PagedValuesModel" rfl (by decide) (Nat.le_of_ble_eq_true rfl) ?_
  intro p e s m below meth c ls A hx hb hr hlk hml hown hts hin hl hP hD hK hS hA hZ
  have hl : lv_has ls 1 [(0, .ref (q 0))] := hl
  have h := hm
  clear hm
  refine lv_aload_n hx hb d15_8_0 rfl (lv_at hl 0 rfl) ?_
  refine lv_aload_n hx hb d15_8_1 rfl (lv_at hl 0 rfl) ?_
  refine va_get (D := G.1) (ci := 13) (v := .int (st.1 2)) (C := r_13) (T := f_13) (N := 42) (ref := "PagedValuesModel") hx hb hts (fun w h => List.mem_cons_of_mem _ (ly_13 w h)) hown hK hP 0 rfl rfl 3 (by decide) (hts _ (List.mem_cons_of_mem _ k1154)) (fun _ h9 => h9) rfl d15_8_2 ?_
  obtain ⟨e2, hX, h⟩ := ob h
  have hj : ∀ (H : Heap) (locs : List Loc) (ls : Array Slot), lv_has ls 1 [(0, .ref (q 0))] → va_P G.1 vwCl (wMs q G.2 st) H → va_D A (wMs q G.2 st) → va_S A s.heap H locs → W p l e (rmD 0 0 0) s m ([.ref (q 0)] : List Value).toArray below meth c H locs 0 0 (MQ below (qV G (fun (_ : Unit) => True) (fun _ => (wMs q G.2 st0)) A) ([.ref (q 0)] : List Value).toArray s 0 0 A) (F0 m 19 ls [.int e2, .ref (q 0)]) := by
    intro H locs ls hl hP hD hS
    refine va_put (D := G.1) (ci := 13) (v := .int e2) (ty := .int) (C := r_13) (T := f_13) (N := 42) (ref := "PagedValuesModel") hx hb hts (fun w h => List.mem_cons_of_mem _ (ly_13 w h)) ft_13 ft_13_ok nm_13 hown hK hP hD hS 0 rfl rfl 3 (by decide) (hts _ (List.mem_cons_of_mem _ k1154)) (fun _ h9 => h9) rfl (by decide +kernel) rfl rfl (Nat.le_of_ble_eq_true rfl) d15_8_19 (fun H locs hP hD hS => ?_)
    have hP : va_P G.1 vwCl (wMs q G.2 (upd st.1 2 e2, st.2.1, st.2.2.1, st.2.2.2)) H := hP
    have hD : va_D A (wMs q G.2 (upd st.1 2 e2, st.2.1, st.2.2.1, st.2.2.2)) := hD
    cases h
    exact fin_v hx hb hr hlk hS () trivial hP hD (Nat.le_of_ble_eq_true rfl) (Nat.le_of_ble_eq_true rfl) d15_8_22
  clear h
  refine lv_if_ge (tgt := 15) hx hb d15_8_5 rfl (fun c1 => ?_) (fun c1 => ?_)
  ·
    replace h := (if_pos c1).symm.trans hX
    refine lv_aload_n hx hb d15_8_15 rfl (lv_at hl 0 rfl) ?_
    refine va_get (D := G.1) (ci := 13) (v := .int (st.1 2)) (C := r_13) (T := f_13) (N := 42) (ref := "PagedValuesModel") hx hb hts (fun w h => List.mem_cons_of_mem _ (ly_13 w h)) hown hK hP 0 rfl rfl 3 (by decide) (hts _ (List.mem_cons_of_mem _ k1154)) (fun _ h9 => h9) rfl d15_8_16 ?_
    have e9 := Option.some.inj h
    subst e2
    have hl := lv_sub hl (l' := [(0, .ref (q 0))]) [0] rfl
    exact hj _ _ _ hl hP hD hS
  ·
    replace h := (if_neg c1).symm.trans hX
    refine lv_aload_n hx hb d15_8_8 rfl (lv_at hl 0 rfl) ?_
    refine va_get (D := G.1) (ci := 13) (v := .int (st.1 1)) (C := r_13) (T := f_13) (N := 42) (ref := "PagedValuesModel") hx hb hts (fun w h => List.mem_cons_of_mem _ (ly_13 w h)) hown hK hP 0 rfl rfl 2 (by decide) (hts _ (List.mem_cons_of_mem _ k1153)) (fun _ h9 => h9) rfl d15_8_9 ?_
    refine lv_goto (tgt := 19) hx hb d15_8_12 rfl ?_
    have e9 := Option.some.inj h
    subst e2
    have hl := lv_sub hl (l' := [(0, .ref (q 0))]) [0] rfl
    exact hj _ _ _ hl hP hD hS
def m_takes (a0 : Int32) (st : MS) : Option (Int32 × MS) := (m_sees a0 st).bind fun x1 => (if x1 = (0 : Int32) then (some (st.1 1)) else ((some ((st.1 1) + 1)).bind fun y7 => some y7)).bind fun e5 => (bz x1).bind fun _ => some (x1, (upd st.1 1 e5, st.2.1, st.2.2.1, st.2.2.2))
set_option maxHeartbeats 4000000 in
set_option maxRecDepth 100000 in
theorem cm_takes (l : Launch) (G : Gk) (Zd : Nat → Nat) (q : Nat → Nat) (a0 : Int32) (st : MS) (r0 : Int32) (st0 : MS) (hm : m_takes a0 st = some (r0, st0)) (sz : Nat) : Met l y15_11 (Cond.code y15_11 prog_15_method_11_code 3 (some .boolean) :: TB) (rmD 2 0 0) (va_Pc [.ref (q 0), .int a0] (pcW G Zd (wMs q G.2 st) sz)) (qI G (fun rr (_ : Unit) => rr = r0) (fun _ => (wMs q G.2 st0)) (va_A (wMs q G.2 st) sz)) 0 0 (va_A (wMs q G.2 st) sz) := by
  refine go (y := y15_11) (cc := prog_15_method_11_code) (maxL := 3) (ret := (some .boolean)) (av := [.ref (q 0), .int a0]) (Qc := qI G (fun rr (_ : Unit) => rr = r0) (fun _ => (wMs q G.2 st0))) "PagedValuesModel" rfl (by decide) (Nat.le_of_ble_eq_true rfl) ?_
  intro p e s m below meth c ls A hx hb hr hlk hml hown hts hin hl hP hD hK hS hA hZ
  have hl : lv_has ls 3 [(0, .ref (q 0)), (1, .int a0)] := hl
  have h := hm
  clear hm
  refine lv_aload_n hx hb d15_11_0 rfl (lv_at hl 0 rfl) ?_
  refine lv_iload_n hx hb d15_11_1 rfl (lv_at hl 1 rfl) ?_
  obtain ⟨x1, hc, h⟩ := ob h
  refine sV_i (As := [.int a0]) (rest := []) ⟨hx, hb, hml, hown, hts⟩ (cm_sees l G Zd q a0 st x1 hc _) (kw_V (n := 1) hts k1301 k1298 k15 k1300 ks36 (by decide +kernel) ⟨Nat.le_of_ble_eq_true rfl, Nat.le_of_ble_eq_true rfl⟩) hP hD hK hS hA hZ (va_recv (ci := 13) (q0 := 0) hK hP rfl rfl) rfl hl.1 rfl (Nat.le_of_ble_eq_true rfl) d15_11_2 ⟨Nat.le_of_ble_eq_true rfl, Nat.le_of_ble_eq_true rfl⟩ (fun rr u9 H locs hp hP hD hS => ?_)
  clear u9
  subst rr
  clear hc
  refine W.eq (g2 := F0 m 5 ls [.int x1]) rfl ?_
  have hP : va_P G.1 vwCl (wMs q G.2 st) H := hP
  have hD : va_D A (wMs q G.2 st) := hD
  refine lv_istore_n (lv' := [(2, .int x1), (0, .ref (q 0)), (1, .int a0)]) hx hb d15_11_5 rfl hl (by decide) rfl (fun ls hl => ?_)
  refine lv_aload_n hx hb d15_11_6 rfl (lv_at hl 1 rfl) ?_
  refine lv_iload_n hx hb d15_11_7 rfl (lv_at hl 0 rfl) ?_
  obtain ⟨e5, hX, h⟩ := ob h
  have hj : ∀ (H : Heap) (locs : List Loc) (ls : Array Slot), lv_has ls 3 [(0, .ref (q 0)), (1, .int a0), (2, .int x1)] → va_P G.1 vwCl (wMs q G.2 st) H → va_D A (wMs q G.2 st) → va_S A s.heap H locs → W p l e (rmD 2 0 0) s m ([.ref (q 0), .int a0] : List Value).toArray below meth c H locs 0 0 (MQ below (qI G (fun rr (_ : Unit) => rr = r0) (fun _ => (wMs q G.2 st0)) A) ([.ref (q 0), .int a0] : List Value).toArray s 0 0 A) (F0 m 24 ls [.int e5, .ref (q 0)]) := by
    intro H locs ls hl hP hD hS
    refine va_put (D := G.1) (ci := 13) (v := .int e5) (ty := .int) (C := r_13) (T := f_13) (N := 42) (ref := "PagedValuesModel") hx hb hts (fun w h => List.mem_cons_of_mem _ (ly_13 w h)) ft_13 ft_13_ok nm_13 hown hK hP hD hS 0 rfl rfl 2 (by decide) (hts _ (List.mem_cons_of_mem _ k1153)) (fun _ h9 => h9) rfl (by decide +kernel) rfl rfl (Nat.le_of_ble_eq_true rfl) d15_11_24 (fun H locs hP hD hS => ?_)
    have hP : va_P G.1 vwCl (wMs q G.2 (upd st.1 1 e5, st.2.1, st.2.2.1, st.2.2.2)) H := hP
    have hD : va_D A (wMs q G.2 (upd st.1 1 e5, st.2.1, st.2.2.1, st.2.2.2)) := hD
    refine lv_iload_n hx hb d15_11_27 rfl (lv_at hl 2 rfl) ?_
    obtain ⟨u9, hr9, h⟩ := ob h
    have hi := bz_some hr9
    clear hr9 u9
    cases h
    exact fin_z hx hb hr hlk (nar01 hi) hS () rfl hP hD (Nat.le_of_ble_eq_true rfl) (Nat.le_of_ble_eq_true rfl) d15_11_28
  clear h
  refine lv_if_eq (tgt := 20) hx hb d15_11_8 rfl (fun c4 => ?_) (fun c4 => ?_)
  ·
    replace h := (if_pos c4).symm.trans hX
    refine lv_aload_n hx hb d15_11_20 rfl (lv_at hl 1 rfl) ?_
    refine va_get (D := G.1) (ci := 13) (v := .int (st.1 1)) (C := r_13) (T := f_13) (N := 42) (ref := "PagedValuesModel") hx hb hts (fun w h => List.mem_cons_of_mem _ (ly_13 w h)) hown hK hP 0 rfl rfl 2 (by decide) (hts _ (List.mem_cons_of_mem _ k1153)) (fun _ h9 => h9) rfl d15_11_21 ?_
    have e9 := Option.some.inj h
    subst e5
    have hl := lv_sub hl (l' := [(0, .ref (q 0)), (1, .int a0), (2, .int x1)]) [1, 2, 0] rfl
    exact hj _ _ _ hl hP hD hS
  ·
    replace h := (if_neg c4).symm.trans hX
    refine lv_aload_n hx hb d15_11_11 rfl (lv_at hl 1 rfl) ?_
    refine va_get (D := G.1) (ci := 13) (v := .int (st.1 1)) (C := r_13) (T := f_13) (N := 42) (ref := "PagedValuesModel") hx hb hts (fun w h => List.mem_cons_of_mem _ (ly_13 w h)) hown hK hP 0 rfl rfl 2 (by decide) (hts _ (List.mem_cons_of_mem _ k1153)) (fun _ h9 => h9) rfl d15_11_12 ?_
    refine lv_iconst (v := 1) hx hb d15_11_15 (by decide) ?_
    refine lv_iadd hx hb d15_11_16 ?_
    obtain ⟨y7, hr, h⟩ := ob h
    refine lv_topi (fun y9 ey => ?_)
    have e9 := ey.trans (Option.some.inj hr)
    clear ey
    subst y9
    clear hr
    refine lv_goto (tgt := 24) hx hb d15_11_17 rfl ?_
    have e9 := Option.some.inj h
    subst e5
    have hl := lv_sub hl (l' := [(0, .ref (q 0)), (1, .int a0), (2, .int x1)]) [1, 2, 0] rfl
    exact hj _ _ _ hl hP hD hS
def m_isDigit (a0 : Int32) : Option (Int32) := (if a0 < (48 : Int32) then (some (0 : Int32)) else (if (57 : Int32) < a0 then (some (0 : Int32)) else (some (1 : Int32)))).bind fun e2 => (bz e2).bind fun _ => some e2
set_option maxHeartbeats 4000000 in
set_option maxRecDepth 100000 in
theorem cm_isDigit (l : Launch) (G : Gk) (Zd : Nat → Nat) (w0 : va_W) (a0 : Int32) (r0 : Int32) (hm : m_isDigit a0 = some r0) (sz : Nat) : Met l y15_12 (Cond.code y15_12 prog_15_method_12_code 1 (some .boolean) :: TB) (rmD 0 0 0) (va_Pc [.int a0] (pcW G Zd w0 sz)) (qI G (fun rr (_ : Unit) => rr = r0) (fun _ => w0) (va_A w0 sz)) 0 0 (va_A w0 sz) := by
  refine go (y := y15_12) (cc := prog_15_method_12_code) (maxL := 1) (ret := (some .boolean)) (av := [.int a0]) (Qc := qI G (fun rr (_ : Unit) => rr = r0) (fun _ => w0)) "PagedValuesModel" rfl (by decide) (Nat.le_of_ble_eq_true rfl) ?_
  intro p e s m below meth c ls A hx hb hr hlk hml hown hts hin hl hP hD hK hS hA hZ
  have hl : lv_has ls 1 [(0, .int a0)] := hl
  have h := hm
  clear hm
  refine lv_iload_n hx hb d15_12_0 rfl (lv_at hl 0 rfl) ?_
  refine lv_bipush (v := 48) hx hb d15_12_1 (by decide) ?_
  obtain ⟨e2, hX, h⟩ := ob h
  have hj : ∀ (H : Heap) (locs : List Loc) (ls : Array Slot), lv_has ls 1 [(0, .int a0)] → va_P G.1 vwCl w0 H → va_D A w0 → va_S A s.heap H locs → W p l e (rmD 0 0 0) s m ([.int a0] : List Value).toArray below meth c H locs 0 0 (MQ below (qI G (fun rr (_ : Unit) => rr = r0) (fun _ => w0) A) ([.int a0] : List Value).toArray s 0 0 A) (F0 m 17 ls [.int e2]) := by
    intro H locs ls hl hP hD hS
    obtain ⟨u9, hr9, h⟩ := ob h
    have hi := bz_some hr9
    clear hr9 u9
    cases h
    exact fin_z hx hb hr hlk (nar01 hi) hS () rfl hP hD (Nat.le_of_ble_eq_true rfl) (Nat.le_of_ble_eq_true rfl) d15_12_17
  clear h
  refine lv_icmp_lt (tgt := 16) hx hb d15_12_3 rfl (fun c1 => ?_) (fun c1 => ?_)
  ·
    replace h := (if_pos c1).symm.trans hX
    refine lv_iconst (v := 0) hx hb d15_12_16 (by decide) ?_
    have e9 := Option.some.inj h
    subst e2
    have hl := lv_sub hl (l' := [(0, .int a0)]) [0] rfl
    exact hj _ _ _ hl hP hD hS
  ·
    replace h := (if_neg c1).symm.trans hX
    refine lv_iload_n hx hb d15_12_6 rfl (lv_at hl 0 rfl) ?_
    refine lv_bipush (v := 57) hx hb d15_12_7 (by decide) ?_
    refine lv_icmp_gt (tgt := 16) hx hb d15_12_9 rfl (fun c4 => ?_) (fun c4 => ?_)
    ·
      replace h := (if_pos c4).symm.trans h
      refine lv_iconst (v := 0) hx hb d15_12_16 (by decide) ?_
      have e9 := Option.some.inj h
      subst e2
      have hl := lv_sub hl (l' := [(0, .int a0)]) [0] rfl
      exact hj _ _ _ hl hP hD hS
    ·
      replace h := (if_neg c4).symm.trans h
      refine lv_iconst (v := 1) hx hb d15_12_12 (by decide) ?_
      refine lv_goto (tgt := 17) hx hb d15_12_13 rfl ?_
      have e9 := Option.some.inj h
      subst e2
      have hl := lv_sub hl (l' := [(0, .int a0)]) [0] rfl
      exact hj _ _ _ hl hP hD hS
def m_number_l1 (x13 : Int32) : Nat → (Int32 × Int32 × MS) → Option (Int32 × Int32 × MS)
  | 0, _ => none
  | n9 + 1, e9 => if (0 : Int32) ≤ (e9.2.2.1 2) then (some (e9.1, e9.2.1, e9.2.2)) else ((m_here e9.2.2).bind fun x31 => (m_isDigit x31).bind fun x34 => if x34 = (0 : Int32) then (some (e9.1, e9.2.1, e9.2.2)) else ((some (10 * e9.1)).bind fun y38 => (m_here e9.2.2).bind fun x39 => (some (y38 + x39)).bind fun y42 => (some (y42 - 48)).bind fun y43 => (if (999999 : Int32) < y43 then ((m_fault e9.2.2).bind fun st48 => some st48) else (if x13 = (0 : Int32) then ((some ((e9.2.2.1 1) + 1)).bind fun y51 => some (upd e9.2.2.1 1 y51, e9.2.2.2.1, e9.2.2.2.2.1, e9.2.2.2.2.2)) else (if e9.2.1 ≤ (0 : Int32) then ((some ((e9.2.2.1 1) + 1)).bind fun y53 => some (upd e9.2.2.1 1 y53, e9.2.2.2.1, e9.2.2.2.2.1, e9.2.2.2.2.2)) else ((m_fault e9.2.2).bind fun st55 => some st55)))).bind fun e45 => m_number_l1 x13 n9 (y43, e9.2.1 + 1, e45)))
theorem m_number_l1_s (x13 : Int32) (n9 : Nat) (e9 : Int32 × Int32 × MS) : m_number_l1 x13 (n9 + 1) e9 = (if (0 : Int32) ≤ (e9.2.2.1 2) then (some (e9.1, e9.2.1, e9.2.2)) else ((m_here e9.2.2).bind fun x31 => (m_isDigit x31).bind fun x34 => if x34 = (0 : Int32) then (some (e9.1, e9.2.1, e9.2.2)) else ((some (10 * e9.1)).bind fun y38 => (m_here e9.2.2).bind fun x39 => (some (y38 + x39)).bind fun y42 => (some (y42 - 48)).bind fun y43 => (if (999999 : Int32) < y43 then ((m_fault e9.2.2).bind fun st48 => some st48) else (if x13 = (0 : Int32) then ((some ((e9.2.2.1 1) + 1)).bind fun y51 => some (upd e9.2.2.1 1 y51, e9.2.2.2.1, e9.2.2.2.2.1, e9.2.2.2.2.2)) else (if e9.2.1 ≤ (0 : Int32) then ((some ((e9.2.2.1 1) + 1)).bind fun y53 => some (upd e9.2.2.1 1 y53, e9.2.2.2.1, e9.2.2.2.2.1, e9.2.2.2.2.2)) else ((m_fault e9.2.2).bind fun st55 => some st55)))).bind fun e45 => m_number_l1 x13 n9 (y43, e9.2.1 + 1, e45)))) := rfl
def m_number (st : MS) : Option (MS) := (m_takes (45 : Int32) st).bind fun r3 => (m_here r3.2).bind fun x4 => (m_isDigit x4).bind fun x7 => (if x7 = (0 : Int32) then ((m_fault r3.2).bind fun st58 => some st58) else (some r3.2)).bind fun e11 => (m_sees (48 : Int32) e11).bind fun x13 => (m_number_l1 x13 4096 ((0 : Int32), (0 : Int32), e11)).bind fun e16 => (if r3.1 = (0 : Int32) then ((some e16.1.toInt64).bind fun y27 => some y27) else ((some (-e16.1)).bind fun y28 => (some y28.toInt64).bind fun y29 => some y29)).bind fun e25 => some (e16.2.2.1, vp_updL (vp_updL e16.2.2.2.1 0 e25) 1 0, e16.2.2.2.2.1, e16.2.2.2.2.2)
set_option maxHeartbeats 4000000 in
set_option maxRecDepth 100000 in
theorem cm_number (l : Launch) (G : Gk) (Zd : Nat → Nat) (q : Nat → Nat) (st : MS) (st0 : MS) (hm : m_number st = some st0) (sz : Nat) : Met l y15_16 (Cond.code y15_16 prog_15_method_16_code 5 none :: TB) (rmD 3 0 0) (va_Pc [.ref (q 0)] (pcW G Zd (wMs q G.2 st) sz)) (qV G (fun (_ : Unit) => True) (fun _ => (wMs q G.2 st0)) (va_A (wMs q G.2 st) sz)) 0 0 (va_A (wMs q G.2 st) sz) := by
  refine go (y := y15_16) (cc := prog_15_method_16_code) (maxL := 5) (ret := none) (av := [.ref (q 0)]) (Qc := qV G (fun (_ : Unit) => True) (fun _ => (wMs q G.2 st0))) "PagedValuesModel" rfl (by decide) (Nat.le_of_ble_eq_true rfl) ?_
  intro p e s m below meth c ls A hx hb hr hlk hml hown hts hin hl hP hD hK hS hA hZ
  have hl : lv_has ls 5 [(0, .ref (q 0))] := hl
  have h := hm
  clear hm
  refine lv_aload_n hx hb d15_16_0 rfl (lv_at hl 0 rfl) ?_
  refine lv_bipush (v := 45) hx hb d15_16_1 (by decide) ?_
  obtain ⟨⟨x1, st2⟩, hc, h⟩ := ob h
  refine sV_i (As := [.int 45]) (rest := []) ⟨hx, hb, hml, hown, hts⟩ (cm_takes l G Zd q (45 : Int32) st x1 st2 hc _) (kw_V (n := 1) hts k1359 k1356 k15 k1358 ks48 (by decide +kernel) ⟨Nat.le_of_ble_eq_true rfl, Nat.le_of_ble_eq_true rfl⟩) hP hD hK hS hA hZ (va_recv (ci := 13) (q0 := 0) hK hP rfl rfl) rfl hl.1 rfl (Nat.le_of_ble_eq_true rfl) d15_16_3 ⟨Nat.le_of_ble_eq_true rfl, Nat.le_of_ble_eq_true rfl⟩ (fun rr u9 H locs hp hP hD hS => ?_)
  clear u9
  subst rr
  clear hc
  refine W.eq (g2 := F0 m 6 ls [.int x1]) rfl ?_
  have hP : va_P G.1 vwCl (wMs q G.2 st2) H := hP
  have hD : va_D A (wMs q G.2 st2) := hD
  refine lv_istore_n (lv' := [(1, .int x1), (0, .ref (q 0))]) hx hb d15_16_6 rfl hl (by decide) rfl (fun ls hl => ?_)
  refine lv_iconst (v := 0) hx hb d15_16_7 (by decide) ?_
  refine lv_istore_n (lv' := [(2, .int 0), (1, .int x1), (0, .ref (q 0))]) hx hb d15_16_8 rfl hl (by decide) rfl (fun ls hl => ?_)
  refine lv_aload_n hx hb d15_16_9 rfl (lv_at hl 2 rfl) ?_
  obtain ⟨x4, hc, h⟩ := ob h
  refine sV_i (As := []) (rest := []) ⟨hx, hb, hml, hown, hts⟩ (cm_here l G Zd q st2 x4 hc _) (kw_V (n := 0) hts k1305 k1302 k15 k1304 ks37 (by decide +kernel) ⟨Nat.le_of_ble_eq_true rfl, Nat.le_of_ble_eq_true rfl⟩) hP hD hK hS hA hZ (va_recv (ci := 13) (q0 := 0) hK hP rfl rfl) rfl hl.1 rfl (Nat.le_of_ble_eq_true rfl) d15_16_10 ⟨Nat.le_of_ble_eq_true rfl, Nat.le_of_ble_eq_true rfl⟩ (fun rr u9 H locs hp hP hD hS => ?_)
  clear u9
  subst rr
  clear hc
  refine W.eq (g2 := F0 m 13 ls [.int x4]) rfl ?_
  have hP : va_P G.1 vwCl (wMs q G.2 st2) H := hP
  have hD : va_D A (wMs q G.2 st2) := hD
  obtain ⟨x7, hc, h⟩ := ob h
  refine sS_i (As := [.int x4]) (rest := []) ⟨hx, hb, hml, hown, hts⟩ (cm_isDigit l G Zd _ x4 x7 hc _) (kw_S (n := 1) hts k1351 k1349 k15 k1350 (by decide +kernel) ⟨Nat.le_of_ble_eq_true rfl, Nat.le_of_ble_eq_true rfl⟩) hP hD hK hS hA hZ rfl hl.1 rfl (Nat.le_of_ble_eq_true rfl) d15_16_13 ⟨Nat.le_of_ble_eq_true rfl, Nat.le_of_ble_eq_true rfl⟩ (fun rr u9 H locs hp hP hD hS => ?_)
  clear u9
  subst rr
  clear hc
  refine W.eq (g2 := F0 m 16 ls [.int x7]) rfl ?_
  have hP : va_P G.1 vwCl (wMs q G.2 st2) H := hP
  have hD : va_D A (wMs q G.2 st2) := hD
  obtain ⟨e11, hX, h⟩ := ob h
  have hj : ∀ (H : Heap) (locs : List Loc) (ls : Array Slot), lv_has ls 5 [(0, .ref (q 0)), (1, .int x1), (2, .int 0)] → va_P G.1 vwCl (wMs q G.2 e11) H → va_D A (wMs q G.2 e11) → va_S A s.heap H locs → W p l e (rmD 3 0 0) s m ([.ref (q 0)] : List Value).toArray below meth c H locs 0 0 (MQ below (qV G (fun (_ : Unit) => True) (fun _ => (wMs q G.2 st0)) A) ([.ref (q 0)] : List Value).toArray s 0 0 A) (F0 m 23 ls []) := by
    intro H locs ls hl hP hD hS
    refine lv_aload_n hx hb d15_16_23 rfl (lv_at hl 0 rfl) ?_
    refine lv_bipush (v := 48) hx hb d15_16_24 (by decide) ?_
    obtain ⟨x13, hc, h⟩ := ob h
    refine sV_i (As := [.int 48]) (rest := []) ⟨hx, hb, hml, hown, hts⟩ (cm_sees l G Zd q (48 : Int32) e11 x13 hc _) (kw_V (n := 1) hts k1301 k1298 k15 k1300 ks36 (by decide +kernel) ⟨Nat.le_of_ble_eq_true rfl, Nat.le_of_ble_eq_true rfl⟩) hP hD hK hS hA hZ (va_recv (ci := 13) (q0 := 0) hK hP rfl rfl) rfl hl.1 rfl (Nat.le_of_ble_eq_true rfl) d15_16_26 ⟨Nat.le_of_ble_eq_true rfl, Nat.le_of_ble_eq_true rfl⟩ (fun rr u9 H locs hp hP hD hS => ?_)
    clear u9
    subst rr
    clear hc
    refine W.eq (g2 := F0 m 29 ls [.int x13]) rfl ?_
    have hP : va_P G.1 vwCl (wMs q G.2 e11) H := hP
    have hD : va_D A (wMs q G.2 e11) := hD
    refine lv_istore_n (lv' := [(3, .int x13), (0, .ref (q 0)), (1, .int x1), (2, .int 0)]) hx hb d15_16_29 rfl hl (by decide) rfl (fun ls hl => ?_)
    refine lv_iconst (v := 0) hx hb d15_16_30 (by decide) ?_
    refine lv_istore (lv' := [(4, .int 0), (3, .int x13), (0, .ref (q 0)), (1, .int x1), (2, .int 0)]) hx hb d15_16_31 hl (by decide) rfl (fun ls hl => ?_)
    obtain ⟨e16, hX, hrest⟩ := ob h
    clear h
    have hj : ∀ (v21 : Int32) (v22 : Int32) (v23 : MS), e16 = (v21, v22, v23) → ∀ (H : Heap) (locs : List Loc) (ls : Array Slot), lv_has ls 5 [(0, .ref (q 0)), (1, .int x1), (2, .int v21), (3, .int x13), (4, .int v22)] → va_P G.1 vwCl (wMs q G.2 v23) H → va_D A (wMs q G.2 v23) → va_S A s.heap H locs → W p l e (rmD 3 0 0) s m ([.ref (q 0)] : List Value).toArray below meth c H locs 0 0 (MQ below (qV G (fun (_ : Unit) => True) (fun _ => (wMs q G.2 st0)) A) ([.ref (q 0)] : List Value).toArray s 0 0 A) (F0 m 101 ls []) := by
      intro v21 v22 v23 he H locs ls hl hP hD hS
      subst e16
      have h := hrest
      refine lv_aload_n hx hb d15_16_101 rfl (lv_at hl 0 rfl) ?_
      refine lv_iload_n hx hb d15_16_102 rfl (lv_at hl 1 rfl) ?_
      obtain ⟨e25, hX, h⟩ := ob h
      have hj : ∀ (H : Heap) (locs : List Loc) (ls : Array Slot), lv_has ls 5 [(0, .ref (q 0)), (1, .int x1), (2, .int v21), (3, .int x13), (4, .int v22)] → va_P G.1 vwCl (wMs q G.2 v23) H → va_D A (wMs q G.2 v23) → va_S A s.heap H locs → W p l e (rmD 3 0 0) s m ([.ref (q 0)] : List Value).toArray below meth c H locs 0 0 (MQ below (qV G (fun (_ : Unit) => True) (fun _ => (wMs q G.2 st0)) A) ([.ref (q 0)] : List Value).toArray s 0 0 A) (F0 m 114 ls [.long e25, .ref (q 0)]) := by
        intro H locs ls hl hP hD hS
        refine va_put (D := G.1) (ci := 13) (v := .long e25) (ty := .long) (C := r_13) (T := f_13) (N := 42) (ref := "PagedValuesModel") hx hb hts (fun w h => List.mem_cons_of_mem _ (ly_13 w h)) ft_13 ft_13_ok nm_13 hown hK hP hD hS 0 rfl rfl 11 (by decide) (hts _ (List.mem_cons_of_mem _ k1162)) (fun _ h9 => h9) rfl (by decide +kernel) rfl rfl (Nat.le_of_ble_eq_true rfl) d15_16_114 (fun H locs hP hD hS => ?_)
        have hP : va_P G.1 vwCl (wMs q G.2 (v23.1, vp_updL v23.2.1 0 e25, v23.2.2.1, v23.2.2.2)) H := hP
        have hD : va_D A (wMs q G.2 (v23.1, vp_updL v23.2.1 0 e25, v23.2.2.1, v23.2.2.2)) := hD
        refine lv_aload_n hx hb d15_16_117 rfl (lv_at hl 0 rfl) ?_
        refine lv_lconst (v := 0) hx hb d15_16_118 (by decide) ?_
        refine va_put (D := G.1) (ci := 13) (v := .long 0) (ty := .long) (C := r_13) (T := f_13) (N := 42) (ref := "PagedValuesModel") hx hb hts (fun w h => List.mem_cons_of_mem _ (ly_13 w h)) ft_13 ft_13_ok nm_13 hown hK hP hD hS 0 rfl rfl 12 (by decide) (hts _ (List.mem_cons_of_mem _ k1163)) (fun _ h9 => h9) rfl (by decide +kernel) rfl rfl (Nat.le_of_ble_eq_true rfl) d15_16_119 (fun H locs hP hD hS => ?_)
        have hP : va_P G.1 vwCl (wMs q G.2 (v23.1, vp_updL (vp_updL v23.2.1 0 e25) 1 0, v23.2.2.1, v23.2.2.2)) H := hP
        have hD : va_D A (wMs q G.2 (v23.1, vp_updL (vp_updL v23.2.1 0 e25) 1 0, v23.2.2.1, v23.2.2.2)) := hD
        cases h
        exact fin_v hx hb hr hlk hS () trivial hP hD (Nat.le_of_ble_eq_true rfl) (Nat.le_of_ble_eq_true rfl) d15_16_122
      clear h
      refine lv_if_eq (tgt := 112) hx hb d15_16_103 rfl (fun c24 => ?_) (fun c24 => ?_)
      ·
        replace h := (if_pos c24).symm.trans hX
        refine lv_iload_n hx hb d15_16_112 rfl (lv_at hl 2 rfl) ?_
        refine lv_i2l hx hb d15_16_113 rfl ?_
        obtain ⟨y27, hr, h⟩ := ob h
        refine lv_topl (fun y9 ey => ?_)
        have e9 := ey.trans (Option.some.inj hr)
        clear ey
        subst y9
        clear hr
        have e9 := Option.some.inj h
        subst e25
        have hl := lv_sub hl (l' := [(0, .ref (q 0)), (1, .int x1), (2, .int v21), (3, .int x13), (4, .int v22)]) [0, 1, 2, 3, 4] rfl
        exact hj _ _ _ hl hP hD hS
      ·
        replace h := (if_neg c24).symm.trans hX
        refine lv_iload_n hx hb d15_16_106 rfl (lv_at hl 2 rfl) ?_
        refine lv_ineg hx hb d15_16_107 ?_
        obtain ⟨y28, hr, h⟩ := ob h
        refine lv_topi (fun y9 ey => ?_)
        have e9 := ey.trans (Option.some.inj hr)
        clear ey
        subst y9
        clear hr
        refine lv_i2l hx hb d15_16_108 rfl ?_
        obtain ⟨y29, hr, h⟩ := ob h
        refine lv_topl (fun y9 ey => ?_)
        have e9 := ey.trans (Option.some.inj hr)
        clear ey
        subst y9
        clear hr
        refine lv_goto (tgt := 114) hx hb d15_16_109 rfl ?_
        have e9 := Option.some.inj h
        subst e25
        have hl := lv_sub hl (l' := [(0, .ref (q 0)), (1, .int x1), (2, .int v21), (3, .int x13), (4, .int v22)]) [0, 1, 2, 3, 4] rfl
        exact hj _ _ _ hl hP hD hS
    have hloop : ∀ (n9 : Nat) (v17 : Int32) (v18 : Int32) (v19 : MS), m_number_l1 x13 n9 (v17, v18, v19) = some e16 → ∀ (H : Heap) (locs : List Loc) (ls : Array Slot), lv_has ls 5 [(0, .ref (q 0)), (1, .int x1), (2, .int v17), (3, .int x13), (4, .int v18)] → va_P G.1 vwCl (wMs q G.2 v19) H → va_D A (wMs q G.2 v19) → va_S A s.heap H locs → W p l e (rmD 3 0 0) s m ([.ref (q 0)] : List Value).toArray below meth c H locs 0 0 (MQ below (qV G (fun (_ : Unit) => True) (fun _ => (wMs q G.2 st0)) A) ([.ref (q 0)] : List Value).toArray s 0 0 A) (F0 m 33 ls []) := by
      intro n9
      induction n9 with
      | zero =>
        intro v17 v18 v19 h
        cases h
      | succ n9 ih =>
        intro v17 v18 v19 h H locs ls hl hP hD hS
        replace h := (m_number_l1_s x13 n9 (v17, v18, v19)).symm.trans h
        refine lv_aload_n hx hb d15_16_33 rfl (lv_at hl 0 rfl) ?_
        refine va_get (D := G.1) (ci := 13) (v := .int (v19.1 2)) (C := r_13) (T := f_13) (N := 42) (ref := "PagedValuesModel") hx hb hts (fun w h => List.mem_cons_of_mem _ (ly_13 w h)) hown hK hP 0 rfl rfl 3 (by decide) (hts _ (List.mem_cons_of_mem _ k1154)) (fun _ h9 => h9) rfl d15_16_34 ?_
        refine lv_if_ge (tgt := 101) hx hb d15_16_37 rfl (fun c30 => ?_) (fun c30 => ?_)
        ·
          replace h := (if_pos c30).symm.trans h
          have e9 := Option.some.inj h
          subst e16
          have hl := lv_sub hl (l' := [(0, .ref (q 0)), (1, .int x1), (2, .int v17), (3, .int x13), (4, .int v18)]) [0, 1, 2, 3, 4] rfl
          exact hj _ _ _ rfl _ _ _ hl hP hD hS
        ·
          replace h := (if_neg c30).symm.trans h
          refine lv_aload_n hx hb d15_16_40 rfl (lv_at hl 0 rfl) ?_
          obtain ⟨x31, hc, h⟩ := ob h
          refine sV_i (As := []) (rest := []) ⟨hx, hb, hml, hown, hts⟩ (cm_here l G Zd q v19 x31 hc _) (kw_V (n := 0) hts k1305 k1302 k15 k1304 ks37 (by decide +kernel) ⟨Nat.le_of_ble_eq_true rfl, Nat.le_of_ble_eq_true rfl⟩) hP hD hK hS hA hZ (va_recv (ci := 13) (q0 := 0) hK hP rfl rfl) rfl hl.1 rfl (Nat.le_of_ble_eq_true rfl) d15_16_41 ⟨Nat.le_of_ble_eq_true rfl, Nat.le_of_ble_eq_true rfl⟩ (fun rr u9 H locs hp hP hD hS => ?_)
          clear u9
          subst rr
          clear hc
          refine W.eq (g2 := F0 m 44 ls [.int x31]) rfl ?_
          have hP : va_P G.1 vwCl (wMs q G.2 v19) H := hP
          have hD : va_D A (wMs q G.2 v19) := hD
          obtain ⟨x34, hc, h⟩ := ob h
          refine sS_i (As := [.int x31]) (rest := []) ⟨hx, hb, hml, hown, hts⟩ (cm_isDigit l G Zd _ x31 x34 hc _) (kw_S (n := 1) hts k1351 k1349 k15 k1350 (by decide +kernel) ⟨Nat.le_of_ble_eq_true rfl, Nat.le_of_ble_eq_true rfl⟩) hP hD hK hS hA hZ rfl hl.1 rfl (Nat.le_of_ble_eq_true rfl) d15_16_44 ⟨Nat.le_of_ble_eq_true rfl, Nat.le_of_ble_eq_true rfl⟩ (fun rr u9 H locs hp hP hD hS => ?_)
          clear u9
          subst rr
          clear hc
          refine W.eq (g2 := F0 m 47 ls [.int x34]) rfl ?_
          have hP : va_P G.1 vwCl (wMs q G.2 v19) H := hP
          have hD : va_D A (wMs q G.2 v19) := hD
          refine lv_if_eq (tgt := 101) hx hb d15_16_47 rfl (fun c37 => ?_) (fun c37 => ?_)
          ·
            replace h := (if_pos c37).symm.trans h
            have e9 := Option.some.inj h
            subst e16
            have hl := lv_sub hl (l' := [(0, .ref (q 0)), (1, .int x1), (2, .int v17), (3, .int x13), (4, .int v18)]) [0, 1, 2, 3, 4] rfl
            exact hj _ _ _ rfl _ _ _ hl hP hD hS
          ·
            replace h := (if_neg c37).symm.trans h
            refine lv_bipush (v := 10) hx hb d15_16_50 (by decide) ?_
            refine lv_iload_n hx hb d15_16_52 rfl (lv_at hl 2 rfl) ?_
            refine lv_imul hx hb d15_16_53 ?_
            obtain ⟨y38, hr, h⟩ := ob h
            refine lv_topi (fun y9 ey => ?_)
            have e9 := ey.trans (Option.some.inj hr)
            clear ey
            subst y9
            clear hr
            refine lv_aload_n hx hb d15_16_54 rfl (lv_at hl 0 rfl) ?_
            obtain ⟨x39, hc, h⟩ := ob h
            refine sV_i (As := []) (rest := [.int y38]) ⟨hx, hb, hml, hown, hts⟩ (cm_here l G Zd q v19 x39 hc _) (kw_V (n := 0) hts k1305 k1302 k15 k1304 ks37 (by decide +kernel) ⟨Nat.le_of_ble_eq_true rfl, Nat.le_of_ble_eq_true rfl⟩) hP hD hK hS hA hZ (va_recv (ci := 13) (q0 := 0) hK hP rfl rfl) rfl hl.1 rfl (Nat.le_of_ble_eq_true rfl) d15_16_55 ⟨Nat.le_of_ble_eq_true rfl, Nat.le_of_ble_eq_true rfl⟩ (fun rr u9 H locs hp hP hD hS => ?_)
            clear u9
            subst rr
            clear hc
            refine W.eq (g2 := F0 m 58 ls [.int x39, .int y38]) rfl ?_
            have hP : va_P G.1 vwCl (wMs q G.2 v19) H := hP
            have hD : va_D A (wMs q G.2 v19) := hD
            refine lv_iadd hx hb d15_16_58 ?_
            obtain ⟨y42, hr, h⟩ := ob h
            refine lv_topi (fun y9 ey => ?_)
            have e9 := ey.trans (Option.some.inj hr)
            clear ey
            subst y9
            clear hr
            refine lv_bipush (v := 48) hx hb d15_16_59 (by decide) ?_
            refine lv_isub hx hb d15_16_61 ?_
            obtain ⟨y43, hr, h⟩ := ob h
            refine lv_topi (fun y9 ey => ?_)
            have e9 := ey.trans (Option.some.inj hr)
            clear ey
            subst y9
            clear hr
            refine lv_istore_n (lv' := [(2, .int y43), (0, .ref (q 0)), (1, .int x1), (3, .int x13), (4, .int v18)]) hx hb d15_16_62 rfl hl (by decide) rfl (fun ls hl => ?_)
            refine lv_iload_n hx hb d15_16_63 rfl (lv_at hl 0 rfl) ?_
            refine lv_ldc (v := 999999) hx hb hown (hts _ (List.mem_cons_of_mem _ k1360)) d15_16_64 ?_
            obtain ⟨e45, hX, h⟩ := ob h
            have hj : ∀ (H : Heap) (locs : List Loc) (ls : Array Slot), lv_has ls 5 [(0, .ref (q 0)), (1, .int x1), (2, .int y43), (3, .int x13), (4, .int v18)] → va_P G.1 vwCl (wMs q G.2 e45) H → va_D A (wMs q G.2 e45) → va_S A s.heap H locs → W p l e (rmD 3 0 0) s m ([.ref (q 0)] : List Value).toArray below meth c H locs 0 0 (MQ below (qV G (fun (_ : Unit) => True) (fun _ => (wMs q G.2 st0)) A) ([.ref (q 0)] : List Value).toArray s 0 0 A) (F0 m 95 ls []) := by
              intro H locs ls hl hP hD hS
              refine lv_iinc (k := 4) (v := v18 + 1) (lv' := [(4, .int (v18 + 1)), (0, .ref (q 0)), (1, .int x1), (2, .int y43), (3, .int x13)]) hx hb d15_16_95 hl rfl (by first | decide | rfl) (by decide) rfl (fun ls hl => ?_)
              refine lv_goto (tgt := 33) hx hb d15_16_98 rfl ?_
              have hl := lv_sub hl (l' := [(0, .ref (q 0)), (1, .int x1), (2, .int y43), (3, .int x13), (4, .int (v18 + 1))]) [1, 2, 3, 4, 0] rfl
              exact ih _ _ _ h _ _ _ hl hP hD hS
            clear h
            refine lv_icmp_gt (tgt := 78) hx hb d15_16_66 rfl (fun c44 => ?_) (fun c44 => ?_)
            ·
              replace h := (if_pos c44).symm.trans hX
              refine lv_aload_n hx hb d15_16_78 rfl (lv_at hl 1 rfl) ?_
              obtain ⟨st48, hc, h⟩ := ob h
              refine sV_v (As := []) (rest := []) ⟨hx, hb, hml, hown, hts⟩ (cm_fault l G Zd q v19 st48 hc _) (kw_V (n := 0) hts k1320 k1317 k15 k1319 ks40 (by decide +kernel) ⟨Nat.le_of_ble_eq_true rfl, Nat.le_of_ble_eq_true rfl⟩) hP hD hK hS hA hZ (va_recv (ci := 13) (q0 := 0) hK hP rfl rfl) rfl hl.1 rfl (Nat.le_of_ble_eq_true rfl) d15_16_79 ⟨Nat.le_of_ble_eq_true rfl, Nat.le_of_ble_eq_true rfl⟩ (fun u9 H locs hp hP hD hS => ?_)
              clear u9
              clear hp
              clear hc
              refine W.eq (g2 := F0 m 82 ls []) rfl ?_
              have hP : va_P G.1 vwCl (wMs q G.2 st48) H := hP
              have hD : va_D A (wMs q G.2 st48) := hD
              refine lv_goto (tgt := 95) hx hb d15_16_82 rfl ?_
              have e9 := Option.some.inj h
              subst e45
              have hl := lv_sub hl (l' := [(0, .ref (q 0)), (1, .int x1), (2, .int y43), (3, .int x13), (4, .int v18)]) [1, 2, 0, 3, 4] rfl
              exact hj _ _ _ hl hP hD hS
            ·
              replace h := (if_neg c44).symm.trans hX
              refine lv_iload_n hx hb d15_16_69 rfl (lv_at hl 3 rfl) ?_
              refine lv_if_eq (tgt := 85) hx hb d15_16_70 rfl (fun c50 => ?_) (fun c50 => ?_)
              ·
                replace h := (if_pos c50).symm.trans h
                refine lv_aload_n hx hb d15_16_85 rfl (lv_at hl 1 rfl) ?_
                refine lv_dup hx hb d15_16_86 rfl ?_
                refine va_get (D := G.1) (ci := 13) (v := .int (v19.1 1)) (C := r_13) (T := f_13) (N := 42) (ref := "PagedValuesModel") hx hb hts (fun w h => List.mem_cons_of_mem _ (ly_13 w h)) hown hK hP 0 rfl rfl 2 (by decide) (hts _ (List.mem_cons_of_mem _ k1153)) (fun _ h9 => h9) rfl d15_16_87 ?_
                refine lv_iconst (v := 1) hx hb d15_16_90 (by decide) ?_
                refine lv_iadd hx hb d15_16_91 ?_
                obtain ⟨y51, hr, h⟩ := ob h
                refine lv_topi (fun y9 ey => ?_)
                have e9 := ey.trans (Option.some.inj hr)
                clear ey
                subst y9
                clear hr
                refine va_put (D := G.1) (ci := 13) (v := .int y51) (ty := .int) (C := r_13) (T := f_13) (N := 42) (ref := "PagedValuesModel") hx hb hts (fun w h => List.mem_cons_of_mem _ (ly_13 w h)) ft_13 ft_13_ok nm_13 hown hK hP hD hS 0 rfl rfl 2 (by decide) (hts _ (List.mem_cons_of_mem _ k1153)) (fun _ h9 => h9) rfl (by decide +kernel) rfl rfl (Nat.le_of_ble_eq_true rfl) d15_16_92 (fun H locs hP hD hS => ?_)
                have hP : va_P G.1 vwCl (wMs q G.2 (upd v19.1 1 y51, v19.2.1, v19.2.2.1, v19.2.2.2)) H := hP
                have hD : va_D A (wMs q G.2 (upd v19.1 1 y51, v19.2.1, v19.2.2.1, v19.2.2.2)) := hD
                have e9 := Option.some.inj h
                subst e45
                have hl := lv_sub hl (l' := [(0, .ref (q 0)), (1, .int x1), (2, .int y43), (3, .int x13), (4, .int v18)]) [1, 2, 0, 3, 4] rfl
                exact hj _ _ _ hl hP hD hS
              ·
                replace h := (if_neg c50).symm.trans h
                refine lv_iload hx hb d15_16_73 (lv_at hl 4 rfl) ?_
                refine lv_if_le (tgt := 85) hx hb d15_16_75 rfl (fun c52 => ?_) (fun c52 => ?_)
                ·
                  replace h := (if_pos c52).symm.trans h
                  refine lv_aload_n hx hb d15_16_85 rfl (lv_at hl 1 rfl) ?_
                  refine lv_dup hx hb d15_16_86 rfl ?_
                  refine va_get (D := G.1) (ci := 13) (v := .int (v19.1 1)) (C := r_13) (T := f_13) (N := 42) (ref := "PagedValuesModel") hx hb hts (fun w h => List.mem_cons_of_mem _ (ly_13 w h)) hown hK hP 0 rfl rfl 2 (by decide) (hts _ (List.mem_cons_of_mem _ k1153)) (fun _ h9 => h9) rfl d15_16_87 ?_
                  refine lv_iconst (v := 1) hx hb d15_16_90 (by decide) ?_
                  refine lv_iadd hx hb d15_16_91 ?_
                  obtain ⟨y53, hr, h⟩ := ob h
                  refine lv_topi (fun y9 ey => ?_)
                  have e9 := ey.trans (Option.some.inj hr)
                  clear ey
                  subst y9
                  clear hr
                  refine va_put (D := G.1) (ci := 13) (v := .int y53) (ty := .int) (C := r_13) (T := f_13) (N := 42) (ref := "PagedValuesModel") hx hb hts (fun w h => List.mem_cons_of_mem _ (ly_13 w h)) ft_13 ft_13_ok nm_13 hown hK hP hD hS 0 rfl rfl 2 (by decide) (hts _ (List.mem_cons_of_mem _ k1153)) (fun _ h9 => h9) rfl (by decide +kernel) rfl rfl (Nat.le_of_ble_eq_true rfl) d15_16_92 (fun H locs hP hD hS => ?_)
                  have hP : va_P G.1 vwCl (wMs q G.2 (upd v19.1 1 y53, v19.2.1, v19.2.2.1, v19.2.2.2)) H := hP
                  have hD : va_D A (wMs q G.2 (upd v19.1 1 y53, v19.2.1, v19.2.2.1, v19.2.2.2)) := hD
                  have e9 := Option.some.inj h
                  subst e45
                  have hl := lv_sub hl (l' := [(0, .ref (q 0)), (1, .int x1), (2, .int y43), (3, .int x13), (4, .int v18)]) [1, 2, 0, 3, 4] rfl
                  exact hj _ _ _ hl hP hD hS
                ·
                  replace h := (if_neg c52).symm.trans h
                  refine lv_aload_n hx hb d15_16_78 rfl (lv_at hl 1 rfl) ?_
                  obtain ⟨st55, hc, h⟩ := ob h
                  refine sV_v (As := []) (rest := []) ⟨hx, hb, hml, hown, hts⟩ (cm_fault l G Zd q v19 st55 hc _) (kw_V (n := 0) hts k1320 k1317 k15 k1319 ks40 (by decide +kernel) ⟨Nat.le_of_ble_eq_true rfl, Nat.le_of_ble_eq_true rfl⟩) hP hD hK hS hA hZ (va_recv (ci := 13) (q0 := 0) hK hP rfl rfl) rfl hl.1 rfl (Nat.le_of_ble_eq_true rfl) d15_16_79 ⟨Nat.le_of_ble_eq_true rfl, Nat.le_of_ble_eq_true rfl⟩ (fun u9 H locs hp hP hD hS => ?_)
                  clear u9
                  clear hp
                  clear hc
                  refine W.eq (g2 := F0 m 82 ls []) rfl ?_
                  have hP : va_P G.1 vwCl (wMs q G.2 st55) H := hP
                  have hD : va_D A (wMs q G.2 st55) := hD
                  refine lv_goto (tgt := 95) hx hb d15_16_82 rfl ?_
                  have e9 := Option.some.inj h
                  subst e45
                  have hl := lv_sub hl (l' := [(0, .ref (q 0)), (1, .int x1), (2, .int y43), (3, .int x13), (4, .int v18)]) [1, 2, 0, 3, 4] rfl
                  exact hj _ _ _ hl hP hD hS
    have hl := lv_sub hl (l' := [(0, .ref (q 0)), (1, .int x1), (2, .int 0), (3, .int x13), (4, .int 0)]) [2, 3, 4, 1, 0] rfl
    exact hloop _ _ _ _ hX _ _ _ hl hP hD hS
  clear h
  refine lv_if_ne (tgt := 23) hx hb d15_16_16 rfl (fun c10 => ?_) (fun c10 => ?_)
  ·
    replace h := (if_neg c10).symm.trans hX
    have e9 := Option.some.inj h
    subst e11
    have hl := lv_sub hl (l' := [(0, .ref (q 0)), (1, .int x1), (2, .int 0)]) [2, 1, 0] rfl
    exact hj _ _ _ hl hP hD hS
  ·
    replace h := (if_pos c10).symm.trans hX
    refine lv_aload_n hx hb d15_16_19 rfl (lv_at hl 2 rfl) ?_
    obtain ⟨st58, hc, h⟩ := ob h
    refine sV_v (As := []) (rest := []) ⟨hx, hb, hml, hown, hts⟩ (cm_fault l G Zd q st2 st58 hc _) (kw_V (n := 0) hts k1320 k1317 k15 k1319 ks40 (by decide +kernel) ⟨Nat.le_of_ble_eq_true rfl, Nat.le_of_ble_eq_true rfl⟩) hP hD hK hS hA hZ (va_recv (ci := 13) (q0 := 0) hK hP rfl rfl) rfl hl.1 rfl (Nat.le_of_ble_eq_true rfl) d15_16_20 ⟨Nat.le_of_ble_eq_true rfl, Nat.le_of_ble_eq_true rfl⟩ (fun u9 H locs hp hP hD hS => ?_)
    clear u9
    clear hp
    clear hc
    refine W.eq (g2 := F0 m 23 ls []) rfl ?_
    have hP : va_P G.1 vwCl (wMs q G.2 st58) H := hP
    have hD : va_D A (wMs q G.2 st58) := hD
    have e9 := Option.some.inj h
    subst e11
    have hl := lv_sub hl (l' := [(0, .ref (q 0)), (1, .int x1), (2, .int 0)]) [2, 1, 0] rfl
    exact hj _ _ _ hl hP hD hS
def m_clear (st : MS) : Option (MS) := some (st.1, vp_updL (vp_updL st.2.1 0 0) 1 0, st.2.2.1, st.2.2.2)
set_option maxHeartbeats 4000000 in
set_option maxRecDepth 100000 in
theorem cm_clear (l : Launch) (G : Gk) (Zd : Nat → Nat) (q : Nat → Nat) (st : MS) (st0 : MS) (hm : m_clear st = some st0) (sz : Nat) : Met l y15_6 (Cond.code y15_6 prog_15_method_6_code 1 none :: TB) (rmD 0 0 0) (va_Pc [.ref (q 0)] (pcW G Zd (wMs q G.2 st) sz)) (qV G (fun (_ : Unit) => True) (fun _ => (wMs q G.2 st0)) (va_A (wMs q G.2 st) sz)) 0 0 (va_A (wMs q G.2 st) sz) := by
  refine go (y := y15_6) (cc := prog_15_method_6_code) (maxL := 1) (ret := none) (av := [.ref (q 0)]) (Qc := qV G (fun (_ : Unit) => True) (fun _ => (wMs q G.2 st0))) "PagedValuesModel" rfl (by decide) (Nat.le_of_ble_eq_true rfl) ?_
  intro p e s m below meth c ls A hx hb hr hlk hml hown hts hin hl hP hD hK hS hA hZ
  have hl : lv_has ls 1 [(0, .ref (q 0))] := hl
  have h := hm
  clear hm
  refine lv_aload_n hx hb d15_6_0 rfl (lv_at hl 0 rfl) ?_
  refine lv_lconst (v := 0) hx hb d15_6_1 (by decide) ?_
  refine va_put (D := G.1) (ci := 13) (v := .long 0) (ty := .long) (C := r_13) (T := f_13) (N := 42) (ref := "PagedValuesModel") hx hb hts (fun w h => List.mem_cons_of_mem _ (ly_13 w h)) ft_13 ft_13_ok nm_13 hown hK hP hD hS 0 rfl rfl 11 (by decide) (hts _ (List.mem_cons_of_mem _ k1162)) (fun _ h9 => h9) rfl (by decide +kernel) rfl rfl (Nat.le_of_ble_eq_true rfl) d15_6_2 (fun H locs hP hD hS => ?_)
  have hP : va_P G.1 vwCl (wMs q G.2 (st.1, vp_updL st.2.1 0 0, st.2.2.1, st.2.2.2)) H := hP
  have hD : va_D A (wMs q G.2 (st.1, vp_updL st.2.1 0 0, st.2.2.1, st.2.2.2)) := hD
  refine lv_aload_n hx hb d15_6_5 rfl (lv_at hl 0 rfl) ?_
  refine lv_lconst (v := 0) hx hb d15_6_6 (by decide) ?_
  refine va_put (D := G.1) (ci := 13) (v := .long 0) (ty := .long) (C := r_13) (T := f_13) (N := 42) (ref := "PagedValuesModel") hx hb hts (fun w h => List.mem_cons_of_mem _ (ly_13 w h)) ft_13 ft_13_ok nm_13 hown hK hP hD hS 0 rfl rfl 12 (by decide) (hts _ (List.mem_cons_of_mem _ k1163)) (fun _ h9 => h9) rfl (by decide +kernel) rfl rfl (Nat.le_of_ble_eq_true rfl) d15_6_7 (fun H locs hP hD hS => ?_)
  have hP : va_P G.1 vwCl (wMs q G.2 (st.1, vp_updL (vp_updL st.2.1 0 0) 1 0, st.2.2.1, st.2.2.2)) H := hP
  have hD : va_D A (wMs q G.2 (st.1, vp_updL (vp_updL st.2.1 0 0) 1 0, st.2.2.1, st.2.2.2)) := hD
  cases h
  exact fin_v hx hb hr hlk hS () trivial hP hD (Nat.le_of_ble_eq_true rfl) (Nat.le_of_ble_eq_true rfl) d15_6_10
def m_must (a0 : Int32) (st : MS) : Option (MS) := (if (0 : Int32) ≤ (st.1 2) then ((m_fault st).bind fun st5 => some st5) else ((m_here st).bind fun x7 => if x7 = a0 then ((some ((st.1 1) + 1)).bind fun y14 => some (upd st.1 1 y14, st.2.1, st.2.2.1, st.2.2.2)) else ((m_fault st).bind fun st12 => some st12))).bind fun e2 => some e2
set_option maxHeartbeats 4000000 in
set_option maxRecDepth 100000 in
theorem cm_must (l : Launch) (G : Gk) (Zd : Nat → Nat) (q : Nat → Nat) (a0 : Int32) (st : MS) (st0 : MS) (hm : m_must a0 st = some st0) (sz : Nat) : Met l y15_9 (Cond.code y15_9 prog_15_method_9_code 2 none :: TB) (rmD 1 0 0) (va_Pc [.ref (q 0), .int a0] (pcW G Zd (wMs q G.2 st) sz)) (qV G (fun (_ : Unit) => True) (fun _ => (wMs q G.2 st0)) (va_A (wMs q G.2 st) sz)) 0 0 (va_A (wMs q G.2 st) sz) := by
  refine go (y := y15_9) (cc := prog_15_method_9_code) (maxL := 2) (ret := none) (av := [.ref (q 0), .int a0]) (Qc := qV G (fun (_ : Unit) => True) (fun _ => (wMs q G.2 st0))) "PagedValuesModel" rfl (by decide) (Nat.le_of_ble_eq_true rfl) ?_
  intro p e s m below meth c ls A hx hb hr hlk hml hown hts hin hl hP hD hK hS hA hZ
  have hl : lv_has ls 2 [(0, .ref (q 0)), (1, .int a0)] := hl
  have h := hm
  clear hm
  refine lv_aload_n hx hb d15_9_0 rfl (lv_at hl 0 rfl) ?_
  refine va_get (D := G.1) (ci := 13) (v := .int (st.1 2)) (C := r_13) (T := f_13) (N := 42) (ref := "PagedValuesModel") hx hb hts (fun w h => List.mem_cons_of_mem _ (ly_13 w h)) hown hK hP 0 rfl rfl 3 (by decide) (hts _ (List.mem_cons_of_mem _ k1154)) (fun _ h9 => h9) rfl d15_9_1 ?_
  obtain ⟨e2, hX, h⟩ := ob h
  have hj : ∀ (H : Heap) (locs : List Loc) (ls : Array Slot), lv_has ls 2 [(0, .ref (q 0)), (1, .int a0)] → va_P G.1 vwCl (wMs q G.2 e2) H → va_D A (wMs q G.2 e2) → va_S A s.heap H locs → W p l e (rmD 1 0 0) s m ([.ref (q 0), .int a0] : List Value).toArray below meth c H locs 0 0 (MQ below (qV G (fun (_ : Unit) => True) (fun _ => (wMs q G.2 st0)) A) ([.ref (q 0), .int a0] : List Value).toArray s 0 0 A) (F0 m 32 ls []) := by
    intro H locs ls hl hP hD hS
    cases h
    exact fin_v hx hb hr hlk hS () trivial hP hD (Nat.le_of_ble_eq_true rfl) (Nat.le_of_ble_eq_true rfl) d15_9_32
  clear h
  refine lv_if_ge (tgt := 28) hx hb d15_9_4 rfl (fun c1 => ?_) (fun c1 => ?_)
  ·
    replace h := (if_pos c1).symm.trans hX
    refine lv_aload_n hx hb d15_9_28 rfl (lv_at hl 0 rfl) ?_
    obtain ⟨st5, hc, h⟩ := ob h
    refine sV_v (As := []) (rest := []) ⟨hx, hb, hml, hown, hts⟩ (cm_fault l G Zd q st st5 hc _) (kw_V (n := 0) hts k1320 k1317 k15 k1319 ks40 (by decide +kernel) ⟨Nat.le_of_ble_eq_true rfl, Nat.le_of_ble_eq_true rfl⟩) hP hD hK hS hA hZ (va_recv (ci := 13) (q0 := 0) hK hP rfl rfl) rfl hl.1 rfl (Nat.le_of_ble_eq_true rfl) d15_9_29 ⟨Nat.le_of_ble_eq_true rfl, Nat.le_of_ble_eq_true rfl⟩ (fun u9 H locs hp hP hD hS => ?_)
    clear u9
    clear hp
    clear hc
    refine W.eq (g2 := F0 m 32 ls []) rfl ?_
    have hP : va_P G.1 vwCl (wMs q G.2 st5) H := hP
    have hD : va_D A (wMs q G.2 st5) := hD
    have e9 := Option.some.inj h
    subst e2
    have hl := lv_sub hl (l' := [(0, .ref (q 0)), (1, .int a0)]) [0, 1] rfl
    exact hj _ _ _ hl hP hD hS
  ·
    replace h := (if_neg c1).symm.trans hX
    refine lv_aload_n hx hb d15_9_7 rfl (lv_at hl 0 rfl) ?_
    obtain ⟨x7, hc, h⟩ := ob h
    refine sV_i (As := []) (rest := []) ⟨hx, hb, hml, hown, hts⟩ (cm_here l G Zd q st x7 hc _) (kw_V (n := 0) hts k1305 k1302 k15 k1304 ks37 (by decide +kernel) ⟨Nat.le_of_ble_eq_true rfl, Nat.le_of_ble_eq_true rfl⟩) hP hD hK hS hA hZ (va_recv (ci := 13) (q0 := 0) hK hP rfl rfl) rfl hl.1 rfl (Nat.le_of_ble_eq_true rfl) d15_9_8 ⟨Nat.le_of_ble_eq_true rfl, Nat.le_of_ble_eq_true rfl⟩ (fun rr u9 H locs hp hP hD hS => ?_)
    clear u9
    subst rr
    clear hc
    refine W.eq (g2 := F0 m 11 ls [.int x7]) rfl ?_
    have hP : va_P G.1 vwCl (wMs q G.2 st) H := hP
    have hD : va_D A (wMs q G.2 st) := hD
    refine lv_iload_n hx hb d15_9_11 rfl (lv_at hl 1 rfl) ?_
    refine lv_icmp_ne (tgt := 28) hx hb d15_9_12 rfl (fun c10 => ?_) (fun c10 => ?_)
    ·
      replace h := (if_neg c10).symm.trans h
      refine lv_aload_n hx hb d15_9_28 rfl (lv_at hl 0 rfl) ?_
      obtain ⟨st12, hc, h⟩ := ob h
      refine sV_v (As := []) (rest := []) ⟨hx, hb, hml, hown, hts⟩ (cm_fault l G Zd q st st12 hc _) (kw_V (n := 0) hts k1320 k1317 k15 k1319 ks40 (by decide +kernel) ⟨Nat.le_of_ble_eq_true rfl, Nat.le_of_ble_eq_true rfl⟩) hP hD hK hS hA hZ (va_recv (ci := 13) (q0 := 0) hK hP rfl rfl) rfl hl.1 rfl (Nat.le_of_ble_eq_true rfl) d15_9_29 ⟨Nat.le_of_ble_eq_true rfl, Nat.le_of_ble_eq_true rfl⟩ (fun u9 H locs hp hP hD hS => ?_)
      clear u9
      clear hp
      clear hc
      refine W.eq (g2 := F0 m 32 ls []) rfl ?_
      have hP : va_P G.1 vwCl (wMs q G.2 st12) H := hP
      have hD : va_D A (wMs q G.2 st12) := hD
      have e9 := Option.some.inj h
      subst e2
      have hl := lv_sub hl (l' := [(0, .ref (q 0)), (1, .int a0)]) [0, 1] rfl
      exact hj _ _ _ hl hP hD hS
    ·
      replace h := (if_pos c10).symm.trans h
      refine lv_aload_n hx hb d15_9_15 rfl (lv_at hl 0 rfl) ?_
      refine lv_dup hx hb d15_9_16 rfl ?_
      refine va_get (D := G.1) (ci := 13) (v := .int (st.1 1)) (C := r_13) (T := f_13) (N := 42) (ref := "PagedValuesModel") hx hb hts (fun w h => List.mem_cons_of_mem _ (ly_13 w h)) hown hK hP 0 rfl rfl 2 (by decide) (hts _ (List.mem_cons_of_mem _ k1153)) (fun _ h9 => h9) rfl d15_9_17 ?_
      refine lv_iconst (v := 1) hx hb d15_9_20 (by decide) ?_
      refine lv_iadd hx hb d15_9_21 ?_
      obtain ⟨y14, hr, h⟩ := ob h
      refine lv_topi (fun y9 ey => ?_)
      have e9 := ey.trans (Option.some.inj hr)
      clear ey
      subst y9
      clear hr
      refine va_put (D := G.1) (ci := 13) (v := .int y14) (ty := .int) (C := r_13) (T := f_13) (N := 42) (ref := "PagedValuesModel") hx hb hts (fun w h => List.mem_cons_of_mem _ (ly_13 w h)) ft_13 ft_13_ok nm_13 hown hK hP hD hS 0 rfl rfl 2 (by decide) (hts _ (List.mem_cons_of_mem _ k1153)) (fun _ h9 => h9) rfl (by decide +kernel) rfl rfl (Nat.le_of_ble_eq_true rfl) d15_9_22 (fun H locs hP hD hS => ?_)
      have hP : va_P G.1 vwCl (wMs q G.2 (upd st.1 1 y14, st.2.1, st.2.2.1, st.2.2.2)) H := hP
      have hD : va_D A (wMs q G.2 (upd st.1 1 y14, st.2.1, st.2.2.1, st.2.2.2)) := hD
      refine lv_goto (tgt := 32) hx hb d15_9_25 rfl ?_
      have e9 := Option.some.inj h
      subst e2
      have hl := lv_sub hl (l' := [(0, .ref (q 0)), (1, .int a0)]) [0, 1] rfl
      exact hj _ _ _ hl hP hD hS
def m_four (a0 : Int32) (a1 : Int32) (a2 : Int32) (a3 : Int32) (st : MS) : Option (MS) := (m_must a0 st).bind fun st2 => (m_must a1 st2).bind fun st5 => (m_must a2 st5).bind fun st8 => (m_must a3 st8).bind fun st11 => some st11
set_option maxHeartbeats 4000000 in
set_option maxRecDepth 100000 in
theorem cm_four (l : Launch) (G : Gk) (Zd : Nat → Nat) (q : Nat → Nat) (a0 : Int32) (a1 : Int32) (a2 : Int32) (a3 : Int32) (st : MS) (st0 : MS) (hm : m_four a0 a1 a2 a3 st = some st0) (sz : Nat) : Met l y15_17 (Cond.code y15_17 prog_15_method_17_code 5 none :: TB) (rmD 2 0 0) (va_Pc [.ref (q 0), .int a0, .int a1, .int a2, .int a3] (pcW G Zd (wMs q G.2 st) sz)) (qV G (fun (_ : Unit) => True) (fun _ => (wMs q G.2 st0)) (va_A (wMs q G.2 st) sz)) 0 0 (va_A (wMs q G.2 st) sz) := by
  refine go (y := y15_17) (cc := prog_15_method_17_code) (maxL := 5) (ret := none) (av := [.ref (q 0), .int a0, .int a1, .int a2, .int a3]) (Qc := qV G (fun (_ : Unit) => True) (fun _ => (wMs q G.2 st0))) "PagedValuesModel" rfl (by decide) (Nat.le_of_ble_eq_true rfl) ?_
  intro p e s m below meth c ls A hx hb hr hlk hml hown hts hin hl hP hD hK hS hA hZ
  have hl : lv_has ls 5 [(0, .ref (q 0)), (1, .int a0), (2, .int a1), (3, .int a2), (4, .int a3)] := hl
  have h := hm
  clear hm
  refine lv_aload_n hx hb d15_17_0 rfl (lv_at hl 0 rfl) ?_
  refine lv_iload_n hx hb d15_17_1 rfl (lv_at hl 1 rfl) ?_
  obtain ⟨st2, hc, h⟩ := ob h
  refine sV_v (As := [.int a0]) (rest := []) ⟨hx, hb, hml, hown, hts⟩ (cm_must l G Zd q a0 st st2 hc _) (kw_V (n := 1) hts k1336 k1333 k15 k1335 ks44 (by decide +kernel) ⟨Nat.le_of_ble_eq_true rfl, Nat.le_of_ble_eq_true rfl⟩) hP hD hK hS hA hZ (va_recv (ci := 13) (q0 := 0) hK hP rfl rfl) rfl hl.1 rfl (Nat.le_of_ble_eq_true rfl) d15_17_2 ⟨Nat.le_of_ble_eq_true rfl, Nat.le_of_ble_eq_true rfl⟩ (fun u9 H locs hp hP hD hS => ?_)
  clear u9
  clear hp
  clear hc
  refine W.eq (g2 := F0 m 5 ls []) rfl ?_
  have hP : va_P G.1 vwCl (wMs q G.2 st2) H := hP
  have hD : va_D A (wMs q G.2 st2) := hD
  refine lv_aload_n hx hb d15_17_5 rfl (lv_at hl 0 rfl) ?_
  refine lv_iload_n hx hb d15_17_6 rfl (lv_at hl 2 rfl) ?_
  obtain ⟨st5, hc, h⟩ := ob h
  refine sV_v (As := [.int a1]) (rest := []) ⟨hx, hb, hml, hown, hts⟩ (cm_must l G Zd q a1 st2 st5 hc _) (kw_V (n := 1) hts k1336 k1333 k15 k1335 ks44 (by decide +kernel) ⟨Nat.le_of_ble_eq_true rfl, Nat.le_of_ble_eq_true rfl⟩) hP hD hK hS hA hZ (va_recv (ci := 13) (q0 := 0) hK hP rfl rfl) rfl hl.1 rfl (Nat.le_of_ble_eq_true rfl) d15_17_7 ⟨Nat.le_of_ble_eq_true rfl, Nat.le_of_ble_eq_true rfl⟩ (fun u9 H locs hp hP hD hS => ?_)
  clear u9
  clear hp
  clear hc
  refine W.eq (g2 := F0 m 10 ls []) rfl ?_
  have hP : va_P G.1 vwCl (wMs q G.2 st5) H := hP
  have hD : va_D A (wMs q G.2 st5) := hD
  refine lv_aload_n hx hb d15_17_10 rfl (lv_at hl 0 rfl) ?_
  refine lv_iload_n hx hb d15_17_11 rfl (lv_at hl 3 rfl) ?_
  obtain ⟨st8, hc, h⟩ := ob h
  refine sV_v (As := [.int a2]) (rest := []) ⟨hx, hb, hml, hown, hts⟩ (cm_must l G Zd q a2 st5 st8 hc _) (kw_V (n := 1) hts k1336 k1333 k15 k1335 ks44 (by decide +kernel) ⟨Nat.le_of_ble_eq_true rfl, Nat.le_of_ble_eq_true rfl⟩) hP hD hK hS hA hZ (va_recv (ci := 13) (q0 := 0) hK hP rfl rfl) rfl hl.1 rfl (Nat.le_of_ble_eq_true rfl) d15_17_12 ⟨Nat.le_of_ble_eq_true rfl, Nat.le_of_ble_eq_true rfl⟩ (fun u9 H locs hp hP hD hS => ?_)
  clear u9
  clear hp
  clear hc
  refine W.eq (g2 := F0 m 15 ls []) rfl ?_
  have hP : va_P G.1 vwCl (wMs q G.2 st8) H := hP
  have hD : va_D A (wMs q G.2 st8) := hD
  refine lv_aload_n hx hb d15_17_15 rfl (lv_at hl 0 rfl) ?_
  refine lv_iload hx hb d15_17_16 (lv_at hl 4 rfl) ?_
  obtain ⟨st11, hc, h⟩ := ob h
  refine sV_v (As := [.int a3]) (rest := []) ⟨hx, hb, hml, hown, hts⟩ (cm_must l G Zd q a3 st8 st11 hc _) (kw_V (n := 1) hts k1336 k1333 k15 k1335 ks44 (by decide +kernel) ⟨Nat.le_of_ble_eq_true rfl, Nat.le_of_ble_eq_true rfl⟩) hP hD hK hS hA hZ (va_recv (ci := 13) (q0 := 0) hK hP rfl rfl) rfl hl.1 rfl (Nat.le_of_ble_eq_true rfl) d15_17_18 ⟨Nat.le_of_ble_eq_true rfl, Nat.le_of_ble_eq_true rfl⟩ (fun u9 H locs hp hP hD hS => ?_)
  clear u9
  clear hp
  clear hc
  refine W.eq (g2 := F0 m 21 ls []) rfl ?_
  have hP : va_P G.1 vwCl (wMs q G.2 st11) H := hP
  have hD : va_D A (wMs q G.2 st11) := hD
  cases h
  exact fin_v hx hb hr hlk hS () trivial hP hD (Nat.le_of_ble_eq_true rfl) (Nat.le_of_ble_eq_true rfl) d15_17_21
def m_constant (a0 : Int32) (st : MS) : Option (Int32 × MS) := if a0 = (110 : Int32) then ((m_four (110 : Int32) (117 : Int32) (108 : Int32) (108 : Int32) st).bind fun st13 => some ((0 : Int32), st13)) else (if a0 = (116 : Int32) then ((m_four (116 : Int32) (114 : Int32) (117 : Int32) (101 : Int32) st).bind fun st10 => some ((1 : Int32), st10)) else ((m_must (102 : Int32) st).bind fun st4 => (m_four (97 : Int32) (108 : Int32) (115 : Int32) (101 : Int32) st4).bind fun st7 => some ((2 : Int32), st7)))
set_option maxHeartbeats 4000000 in
set_option maxRecDepth 100000 in
theorem cm_constant (l : Launch) (G : Gk) (Zd : Nat → Nat) (q : Nat → Nat) (a0 : Int32) (st : MS) (r0 : Int32) (st0 : MS) (hm : m_constant a0 st = some (r0, st0)) (sz : Nat) : Met l y15_19 (Cond.code y15_19 prog_15_method_19_code 2 (some .int) :: TB) (rmD 3 0 0) (va_Pc [.ref (q 0), .int a0] (pcW G Zd (wMs q G.2 st) sz)) (qI G (fun rr (_ : Unit) => rr = r0) (fun _ => (wMs q G.2 st0)) (va_A (wMs q G.2 st) sz)) 0 0 (va_A (wMs q G.2 st) sz) := by
  refine go (y := y15_19) (cc := prog_15_method_19_code) (maxL := 2) (ret := (some .int)) (av := [.ref (q 0), .int a0]) (Qc := qI G (fun rr (_ : Unit) => rr = r0) (fun _ => (wMs q G.2 st0))) "PagedValuesModel" rfl (by decide) (Nat.le_of_ble_eq_true rfl) ?_
  intro p e s m below meth c ls A hx hb hr hlk hml hown hts hin hl hP hD hK hS hA hZ
  have hl : lv_has ls 2 [(0, .ref (q 0)), (1, .int a0)] := hl
  have h := hm
  clear hm
  refine lv_iload_n hx hb d15_19_0 rfl (lv_at hl 1 rfl) ?_
  refine lv_bipush (v := 110) hx hb d15_19_1 (by decide) ?_
  refine lv_icmp_ne (tgt := 20) hx hb d15_19_3 rfl (fun c1 => ?_) (fun c1 => ?_)
  ·
    replace h := (if_neg c1).symm.trans h
    refine lv_iload_n hx hb d15_19_20 rfl (lv_at hl 1 rfl) ?_
    refine lv_bipush (v := 116) hx hb d15_19_21 (by decide) ?_
    refine lv_icmp_ne (tgt := 40) hx hb d15_19_23 rfl (fun c2 => ?_) (fun c2 => ?_)
    ·
      replace h := (if_neg c2).symm.trans h
      refine lv_aload_n hx hb d15_19_40 rfl (lv_at hl 0 rfl) ?_
      refine lv_bipush (v := 102) hx hb d15_19_41 (by decide) ?_
      obtain ⟨st4, hc, h⟩ := ob h
      refine sV_v (As := [.int 102]) (rest := []) ⟨hx, hb, hml, hown, hts⟩ (cm_must l G Zd q (102 : Int32) st st4 hc _) (kw_V (n := 1) hts k1336 k1333 k15 k1335 ks44 (by decide +kernel) ⟨Nat.le_of_ble_eq_true rfl, Nat.le_of_ble_eq_true rfl⟩) hP hD hK hS hA hZ (va_recv (ci := 13) (q0 := 0) hK hP rfl rfl) rfl hl.1 rfl (Nat.le_of_ble_eq_true rfl) d15_19_43 ⟨Nat.le_of_ble_eq_true rfl, Nat.le_of_ble_eq_true rfl⟩ (fun u9 H locs hp hP hD hS => ?_)
      clear u9
      clear hp
      clear hc
      refine W.eq (g2 := F0 m 46 ls []) rfl ?_
      have hP : va_P G.1 vwCl (wMs q G.2 st4) H := hP
      have hD : va_D A (wMs q G.2 st4) := hD
      refine lv_aload_n hx hb d15_19_46 rfl (lv_at hl 0 rfl) ?_
      refine lv_bipush (v := 97) hx hb d15_19_47 (by decide) ?_
      refine lv_bipush (v := 108) hx hb d15_19_49 (by decide) ?_
      refine lv_bipush (v := 115) hx hb d15_19_51 (by decide) ?_
      refine lv_bipush (v := 101) hx hb d15_19_53 (by decide) ?_
      obtain ⟨st7, hc, h⟩ := ob h
      refine sV_v (As := [.int 97, .int 108, .int 115, .int 101]) (rest := []) ⟨hx, hb, hml, hown, hts⟩ (cm_four l G Zd q (97 : Int32) (108 : Int32) (115 : Int32) (101 : Int32) st4 st7 hc _) (kw_V (n := 4) hts k1368 k1365 k15 k1367 ks50 (by decide +kernel) ⟨Nat.le_of_ble_eq_true rfl, Nat.le_of_ble_eq_true rfl⟩) hP hD hK hS hA hZ (va_recv (ci := 13) (q0 := 0) hK hP rfl rfl) rfl hl.1 rfl (Nat.le_of_ble_eq_true rfl) d15_19_55 ⟨Nat.le_of_ble_eq_true rfl, Nat.le_of_ble_eq_true rfl⟩ (fun u9 H locs hp hP hD hS => ?_)
      clear u9
      clear hp
      clear hc
      refine W.eq (g2 := F0 m 58 ls []) rfl ?_
      have hP : va_P G.1 vwCl (wMs q G.2 st7) H := hP
      have hD : va_D A (wMs q G.2 st7) := hD
      refine lv_iconst (v := 2) hx hb d15_19_58 (by decide) ?_
      cases h
      exact fin_i hx hb hr hlk hS () rfl hP hD (Nat.le_of_ble_eq_true rfl) (Nat.le_of_ble_eq_true rfl) d15_19_59
    ·
      replace h := (if_pos c2).symm.trans h
      refine lv_aload_n hx hb d15_19_26 rfl (lv_at hl 0 rfl) ?_
      refine lv_bipush (v := 116) hx hb d15_19_27 (by decide) ?_
      refine lv_bipush (v := 114) hx hb d15_19_29 (by decide) ?_
      refine lv_bipush (v := 117) hx hb d15_19_31 (by decide) ?_
      refine lv_bipush (v := 101) hx hb d15_19_33 (by decide) ?_
      obtain ⟨st10, hc, h⟩ := ob h
      refine sV_v (As := [.int 116, .int 114, .int 117, .int 101]) (rest := []) ⟨hx, hb, hml, hown, hts⟩ (cm_four l G Zd q (116 : Int32) (114 : Int32) (117 : Int32) (101 : Int32) st st10 hc _) (kw_V (n := 4) hts k1368 k1365 k15 k1367 ks50 (by decide +kernel) ⟨Nat.le_of_ble_eq_true rfl, Nat.le_of_ble_eq_true rfl⟩) hP hD hK hS hA hZ (va_recv (ci := 13) (q0 := 0) hK hP rfl rfl) rfl hl.1 rfl (Nat.le_of_ble_eq_true rfl) d15_19_35 ⟨Nat.le_of_ble_eq_true rfl, Nat.le_of_ble_eq_true rfl⟩ (fun u9 H locs hp hP hD hS => ?_)
      clear u9
      clear hp
      clear hc
      refine W.eq (g2 := F0 m 38 ls []) rfl ?_
      have hP : va_P G.1 vwCl (wMs q G.2 st10) H := hP
      have hD : va_D A (wMs q G.2 st10) := hD
      refine lv_iconst (v := 1) hx hb d15_19_38 (by decide) ?_
      cases h
      exact fin_i hx hb hr hlk hS () rfl hP hD (Nat.le_of_ble_eq_true rfl) (Nat.le_of_ble_eq_true rfl) d15_19_39
  ·
    replace h := (if_pos c1).symm.trans h
    refine lv_aload_n hx hb d15_19_6 rfl (lv_at hl 0 rfl) ?_
    refine lv_bipush (v := 110) hx hb d15_19_7 (by decide) ?_
    refine lv_bipush (v := 117) hx hb d15_19_9 (by decide) ?_
    refine lv_bipush (v := 108) hx hb d15_19_11 (by decide) ?_
    refine lv_bipush (v := 108) hx hb d15_19_13 (by decide) ?_
    obtain ⟨st13, hc, h⟩ := ob h
    refine sV_v (As := [.int 110, .int 117, .int 108, .int 108]) (rest := []) ⟨hx, hb, hml, hown, hts⟩ (cm_four l G Zd q (110 : Int32) (117 : Int32) (108 : Int32) (108 : Int32) st st13 hc _) (kw_V (n := 4) hts k1368 k1365 k15 k1367 ks50 (by decide +kernel) ⟨Nat.le_of_ble_eq_true rfl, Nat.le_of_ble_eq_true rfl⟩) hP hD hK hS hA hZ (va_recv (ci := 13) (q0 := 0) hK hP rfl rfl) rfl hl.1 rfl (Nat.le_of_ble_eq_true rfl) d15_19_15 ⟨Nat.le_of_ble_eq_true rfl, Nat.le_of_ble_eq_true rfl⟩ (fun u9 H locs hp hP hD hS => ?_)
    clear u9
    clear hp
    clear hc
    refine W.eq (g2 := F0 m 18 ls []) rfl ?_
    have hP : va_P G.1 vwCl (wMs q G.2 st13) H := hP
    have hD : va_D A (wMs q G.2 st13) := hD
    refine lv_iconst (v := 0) hx hb d15_19_18 (by decide) ?_
    cases h
    exact fin_i hx hb hr hlk hS () rfl hP hD (Nat.le_of_ble_eq_true rfl) (Nat.le_of_ble_eq_true rfl) d15_19_19
def m_lengthOf (a0 : Int64) : Option (Int32) := (some (a0 >>> ((56 : Int32).toInt64 &&& 63))).bind fun y1 => (some y1.toInt32).bind fun y2 => some y2
set_option maxHeartbeats 4000000 in
set_option maxRecDepth 100000 in
theorem cm_lengthOf (l : Launch) (G : Gk) (Zd : Nat → Nat) (w0 : va_W) (a0 : Int64) (r0 : Int32) (hm : m_lengthOf a0 = some r0) (sz : Nat) : Met l y15_3 (Cond.code y15_3 prog_15_method_3_code 2 (some .int) :: TB) (rmD 0 0 0) (va_Pc [.long a0] (pcW G Zd w0 sz)) (qI G (fun rr (_ : Unit) => rr = r0) (fun _ => w0) (va_A w0 sz)) 0 0 (va_A w0 sz) := by
  refine go (y := y15_3) (cc := prog_15_method_3_code) (maxL := 2) (ret := (some .int)) (av := [.long a0]) (Qc := qI G (fun rr (_ : Unit) => rr = r0) (fun _ => w0)) "PagedValuesModel" rfl (by decide) (Nat.le_of_ble_eq_true rfl) ?_
  intro p e s m below meth c ls A hx hb hr hlk hml hown hts hin hl hP hD hK hS hA hZ
  have hl : lv_has ls 2 [(0, .long a0)] := hl
  have h := hm
  clear hm
  refine lv_lload_n hx hb d15_3_0 rfl (lv_at hl 0 rfl) ?_
  refine lv_bipush (v := 56) hx hb d15_3_1 (by decide) ?_
  refine lv_lshr hx hb d15_3_3 rfl ?_
  obtain ⟨y1, hr, h⟩ := ob h
  refine lv_topl (fun y9 ey => ?_)
  have e9 := ey.trans (Option.some.inj hr)
  clear ey
  subst y9
  clear hr
  refine lv_l2i hx hb d15_3_4 rfl ?_
  obtain ⟨y2, hr, h⟩ := ob h
  refine lv_topi (fun y9 ey => ?_)
  have e9 := ey.trans (Option.some.inj hr)
  clear ey
  subst y9
  clear hr
  cases h
  exact fin_i hx hb hr hlk hS () rfl hP hD (Nat.le_of_ble_eq_true rfl) (Nat.le_of_ble_eq_true rfl) d15_3_5
def m_add (a0 : Int32) (st : MS) : Option (MS) := (m_lengthOf (st.2.1 0)).bind fun x1 => (if (7 : Int32) ≤ x1 then (some (st.2.1 0)) else ((some a0.toInt64).bind fun y16 => (some (8 * x1)).bind fun y17 => (some (y16 <<< (y17.toInt64 &&& 63))).bind fun y18 => (some ((st.2.1 0) ||| y18)).bind fun y19 => some y19)).bind fun e5 => (if (7 : Int32) ≤ x1 then ((some a0.toInt64).bind fun y11 => (some (x1 - 7)).bind fun y12 => (some (8 * y12)).bind fun y13 => (some (y11 <<< (y13.toInt64 &&& 63))).bind fun y14 => (some ((st.2.1 1) ||| y14)).bind fun y15 => some y15) else (some (st.2.1 1))).bind fun e8 => (some (e5 + 72057594037927936)).bind fun y10 => some (st.1, vp_updL (vp_updL st.2.1 1 e8) 0 y10, st.2.2.1, st.2.2.2)
set_option maxHeartbeats 4000000 in
set_option maxRecDepth 100000 in
theorem cm_add (l : Launch) (G : Gk) (Zd : Nat → Nat) (q : Nat → Nat) (a0 : Int32) (st : MS) (st0 : MS) (hm : m_add a0 st = some st0) (sz : Nat) : Met l y15_5 (Cond.code y15_5 prog_15_method_5_code 5 none :: TB) (rmD 1 0 0) (va_Pc [.ref (q 0), .int a0] (pcW G Zd (wMs q G.2 st) sz)) (qV G (fun (_ : Unit) => True) (fun _ => (wMs q G.2 st0)) (va_A (wMs q G.2 st) sz)) 0 0 (va_A (wMs q G.2 st) sz) := by
  refine go (y := y15_5) (cc := prog_15_method_5_code) (maxL := 5) (ret := none) (av := [.ref (q 0), .int a0]) (Qc := qV G (fun (_ : Unit) => True) (fun _ => (wMs q G.2 st0))) "PagedValuesModel" rfl (by decide) (Nat.le_of_ble_eq_true rfl) ?_
  intro p e s m below meth c ls A hx hb hr hlk hml hown hts hin hl hP hD hK hS hA hZ
  have hl : lv_has ls 5 [(0, .ref (q 0)), (1, .int a0)] := hl
  have h := hm
  clear hm
  refine lv_aload_n hx hb d15_5_0 rfl (lv_at hl 0 rfl) ?_
  refine va_get (D := G.1) (ci := 13) (v := .long (st.2.1 0)) (C := r_13) (T := f_13) (N := 42) (ref := "PagedValuesModel") hx hb hts (fun w h => List.mem_cons_of_mem _ (ly_13 w h)) hown hK hP 0 rfl rfl 11 (by decide) (hts _ (List.mem_cons_of_mem _ k1162)) (fun _ h9 => h9) rfl d15_5_1 ?_
  obtain ⟨x1, hc, h⟩ := ob h
  refine sS_i (As := [.long (st.2.1 0)]) (rest := []) ⟨hx, hb, hml, hown, hts⟩ (cm_lengthOf l G Zd _ (st.2.1 0) x1 hc _) (kw_S (n := 1) hts k1343 k1341 k15 k1342 (by decide +kernel) ⟨Nat.le_of_ble_eq_true rfl, Nat.le_of_ble_eq_true rfl⟩) hP hD hK hS hA hZ rfl hl.1 rfl (Nat.le_of_ble_eq_true rfl) d15_5_4 ⟨Nat.le_of_ble_eq_true rfl, Nat.le_of_ble_eq_true rfl⟩ (fun rr u9 H locs hp hP hD hS => ?_)
  clear u9
  subst rr
  clear hc
  refine W.eq (g2 := F0 m 7 ls [.int x1]) rfl ?_
  have hP : va_P G.1 vwCl (wMs q G.2 st) H := hP
  have hD : va_D A (wMs q G.2 st) := hD
  refine lv_istore_n (lv' := [(2, .int x1), (0, .ref (q 0)), (1, .int a0)]) hx hb d15_5_7 rfl hl (by decide) rfl (fun ls hl => ?_)
  refine lv_iload_n hx hb d15_5_8 rfl (lv_at hl 0 rfl) ?_
  refine lv_bipush (v := 7) hx hb d15_5_9 (by decide) ?_
  obtain ⟨e5, hX, h⟩ := ob h
  have hj : ∀ (H : Heap) (locs : List Loc) (ls : Array Slot), lv_has ls 5 [(0, .ref (q 0)), (1, .int a0), (2, .int x1)] → va_P G.1 vwCl (wMs q G.2 st) H → va_D A (wMs q G.2 st) → va_S A s.heap H locs → W p l e (rmD 1 0 0) s m ([.ref (q 0), .int a0] : List Value).toArray below meth c H locs 0 0 (MQ below (qV G (fun (_ : Unit) => True) (fun _ => (wMs q G.2 st0)) A) ([.ref (q 0), .int a0] : List Value).toArray s 0 0 A) (F0 m 33 ls [.long e5]) := by
    intro H locs ls hl hP hD hS
    refine lv_lstore_n (lv' := [(3, .long e5), (0, .ref (q 0)), (1, .int a0), (2, .int x1)]) hx hb d15_5_33 rfl hl (by decide) rfl (fun ls hl => ?_)
    refine lv_aload_n hx hb d15_5_34 rfl (lv_at hl 1 rfl) ?_
    refine lv_iload_n hx hb d15_5_35 rfl (lv_at hl 3 rfl) ?_
    refine lv_bipush (v := 7) hx hb d15_5_36 (by decide) ?_
    obtain ⟨e8, hX, h⟩ := ob h
    have hj : ∀ (H : Heap) (locs : List Loc) (ls : Array Slot), lv_has ls 5 [(0, .ref (q 0)), (1, .int a0), (2, .int x1), (3, .long e5)] → va_P G.1 vwCl (wMs q G.2 st) H → va_D A (wMs q G.2 st) → va_S A s.heap H locs → W p l e (rmD 1 0 0) s m ([.ref (q 0), .int a0] : List Value).toArray below meth c H locs 0 0 (MQ below (qV G (fun (_ : Unit) => True) (fun _ => (wMs q G.2 st0)) A) ([.ref (q 0), .int a0] : List Value).toArray s 0 0 A) (F0 m 63 ls [.long e8, .ref (q 0)]) := by
      intro H locs ls hl hP hD hS
      refine va_put (D := G.1) (ci := 13) (v := .long e8) (ty := .long) (C := r_13) (T := f_13) (N := 42) (ref := "PagedValuesModel") hx hb hts (fun w h => List.mem_cons_of_mem _ (ly_13 w h)) ft_13 ft_13_ok nm_13 hown hK hP hD hS 0 rfl rfl 12 (by decide) (hts _ (List.mem_cons_of_mem _ k1163)) (fun _ h9 => h9) rfl (by decide +kernel) rfl rfl (Nat.le_of_ble_eq_true rfl) d15_5_63 (fun H locs hP hD hS => ?_)
      have hP : va_P G.1 vwCl (wMs q G.2 (st.1, vp_updL st.2.1 1 e8, st.2.2.1, st.2.2.2)) H := hP
      have hD : va_D A (wMs q G.2 (st.1, vp_updL st.2.1 1 e8, st.2.2.1, st.2.2.2)) := hD
      refine lv_aload_n hx hb d15_5_66 rfl (lv_at hl 0 rfl) ?_
      refine lv_lload_n hx hb d15_5_67 rfl (lv_at hl 3 rfl) ?_
      refine lv_ldc2 (v := 72057594037927936) hx hb hown (hts _ (List.mem_cons_of_mem _ k1348)) d15_5_68 ?_
      refine lv_ladd hx hb d15_5_71 ?_
      obtain ⟨y10, hr, h⟩ := ob h
      refine lv_topl (fun y9 ey => ?_)
      have e9 := ey.trans (Option.some.inj hr)
      clear ey
      subst y9
      clear hr
      refine va_put (D := G.1) (ci := 13) (v := .long y10) (ty := .long) (C := r_13) (T := f_13) (N := 42) (ref := "PagedValuesModel") hx hb hts (fun w h => List.mem_cons_of_mem _ (ly_13 w h)) ft_13 ft_13_ok nm_13 hown hK hP hD hS 0 rfl rfl 11 (by decide) (hts _ (List.mem_cons_of_mem _ k1162)) (fun _ h9 => h9) rfl (by decide +kernel) rfl rfl (Nat.le_of_ble_eq_true rfl) d15_5_72 (fun H locs hP hD hS => ?_)
      have hP : va_P G.1 vwCl (wMs q G.2 (st.1, vp_updL (vp_updL st.2.1 1 e8) 0 y10, st.2.2.1, st.2.2.2)) H := hP
      have hD : va_D A (wMs q G.2 (st.1, vp_updL (vp_updL st.2.1 1 e8) 0 y10, st.2.2.1, st.2.2.2)) := hD
      cases h
      exact fin_v hx hb hr hlk hS () trivial hP hD (Nat.le_of_ble_eq_true rfl) (Nat.le_of_ble_eq_true rfl) d15_5_75
    clear h
    refine lv_icmp_ge (tgt := 48) hx hb d15_5_38 rfl (fun c7 => ?_) (fun c7 => ?_)
    ·
      replace h := (if_pos c7).symm.trans hX
      refine lv_aload_n hx hb d15_5_48 rfl (lv_at hl 1 rfl) ?_
      refine va_get (D := G.1) (ci := 13) (v := .long (st.2.1 1)) (C := r_13) (T := f_13) (N := 42) (ref := "PagedValuesModel") hx hb hts (fun w h => List.mem_cons_of_mem _ (ly_13 w h)) hown hK hP 0 rfl rfl 12 (by decide) (hts _ (List.mem_cons_of_mem _ k1163)) (fun _ h9 => h9) rfl d15_5_49 ?_
      refine lv_iload_n hx hb d15_5_52 rfl (lv_at hl 2 rfl) ?_
      refine lv_i2l hx hb d15_5_53 rfl ?_
      obtain ⟨y11, hr, h⟩ := ob h
      refine lv_topl (fun y9 ey => ?_)
      have e9 := ey.trans (Option.some.inj hr)
      clear ey
      subst y9
      clear hr
      refine lv_bipush (v := 8) hx hb d15_5_54 (by decide) ?_
      refine lv_iload_n hx hb d15_5_56 rfl (lv_at hl 3 rfl) ?_
      refine lv_bipush (v := 7) hx hb d15_5_57 (by decide) ?_
      refine lv_isub hx hb d15_5_59 ?_
      obtain ⟨y12, hr, h⟩ := ob h
      refine lv_topi (fun y9 ey => ?_)
      have e9 := ey.trans (Option.some.inj hr)
      clear ey
      subst y9
      clear hr
      refine lv_imul hx hb d15_5_60 ?_
      obtain ⟨y13, hr, h⟩ := ob h
      refine lv_topi (fun y9 ey => ?_)
      have e9 := ey.trans (Option.some.inj hr)
      clear ey
      subst y9
      clear hr
      refine lv_lshl hx hb d15_5_61 rfl ?_
      obtain ⟨y14, hr, h⟩ := ob h
      refine lv_topl (fun y9 ey => ?_)
      have e9 := ey.trans (Option.some.inj hr)
      clear ey
      subst y9
      clear hr
      refine lv_lor hx hb d15_5_62 ?_
      obtain ⟨y15, hr, h⟩ := ob h
      refine lv_topl (fun y9 ey => ?_)
      have e9 := ey.trans (Option.some.inj hr)
      clear ey
      subst y9
      clear hr
      have e9 := Option.some.inj h
      subst e8
      have hl := lv_sub hl (l' := [(0, .ref (q 0)), (1, .int a0), (2, .int x1), (3, .long e5)]) [1, 2, 3, 0] rfl
      exact hj _ _ _ hl hP hD hS
    ·
      replace h := (if_neg c7).symm.trans hX
      refine lv_aload_n hx hb d15_5_41 rfl (lv_at hl 1 rfl) ?_
      refine va_get (D := G.1) (ci := 13) (v := .long (st.2.1 1)) (C := r_13) (T := f_13) (N := 42) (ref := "PagedValuesModel") hx hb hts (fun w h => List.mem_cons_of_mem _ (ly_13 w h)) hown hK hP 0 rfl rfl 12 (by decide) (hts _ (List.mem_cons_of_mem _ k1163)) (fun _ h9 => h9) rfl d15_5_42 ?_
      refine lv_goto (tgt := 63) hx hb d15_5_45 rfl ?_
      have e9 := Option.some.inj h
      subst e8
      have hl := lv_sub hl (l' := [(0, .ref (q 0)), (1, .int a0), (2, .int x1), (3, .long e5)]) [1, 2, 3, 0] rfl
      exact hj _ _ _ hl hP hD hS
  clear h
  refine lv_icmp_ge (tgt := 29) hx hb d15_5_11 rfl (fun c4 => ?_) (fun c4 => ?_)
  ·
    replace h := (if_pos c4).symm.trans hX
    refine lv_aload_n hx hb d15_5_29 rfl (lv_at hl 1 rfl) ?_
    refine va_get (D := G.1) (ci := 13) (v := .long (st.2.1 0)) (C := r_13) (T := f_13) (N := 42) (ref := "PagedValuesModel") hx hb hts (fun w h => List.mem_cons_of_mem _ (ly_13 w h)) hown hK hP 0 rfl rfl 11 (by decide) (hts _ (List.mem_cons_of_mem _ k1162)) (fun _ h9 => h9) rfl d15_5_30 ?_
    have e9 := Option.some.inj h
    subst e5
    have hl := lv_sub hl (l' := [(0, .ref (q 0)), (1, .int a0), (2, .int x1)]) [1, 2, 0] rfl
    exact hj _ _ _ hl hP hD hS
  ·
    replace h := (if_neg c4).symm.trans hX
    refine lv_aload_n hx hb d15_5_14 rfl (lv_at hl 1 rfl) ?_
    refine va_get (D := G.1) (ci := 13) (v := .long (st.2.1 0)) (C := r_13) (T := f_13) (N := 42) (ref := "PagedValuesModel") hx hb hts (fun w h => List.mem_cons_of_mem _ (ly_13 w h)) hown hK hP 0 rfl rfl 11 (by decide) (hts _ (List.mem_cons_of_mem _ k1162)) (fun _ h9 => h9) rfl d15_5_15 ?_
    refine lv_iload_n hx hb d15_5_18 rfl (lv_at hl 2 rfl) ?_
    refine lv_i2l hx hb d15_5_19 rfl ?_
    obtain ⟨y16, hr, h⟩ := ob h
    refine lv_topl (fun y9 ey => ?_)
    have e9 := ey.trans (Option.some.inj hr)
    clear ey
    subst y9
    clear hr
    refine lv_bipush (v := 8) hx hb d15_5_20 (by decide) ?_
    refine lv_iload_n hx hb d15_5_22 rfl (lv_at hl 0 rfl) ?_
    refine lv_imul hx hb d15_5_23 ?_
    obtain ⟨y17, hr, h⟩ := ob h
    refine lv_topi (fun y9 ey => ?_)
    have e9 := ey.trans (Option.some.inj hr)
    clear ey
    subst y9
    clear hr
    refine lv_lshl hx hb d15_5_24 rfl ?_
    obtain ⟨y18, hr, h⟩ := ob h
    refine lv_topl (fun y9 ey => ?_)
    have e9 := ey.trans (Option.some.inj hr)
    clear ey
    subst y9
    clear hr
    refine lv_lor hx hb d15_5_25 ?_
    obtain ⟨y19, hr, h⟩ := ob h
    refine lv_topl (fun y9 ey => ?_)
    have e9 := ey.trans (Option.some.inj hr)
    clear ey
    subst y9
    clear hr
    refine lv_goto (tgt := 33) hx hb d15_5_26 rfl ?_
    have e9 := Option.some.inj h
    subst e5
    have hl := lv_sub hl (l' := [(0, .ref (q 0)), (1, .int a0), (2, .int x1)]) [1, 2, 0] rfl
    exact hj _ _ _ hl hP hD hS
def m_character (st : MS) : Option (MS) := (m_here st).bind fun x1 => (m_lengthOf (st.2.1 0)).bind fun x4 => (if x4 = (10 : Int32) then ((m_fault st).bind fun st11 => some st11) else (if x1 < (32 : Int32) then ((m_fault st).bind fun st15 => some st15) else (if x1 ≤ (255 : Int32) then (if x1 = (92 : Int32) then ((some ((st.1 1) + 1)).bind fun y19 => (m_here (upd st.1 1 y19, st.2.1, st.2.2.1, st.2.2.2)).bind fun x20 => if x20 = (34 : Int32) then ((m_here (upd st.1 1 y19, st.2.1, st.2.2.1, st.2.2.2)).bind fun x24 => (m_add x24 (upd st.1 1 y19, st.2.1, st.2.2.1, st.2.2.2)).bind fun st28 => (some ((st28.1 1) + 1)).bind fun y30 => some (upd st28.1 1 y30, st28.2.1, st28.2.2.1, st28.2.2.2)) else ((m_here (upd st.1 1 y19, st.2.1, st.2.2.1, st.2.2.2)).bind fun x31 => if x31 = (92 : Int32) then ((m_here (upd st.1 1 y19, st.2.1, st.2.2.1, st.2.2.2)).bind fun x38 => (m_add x38 (upd st.1 1 y19, st.2.1, st.2.2.1, st.2.2.2)).bind fun st42 => (some ((st42.1 1) + 1)).bind fun y44 => some (upd st42.1 1 y44, st42.2.1, st42.2.2.1, st42.2.2.2)) else ((m_fault (upd st.1 1 y19, st.2.1, st.2.2.1, st.2.2.2)).bind fun st36 => some st36))) else ((m_add x1 st).bind fun st46 => (some ((st46.1 1) + 1)).bind fun y48 => some (upd st46.1 1 y48, st46.2.1, st46.2.2.1, st46.2.2.2))) else ((m_fault st).bind fun st50 => some st50)))).bind fun e8 => some e8
set_option maxHeartbeats 4000000 in
set_option maxRecDepth 100000 in
theorem cm_character (l : Launch) (G : Gk) (Zd : Nat → Nat) (q : Nat → Nat) (st : MS) (st0 : MS) (hm : m_character st = some st0) (sz : Nat) : Met l y15_14 (Cond.code y15_14 prog_15_method_14_code 2 none :: TB) (rmD 2 0 0) (va_Pc [.ref (q 0)] (pcW G Zd (wMs q G.2 st) sz)) (qV G (fun (_ : Unit) => True) (fun _ => (wMs q G.2 st0)) (va_A (wMs q G.2 st) sz)) 0 0 (va_A (wMs q G.2 st) sz) := by
  refine go (y := y15_14) (cc := prog_15_method_14_code) (maxL := 2) (ret := none) (av := [.ref (q 0)]) (Qc := qV G (fun (_ : Unit) => True) (fun _ => (wMs q G.2 st0))) "PagedValuesModel" rfl (by decide) (Nat.le_of_ble_eq_true rfl) ?_
  intro p e s m below meth c ls A hx hb hr hlk hml hown hts hin hl hP hD hK hS hA hZ
  have hl : lv_has ls 2 [(0, .ref (q 0))] := hl
  have h := hm
  clear hm
  refine lv_aload_n hx hb d15_14_0 rfl (lv_at hl 0 rfl) ?_
  obtain ⟨x1, hc, h⟩ := ob h
  refine sV_i (As := []) (rest := []) ⟨hx, hb, hml, hown, hts⟩ (cm_here l G Zd q st x1 hc _) (kw_V (n := 0) hts k1305 k1302 k15 k1304 ks37 (by decide +kernel) ⟨Nat.le_of_ble_eq_true rfl, Nat.le_of_ble_eq_true rfl⟩) hP hD hK hS hA hZ (va_recv (ci := 13) (q0 := 0) hK hP rfl rfl) rfl hl.1 rfl (Nat.le_of_ble_eq_true rfl) d15_14_1 ⟨Nat.le_of_ble_eq_true rfl, Nat.le_of_ble_eq_true rfl⟩ (fun rr u9 H locs hp hP hD hS => ?_)
  clear u9
  subst rr
  clear hc
  refine W.eq (g2 := F0 m 4 ls [.int x1]) rfl ?_
  have hP : va_P G.1 vwCl (wMs q G.2 st) H := hP
  have hD : va_D A (wMs q G.2 st) := hD
  refine lv_istore_n (lv' := [(1, .int x1), (0, .ref (q 0))]) hx hb d15_14_4 rfl hl (by decide) rfl (fun ls hl => ?_)
  refine lv_aload_n hx hb d15_14_5 rfl (lv_at hl 1 rfl) ?_
  refine va_get (D := G.1) (ci := 13) (v := .long (st.2.1 0)) (C := r_13) (T := f_13) (N := 42) (ref := "PagedValuesModel") hx hb hts (fun w h => List.mem_cons_of_mem _ (ly_13 w h)) hown hK hP 0 rfl rfl 11 (by decide) (hts _ (List.mem_cons_of_mem _ k1162)) (fun _ h9 => h9) rfl d15_14_6 ?_
  obtain ⟨x4, hc, h⟩ := ob h
  refine sS_i (As := [.long (st.2.1 0)]) (rest := []) ⟨hx, hb, hml, hown, hts⟩ (cm_lengthOf l G Zd _ (st.2.1 0) x4 hc _) (kw_S (n := 1) hts k1343 k1341 k15 k1342 (by decide +kernel) ⟨Nat.le_of_ble_eq_true rfl, Nat.le_of_ble_eq_true rfl⟩) hP hD hK hS hA hZ rfl hl.1 rfl (Nat.le_of_ble_eq_true rfl) d15_14_9 ⟨Nat.le_of_ble_eq_true rfl, Nat.le_of_ble_eq_true rfl⟩ (fun rr u9 H locs hp hP hD hS => ?_)
  clear u9
  subst rr
  clear hc
  refine W.eq (g2 := F0 m 12 ls [.int x4]) rfl ?_
  have hP : va_P G.1 vwCl (wMs q G.2 st) H := hP
  have hD : va_D A (wMs q G.2 st) := hD
  refine lv_bipush (v := 10) hx hb d15_14_12 (by decide) ?_
  obtain ⟨e8, hX, h⟩ := ob h
  have hj : ∀ (H : Heap) (locs : List Loc) (ls : Array Slot), lv_has ls 2 [(0, .ref (q 0)), (1, .int x1)] → va_P G.1 vwCl (wMs q G.2 e8) H → va_D A (wMs q G.2 e8) → va_S A s.heap H locs → W p l e (rmD 2 0 0) s m ([.ref (q 0)] : List Value).toArray below meth c H locs 0 0 (MQ below (qV G (fun (_ : Unit) => True) (fun _ => (wMs q G.2 st0)) A) ([.ref (q 0)] : List Value).toArray s 0 0 A) (F0 m 114 ls []) := by
    intro H locs ls hl hP hD hS
    cases h
    exact fin_v hx hb hr hlk hS () trivial hP hD (Nat.le_of_ble_eq_true rfl) (Nat.le_of_ble_eq_true rfl) d15_14_114
  clear h
  refine lv_icmp_eq (tgt := 30) hx hb d15_14_14 rfl (fun c7 => ?_) (fun c7 => ?_)
  ·
    replace h := (if_pos c7).symm.trans hX
    refine lv_aload_n hx hb d15_14_30 rfl (lv_at hl 1 rfl) ?_
    obtain ⟨st11, hc, h⟩ := ob h
    refine sV_v (As := []) (rest := []) ⟨hx, hb, hml, hown, hts⟩ (cm_fault l G Zd q st st11 hc _) (kw_V (n := 0) hts k1320 k1317 k15 k1319 ks40 (by decide +kernel) ⟨Nat.le_of_ble_eq_true rfl, Nat.le_of_ble_eq_true rfl⟩) hP hD hK hS hA hZ (va_recv (ci := 13) (q0 := 0) hK hP rfl rfl) rfl hl.1 rfl (Nat.le_of_ble_eq_true rfl) d15_14_31 ⟨Nat.le_of_ble_eq_true rfl, Nat.le_of_ble_eq_true rfl⟩ (fun u9 H locs hp hP hD hS => ?_)
    clear u9
    clear hp
    clear hc
    refine W.eq (g2 := F0 m 34 ls []) rfl ?_
    have hP : va_P G.1 vwCl (wMs q G.2 st11) H := hP
    have hD : va_D A (wMs q G.2 st11) := hD
    refine lv_goto (tgt := 114) hx hb d15_14_34 rfl ?_
    have e9 := Option.some.inj h
    subst e8
    have hl := lv_sub hl (l' := [(0, .ref (q 0)), (1, .int x1)]) [1, 0] rfl
    exact hj _ _ _ hl hP hD hS
  ·
    replace h := (if_neg c7).symm.trans hX
    refine lv_iload_n hx hb d15_14_17 rfl (lv_at hl 0 rfl) ?_
    refine lv_bipush (v := 32) hx hb d15_14_18 (by decide) ?_
    refine lv_icmp_lt (tgt := 30) hx hb d15_14_20 rfl (fun c13 => ?_) (fun c13 => ?_)
    ·
      replace h := (if_pos c13).symm.trans h
      refine lv_aload_n hx hb d15_14_30 rfl (lv_at hl 1 rfl) ?_
      obtain ⟨st15, hc, h⟩ := ob h
      refine sV_v (As := []) (rest := []) ⟨hx, hb, hml, hown, hts⟩ (cm_fault l G Zd q st st15 hc _) (kw_V (n := 0) hts k1320 k1317 k15 k1319 ks40 (by decide +kernel) ⟨Nat.le_of_ble_eq_true rfl, Nat.le_of_ble_eq_true rfl⟩) hP hD hK hS hA hZ (va_recv (ci := 13) (q0 := 0) hK hP rfl rfl) rfl hl.1 rfl (Nat.le_of_ble_eq_true rfl) d15_14_31 ⟨Nat.le_of_ble_eq_true rfl, Nat.le_of_ble_eq_true rfl⟩ (fun u9 H locs hp hP hD hS => ?_)
      clear u9
      clear hp
      clear hc
      refine W.eq (g2 := F0 m 34 ls []) rfl ?_
      have hP : va_P G.1 vwCl (wMs q G.2 st15) H := hP
      have hD : va_D A (wMs q G.2 st15) := hD
      refine lv_goto (tgt := 114) hx hb d15_14_34 rfl ?_
      have e9 := Option.some.inj h
      subst e8
      have hl := lv_sub hl (l' := [(0, .ref (q 0)), (1, .int x1)]) [1, 0] rfl
      exact hj _ _ _ hl hP hD hS
    ·
      replace h := (if_neg c13).symm.trans h
      refine lv_iload_n hx hb d15_14_23 rfl (lv_at hl 0 rfl) ?_
      refine lv_sipush (v := 255) hx hb d15_14_24 (by decide) ?_
      refine lv_icmp_le (tgt := 37) hx hb d15_14_27 rfl (fun c17 => ?_) (fun c17 => ?_)
      ·
        replace h := (if_pos c17).symm.trans h
        refine lv_iload_n hx hb d15_14_37 rfl (lv_at hl 0 rfl) ?_
        refine lv_bipush (v := 92) hx hb d15_14_38 (by decide) ?_
        refine lv_icmp_eq (tgt := 61) hx hb d15_14_40 rfl (fun c18 => ?_) (fun c18 => ?_)
        ·
          replace h := (if_pos c18).symm.trans h
          refine lv_aload_n hx hb d15_14_61 rfl (lv_at hl 1 rfl) ?_
          refine lv_dup hx hb d15_14_62 rfl ?_
          refine va_get (D := G.1) (ci := 13) (v := .int (st.1 1)) (C := r_13) (T := f_13) (N := 42) (ref := "PagedValuesModel") hx hb hts (fun w h => List.mem_cons_of_mem _ (ly_13 w h)) hown hK hP 0 rfl rfl 2 (by decide) (hts _ (List.mem_cons_of_mem _ k1153)) (fun _ h9 => h9) rfl d15_14_63 ?_
          refine lv_iconst (v := 1) hx hb d15_14_66 (by decide) ?_
          refine lv_iadd hx hb d15_14_67 ?_
          obtain ⟨y19, hr, h⟩ := ob h
          refine lv_topi (fun y9 ey => ?_)
          have e9 := ey.trans (Option.some.inj hr)
          clear ey
          subst y9
          clear hr
          refine va_put (D := G.1) (ci := 13) (v := .int y19) (ty := .int) (C := r_13) (T := f_13) (N := 42) (ref := "PagedValuesModel") hx hb hts (fun w h => List.mem_cons_of_mem _ (ly_13 w h)) ft_13 ft_13_ok nm_13 hown hK hP hD hS 0 rfl rfl 2 (by decide) (hts _ (List.mem_cons_of_mem _ k1153)) (fun _ h9 => h9) rfl (by decide +kernel) rfl rfl (Nat.le_of_ble_eq_true rfl) d15_14_68 (fun H locs hP hD hS => ?_)
          have hP : va_P G.1 vwCl (wMs q G.2 (upd st.1 1 y19, st.2.1, st.2.2.1, st.2.2.2)) H := hP
          have hD : va_D A (wMs q G.2 (upd st.1 1 y19, st.2.1, st.2.2.1, st.2.2.2)) := hD
          refine lv_aload_n hx hb d15_14_71 rfl (lv_at hl 1 rfl) ?_
          obtain ⟨x20, hc, h⟩ := ob h
          refine sV_i (As := []) (rest := []) ⟨hx, hb, hml, hown, hts⟩ (cm_here l G Zd q (upd st.1 1 y19, st.2.1, st.2.2.1, st.2.2.2) x20 hc _) (kw_V (n := 0) hts k1305 k1302 k15 k1304 ks37 (by decide +kernel) ⟨Nat.le_of_ble_eq_true rfl, Nat.le_of_ble_eq_true rfl⟩) hP hD hK hS hA hZ (va_recv (ci := 13) (q0 := 0) hK hP rfl rfl) rfl hl.1 rfl (Nat.le_of_ble_eq_true rfl) d15_14_72 ⟨Nat.le_of_ble_eq_true rfl, Nat.le_of_ble_eq_true rfl⟩ (fun rr u9 H locs hp hP hD hS => ?_)
          clear u9
          subst rr
          clear hc
          refine W.eq (g2 := F0 m 75 ls [.int x20]) rfl ?_
          have hP : va_P G.1 vwCl (wMs q G.2 (upd st.1 1 y19, st.2.1, st.2.2.1, st.2.2.2)) H := hP
          have hD : va_D A (wMs q G.2 (upd st.1 1 y19, st.2.1, st.2.2.1, st.2.2.2)) := hD
          refine lv_bipush (v := 34) hx hb d15_14_75 (by decide) ?_
          refine lv_icmp_eq (tgt := 89) hx hb d15_14_77 rfl (fun c23 => ?_) (fun c23 => ?_)
          ·
            replace h := (if_pos c23).symm.trans h
            refine lv_aload_n hx hb d15_14_89 rfl (lv_at hl 1 rfl) ?_
            refine lv_aload_n hx hb d15_14_90 rfl (lv_at hl 1 rfl) ?_
            obtain ⟨x24, hc, h⟩ := ob h
            refine sV_i (As := []) (rest := [.ref (q 0)]) ⟨hx, hb, hml, hown, hts⟩ (cm_here l G Zd q (upd st.1 1 y19, st.2.1, st.2.2.1, st.2.2.2) x24 hc _) (kw_V (n := 0) hts k1305 k1302 k15 k1304 ks37 (by decide +kernel) ⟨Nat.le_of_ble_eq_true rfl, Nat.le_of_ble_eq_true rfl⟩) hP hD hK hS hA hZ (va_recv (ci := 13) (q0 := 0) hK hP rfl rfl) rfl hl.1 rfl (Nat.le_of_ble_eq_true rfl) d15_14_91 ⟨Nat.le_of_ble_eq_true rfl, Nat.le_of_ble_eq_true rfl⟩ (fun rr u9 H locs hp hP hD hS => ?_)
            clear u9
            subst rr
            clear hc
            refine W.eq (g2 := F0 m 94 ls [.int x24, .ref (q 0)]) rfl ?_
            have hP : va_P G.1 vwCl (wMs q G.2 (upd st.1 1 y19, st.2.1, st.2.2.1, st.2.2.2)) H := hP
            have hD : va_D A (wMs q G.2 (upd st.1 1 y19, st.2.1, st.2.2.1, st.2.2.2)) := hD
            obtain ⟨st28, hc, h⟩ := ob h
            refine sV_v (As := [.int x24]) (rest := []) ⟨hx, hb, hml, hown, hts⟩ (cm_add l G Zd q x24 (upd st.1 1 y19, st.2.1, st.2.2.1, st.2.2.2) st28 hc _) (kw_V (n := 1) hts k1347 k1344 k15 k1346 ks46 (by decide +kernel) ⟨Nat.le_of_ble_eq_true rfl, Nat.le_of_ble_eq_true rfl⟩) hP hD hK hS hA hZ (va_recv (ci := 13) (q0 := 0) hK hP rfl rfl) rfl hl.1 rfl (Nat.le_of_ble_eq_true rfl) d15_14_94 ⟨Nat.le_of_ble_eq_true rfl, Nat.le_of_ble_eq_true rfl⟩ (fun u9 H locs hp hP hD hS => ?_)
            clear u9
            clear hp
            clear hc
            refine W.eq (g2 := F0 m 97 ls []) rfl ?_
            have hP : va_P G.1 vwCl (wMs q G.2 st28) H := hP
            have hD : va_D A (wMs q G.2 st28) := hD
            refine lv_aload_n hx hb d15_14_97 rfl (lv_at hl 1 rfl) ?_
            refine lv_dup hx hb d15_14_98 rfl ?_
            refine va_get (D := G.1) (ci := 13) (v := .int (st28.1 1)) (C := r_13) (T := f_13) (N := 42) (ref := "PagedValuesModel") hx hb hts (fun w h => List.mem_cons_of_mem _ (ly_13 w h)) hown hK hP 0 rfl rfl 2 (by decide) (hts _ (List.mem_cons_of_mem _ k1153)) (fun _ h9 => h9) rfl d15_14_99 ?_
            refine lv_iconst (v := 1) hx hb d15_14_102 (by decide) ?_
            refine lv_iadd hx hb d15_14_103 ?_
            obtain ⟨y30, hr, h⟩ := ob h
            refine lv_topi (fun y9 ey => ?_)
            have e9 := ey.trans (Option.some.inj hr)
            clear ey
            subst y9
            clear hr
            refine va_put (D := G.1) (ci := 13) (v := .int y30) (ty := .int) (C := r_13) (T := f_13) (N := 42) (ref := "PagedValuesModel") hx hb hts (fun w h => List.mem_cons_of_mem _ (ly_13 w h)) ft_13 ft_13_ok nm_13 hown hK hP hD hS 0 rfl rfl 2 (by decide) (hts _ (List.mem_cons_of_mem _ k1153)) (fun _ h9 => h9) rfl (by decide +kernel) rfl rfl (Nat.le_of_ble_eq_true rfl) d15_14_104 (fun H locs hP hD hS => ?_)
            have hP : va_P G.1 vwCl (wMs q G.2 (upd st28.1 1 y30, st28.2.1, st28.2.2.1, st28.2.2.2)) H := hP
            have hD : va_D A (wMs q G.2 (upd st28.1 1 y30, st28.2.1, st28.2.2.1, st28.2.2.2)) := hD
            refine lv_goto (tgt := 114) hx hb d15_14_107 rfl ?_
            have e9 := Option.some.inj h
            subst e8
            have hl := lv_sub hl (l' := [(0, .ref (q 0)), (1, .int x1)]) [1, 0] rfl
            exact hj _ _ _ hl hP hD hS
          ·
            replace h := (if_neg c23).symm.trans h
            refine lv_aload_n hx hb d15_14_80 rfl (lv_at hl 1 rfl) ?_
            obtain ⟨x31, hc, h⟩ := ob h
            refine sV_i (As := []) (rest := []) ⟨hx, hb, hml, hown, hts⟩ (cm_here l G Zd q (upd st.1 1 y19, st.2.1, st.2.2.1, st.2.2.2) x31 hc _) (kw_V (n := 0) hts k1305 k1302 k15 k1304 ks37 (by decide +kernel) ⟨Nat.le_of_ble_eq_true rfl, Nat.le_of_ble_eq_true rfl⟩) hP hD hK hS hA hZ (va_recv (ci := 13) (q0 := 0) hK hP rfl rfl) rfl hl.1 rfl (Nat.le_of_ble_eq_true rfl) d15_14_81 ⟨Nat.le_of_ble_eq_true rfl, Nat.le_of_ble_eq_true rfl⟩ (fun rr u9 H locs hp hP hD hS => ?_)
            clear u9
            subst rr
            clear hc
            refine W.eq (g2 := F0 m 84 ls [.int x31]) rfl ?_
            have hP : va_P G.1 vwCl (wMs q G.2 (upd st.1 1 y19, st.2.1, st.2.2.1, st.2.2.2)) H := hP
            have hD : va_D A (wMs q G.2 (upd st.1 1 y19, st.2.1, st.2.2.1, st.2.2.2)) := hD
            refine lv_bipush (v := 92) hx hb d15_14_84 (by decide) ?_
            refine lv_icmp_ne (tgt := 110) hx hb d15_14_86 rfl (fun c34 => ?_) (fun c34 => ?_)
            ·
              replace h := (if_neg c34).symm.trans h
              refine lv_aload_n hx hb d15_14_110 rfl (lv_at hl 1 rfl) ?_
              obtain ⟨st36, hc, h⟩ := ob h
              refine sV_v (As := []) (rest := []) ⟨hx, hb, hml, hown, hts⟩ (cm_fault l G Zd q (upd st.1 1 y19, st.2.1, st.2.2.1, st.2.2.2) st36 hc _) (kw_V (n := 0) hts k1320 k1317 k15 k1319 ks40 (by decide +kernel) ⟨Nat.le_of_ble_eq_true rfl, Nat.le_of_ble_eq_true rfl⟩) hP hD hK hS hA hZ (va_recv (ci := 13) (q0 := 0) hK hP rfl rfl) rfl hl.1 rfl (Nat.le_of_ble_eq_true rfl) d15_14_111 ⟨Nat.le_of_ble_eq_true rfl, Nat.le_of_ble_eq_true rfl⟩ (fun u9 H locs hp hP hD hS => ?_)
              clear u9
              clear hp
              clear hc
              refine W.eq (g2 := F0 m 114 ls []) rfl ?_
              have hP : va_P G.1 vwCl (wMs q G.2 st36) H := hP
              have hD : va_D A (wMs q G.2 st36) := hD
              have e9 := Option.some.inj h
              subst e8
              have hl := lv_sub hl (l' := [(0, .ref (q 0)), (1, .int x1)]) [1, 0] rfl
              exact hj _ _ _ hl hP hD hS
            ·
              replace h := (if_pos c34).symm.trans h
              refine lv_aload_n hx hb d15_14_89 rfl (lv_at hl 1 rfl) ?_
              refine lv_aload_n hx hb d15_14_90 rfl (lv_at hl 1 rfl) ?_
              obtain ⟨x38, hc, h⟩ := ob h
              refine sV_i (As := []) (rest := [.ref (q 0)]) ⟨hx, hb, hml, hown, hts⟩ (cm_here l G Zd q (upd st.1 1 y19, st.2.1, st.2.2.1, st.2.2.2) x38 hc _) (kw_V (n := 0) hts k1305 k1302 k15 k1304 ks37 (by decide +kernel) ⟨Nat.le_of_ble_eq_true rfl, Nat.le_of_ble_eq_true rfl⟩) hP hD hK hS hA hZ (va_recv (ci := 13) (q0 := 0) hK hP rfl rfl) rfl hl.1 rfl (Nat.le_of_ble_eq_true rfl) d15_14_91 ⟨Nat.le_of_ble_eq_true rfl, Nat.le_of_ble_eq_true rfl⟩ (fun rr u9 H locs hp hP hD hS => ?_)
              clear u9
              subst rr
              clear hc
              refine W.eq (g2 := F0 m 94 ls [.int x38, .ref (q 0)]) rfl ?_
              have hP : va_P G.1 vwCl (wMs q G.2 (upd st.1 1 y19, st.2.1, st.2.2.1, st.2.2.2)) H := hP
              have hD : va_D A (wMs q G.2 (upd st.1 1 y19, st.2.1, st.2.2.1, st.2.2.2)) := hD
              obtain ⟨st42, hc, h⟩ := ob h
              refine sV_v (As := [.int x38]) (rest := []) ⟨hx, hb, hml, hown, hts⟩ (cm_add l G Zd q x38 (upd st.1 1 y19, st.2.1, st.2.2.1, st.2.2.2) st42 hc _) (kw_V (n := 1) hts k1347 k1344 k15 k1346 ks46 (by decide +kernel) ⟨Nat.le_of_ble_eq_true rfl, Nat.le_of_ble_eq_true rfl⟩) hP hD hK hS hA hZ (va_recv (ci := 13) (q0 := 0) hK hP rfl rfl) rfl hl.1 rfl (Nat.le_of_ble_eq_true rfl) d15_14_94 ⟨Nat.le_of_ble_eq_true rfl, Nat.le_of_ble_eq_true rfl⟩ (fun u9 H locs hp hP hD hS => ?_)
              clear u9
              clear hp
              clear hc
              refine W.eq (g2 := F0 m 97 ls []) rfl ?_
              have hP : va_P G.1 vwCl (wMs q G.2 st42) H := hP
              have hD : va_D A (wMs q G.2 st42) := hD
              refine lv_aload_n hx hb d15_14_97 rfl (lv_at hl 1 rfl) ?_
              refine lv_dup hx hb d15_14_98 rfl ?_
              refine va_get (D := G.1) (ci := 13) (v := .int (st42.1 1)) (C := r_13) (T := f_13) (N := 42) (ref := "PagedValuesModel") hx hb hts (fun w h => List.mem_cons_of_mem _ (ly_13 w h)) hown hK hP 0 rfl rfl 2 (by decide) (hts _ (List.mem_cons_of_mem _ k1153)) (fun _ h9 => h9) rfl d15_14_99 ?_
              refine lv_iconst (v := 1) hx hb d15_14_102 (by decide) ?_
              refine lv_iadd hx hb d15_14_103 ?_
              obtain ⟨y44, hr, h⟩ := ob h
              refine lv_topi (fun y9 ey => ?_)
              have e9 := ey.trans (Option.some.inj hr)
              clear ey
              subst y9
              clear hr
              refine va_put (D := G.1) (ci := 13) (v := .int y44) (ty := .int) (C := r_13) (T := f_13) (N := 42) (ref := "PagedValuesModel") hx hb hts (fun w h => List.mem_cons_of_mem _ (ly_13 w h)) ft_13 ft_13_ok nm_13 hown hK hP hD hS 0 rfl rfl 2 (by decide) (hts _ (List.mem_cons_of_mem _ k1153)) (fun _ h9 => h9) rfl (by decide +kernel) rfl rfl (Nat.le_of_ble_eq_true rfl) d15_14_104 (fun H locs hP hD hS => ?_)
              have hP : va_P G.1 vwCl (wMs q G.2 (upd st42.1 1 y44, st42.2.1, st42.2.2.1, st42.2.2.2)) H := hP
              have hD : va_D A (wMs q G.2 (upd st42.1 1 y44, st42.2.1, st42.2.2.1, st42.2.2.2)) := hD
              refine lv_goto (tgt := 114) hx hb d15_14_107 rfl ?_
              have e9 := Option.some.inj h
              subst e8
              have hl := lv_sub hl (l' := [(0, .ref (q 0)), (1, .int x1)]) [1, 0] rfl
              exact hj _ _ _ hl hP hD hS
        ·
          replace h := (if_neg c18).symm.trans h
          refine lv_aload_n hx hb d15_14_43 rfl (lv_at hl 1 rfl) ?_
          refine lv_iload_n hx hb d15_14_44 rfl (lv_at hl 0 rfl) ?_
          obtain ⟨st46, hc, h⟩ := ob h
          refine sV_v (As := [.int x1]) (rest := []) ⟨hx, hb, hml, hown, hts⟩ (cm_add l G Zd q x1 st st46 hc _) (kw_V (n := 1) hts k1347 k1344 k15 k1346 ks46 (by decide +kernel) ⟨Nat.le_of_ble_eq_true rfl, Nat.le_of_ble_eq_true rfl⟩) hP hD hK hS hA hZ (va_recv (ci := 13) (q0 := 0) hK hP rfl rfl) rfl hl.1 rfl (Nat.le_of_ble_eq_true rfl) d15_14_45 ⟨Nat.le_of_ble_eq_true rfl, Nat.le_of_ble_eq_true rfl⟩ (fun u9 H locs hp hP hD hS => ?_)
          clear u9
          clear hp
          clear hc
          refine W.eq (g2 := F0 m 48 ls []) rfl ?_
          have hP : va_P G.1 vwCl (wMs q G.2 st46) H := hP
          have hD : va_D A (wMs q G.2 st46) := hD
          refine lv_aload_n hx hb d15_14_48 rfl (lv_at hl 1 rfl) ?_
          refine lv_dup hx hb d15_14_49 rfl ?_
          refine va_get (D := G.1) (ci := 13) (v := .int (st46.1 1)) (C := r_13) (T := f_13) (N := 42) (ref := "PagedValuesModel") hx hb hts (fun w h => List.mem_cons_of_mem _ (ly_13 w h)) hown hK hP 0 rfl rfl 2 (by decide) (hts _ (List.mem_cons_of_mem _ k1153)) (fun _ h9 => h9) rfl d15_14_50 ?_
          refine lv_iconst (v := 1) hx hb d15_14_53 (by decide) ?_
          refine lv_iadd hx hb d15_14_54 ?_
          obtain ⟨y48, hr, h⟩ := ob h
          refine lv_topi (fun y9 ey => ?_)
          have e9 := ey.trans (Option.some.inj hr)
          clear ey
          subst y9
          clear hr
          refine va_put (D := G.1) (ci := 13) (v := .int y48) (ty := .int) (C := r_13) (T := f_13) (N := 42) (ref := "PagedValuesModel") hx hb hts (fun w h => List.mem_cons_of_mem _ (ly_13 w h)) ft_13 ft_13_ok nm_13 hown hK hP hD hS 0 rfl rfl 2 (by decide) (hts _ (List.mem_cons_of_mem _ k1153)) (fun _ h9 => h9) rfl (by decide +kernel) rfl rfl (Nat.le_of_ble_eq_true rfl) d15_14_55 (fun H locs hP hD hS => ?_)
          have hP : va_P G.1 vwCl (wMs q G.2 (upd st46.1 1 y48, st46.2.1, st46.2.2.1, st46.2.2.2)) H := hP
          have hD : va_D A (wMs q G.2 (upd st46.1 1 y48, st46.2.1, st46.2.2.1, st46.2.2.2)) := hD
          refine lv_goto (tgt := 114) hx hb d15_14_58 rfl ?_
          have e9 := Option.some.inj h
          subst e8
          have hl := lv_sub hl (l' := [(0, .ref (q 0)), (1, .int x1)]) [1, 0] rfl
          exact hj _ _ _ hl hP hD hS
      ·
        replace h := (if_neg c17).symm.trans h
        refine lv_aload_n hx hb d15_14_30 rfl (lv_at hl 1 rfl) ?_
        obtain ⟨st50, hc, h⟩ := ob h
        refine sV_v (As := []) (rest := []) ⟨hx, hb, hml, hown, hts⟩ (cm_fault l G Zd q st st50 hc _) (kw_V (n := 0) hts k1320 k1317 k15 k1319 ks40 (by decide +kernel) ⟨Nat.le_of_ble_eq_true rfl, Nat.le_of_ble_eq_true rfl⟩) hP hD hK hS hA hZ (va_recv (ci := 13) (q0 := 0) hK hP rfl rfl) rfl hl.1 rfl (Nat.le_of_ble_eq_true rfl) d15_14_31 ⟨Nat.le_of_ble_eq_true rfl, Nat.le_of_ble_eq_true rfl⟩ (fun u9 H locs hp hP hD hS => ?_)
        clear u9
        clear hp
        clear hc
        refine W.eq (g2 := F0 m 34 ls []) rfl ?_
        have hP : va_P G.1 vwCl (wMs q G.2 st50) H := hP
        have hD : va_D A (wMs q G.2 st50) := hD
        refine lv_goto (tgt := 114) hx hb d15_14_34 rfl ?_
        have e9 := Option.some.inj h
        subst e8
        have hl := lv_sub hl (l' := [(0, .ref (q 0)), (1, .int x1)]) [1, 0] rfl
        exact hj _ _ _ hl hP hD hS
def m_string_l1  : Nat → (MS) → Option (MS)
  | 0, _ => none
  | n9 + 1, e9 => if (0 : Int32) ≤ (e9.1 2) then (some e9) else ((m_here e9).bind fun x15 => if x15 = (34 : Int32) then (some e9) else ((m_character e9).bind fun st20 => m_string_l1  n9 st20))
theorem m_string_l1_s  (n9 : Nat) (e9 : MS) : m_string_l1  (n9 + 1) e9 = (if (0 : Int32) ≤ (e9.1 2) then (some e9) else ((m_here e9).bind fun x15 => if x15 = (34 : Int32) then (some e9) else ((m_character e9).bind fun st20 => m_string_l1  n9 st20))) := rfl
def m_string (st : MS) : Option (MS) := (m_clear st).bind fun st2 => (m_must (34 : Int32) st2).bind fun st5 => (m_string_l1  4096 st5).bind fun e7 => (m_must (34 : Int32) e7).bind fun st12 => some st12
set_option maxHeartbeats 4000000 in
set_option maxRecDepth 100000 in
theorem cm_string (l : Launch) (G : Gk) (Zd : Nat → Nat) (q : Nat → Nat) (st : MS) (st0 : MS) (hm : m_string st = some st0) (sz : Nat) : Met l y15_15 (Cond.code y15_15 prog_15_method_15_code 1 none :: TB) (rmD 3 0 0) (va_Pc [.ref (q 0)] (pcW G Zd (wMs q G.2 st) sz)) (qV G (fun (_ : Unit) => True) (fun _ => (wMs q G.2 st0)) (va_A (wMs q G.2 st) sz)) 0 0 (va_A (wMs q G.2 st) sz) := by
  refine go (y := y15_15) (cc := prog_15_method_15_code) (maxL := 1) (ret := none) (av := [.ref (q 0)]) (Qc := qV G (fun (_ : Unit) => True) (fun _ => (wMs q G.2 st0))) "PagedValuesModel" rfl (by decide) (Nat.le_of_ble_eq_true rfl) ?_
  intro p e s m below meth c ls A hx hb hr hlk hml hown hts hin hl hP hD hK hS hA hZ
  have hl : lv_has ls 1 [(0, .ref (q 0))] := hl
  have h := hm
  clear hm
  refine lv_aload_n hx hb d15_15_0 rfl (lv_at hl 0 rfl) ?_
  obtain ⟨st2, hc, h⟩ := ob h
  refine sV_v (As := []) (rest := []) ⟨hx, hb, hml, hown, hts⟩ (cm_clear l G Zd q st st2 hc _) (kw_V (n := 0) hts k1332 k1329 k15 k1331 ks43 (by decide +kernel) ⟨Nat.le_of_ble_eq_true rfl, Nat.le_of_ble_eq_true rfl⟩) hP hD hK hS hA hZ (va_recv (ci := 13) (q0 := 0) hK hP rfl rfl) rfl hl.1 rfl (Nat.le_of_ble_eq_true rfl) d15_15_1 ⟨Nat.le_of_ble_eq_true rfl, Nat.le_of_ble_eq_true rfl⟩ (fun u9 H locs hp hP hD hS => ?_)
  clear u9
  clear hp
  clear hc
  refine W.eq (g2 := F0 m 4 ls []) rfl ?_
  have hP : va_P G.1 vwCl (wMs q G.2 st2) H := hP
  have hD : va_D A (wMs q G.2 st2) := hD
  refine lv_aload_n hx hb d15_15_4 rfl (lv_at hl 0 rfl) ?_
  refine lv_bipush (v := 34) hx hb d15_15_5 (by decide) ?_
  obtain ⟨st5, hc, h⟩ := ob h
  refine sV_v (As := [.int 34]) (rest := []) ⟨hx, hb, hml, hown, hts⟩ (cm_must l G Zd q (34 : Int32) st2 st5 hc _) (kw_V (n := 1) hts k1336 k1333 k15 k1335 ks44 (by decide +kernel) ⟨Nat.le_of_ble_eq_true rfl, Nat.le_of_ble_eq_true rfl⟩) hP hD hK hS hA hZ (va_recv (ci := 13) (q0 := 0) hK hP rfl rfl) rfl hl.1 rfl (Nat.le_of_ble_eq_true rfl) d15_15_7 ⟨Nat.le_of_ble_eq_true rfl, Nat.le_of_ble_eq_true rfl⟩ (fun u9 H locs hp hP hD hS => ?_)
  clear u9
  clear hp
  clear hc
  refine W.eq (g2 := F0 m 10 ls []) rfl ?_
  have hP : va_P G.1 vwCl (wMs q G.2 st5) H := hP
  have hD : va_D A (wMs q G.2 st5) := hD
  obtain ⟨e7, hX, hrest⟩ := ob h
  clear h
  have hj : ∀ (v10 : MS), e7 = (v10) → ∀ (H : Heap) (locs : List Loc) (ls : Array Slot), lv_has ls 1 [(0, .ref (q 0))] → va_P G.1 vwCl (wMs q G.2 v10) H → va_D A (wMs q G.2 v10) → va_S A s.heap H locs → W p l e (rmD 3 0 0) s m ([.ref (q 0)] : List Value).toArray below meth c H locs 0 0 (MQ below (qV G (fun (_ : Unit) => True) (fun _ => (wMs q G.2 st0)) A) ([.ref (q 0)] : List Value).toArray s 0 0 A) (F0 m 33 ls []) := by
    intro v10 he H locs ls hl hP hD hS
    subst e7
    have h := hrest
    refine lv_aload_n hx hb d15_15_33 rfl (lv_at hl 0 rfl) ?_
    refine lv_bipush (v := 34) hx hb d15_15_34 (by decide) ?_
    obtain ⟨st12, hc, h⟩ := ob h
    refine sV_v (As := [.int 34]) (rest := []) ⟨hx, hb, hml, hown, hts⟩ (cm_must l G Zd q (34 : Int32) v10 st12 hc _) (kw_V (n := 1) hts k1336 k1333 k15 k1335 ks44 (by decide +kernel) ⟨Nat.le_of_ble_eq_true rfl, Nat.le_of_ble_eq_true rfl⟩) hP hD hK hS hA hZ (va_recv (ci := 13) (q0 := 0) hK hP rfl rfl) rfl hl.1 rfl (Nat.le_of_ble_eq_true rfl) d15_15_36 ⟨Nat.le_of_ble_eq_true rfl, Nat.le_of_ble_eq_true rfl⟩ (fun u9 H locs hp hP hD hS => ?_)
    clear u9
    clear hp
    clear hc
    refine W.eq (g2 := F0 m 39 ls []) rfl ?_
    have hP : va_P G.1 vwCl (wMs q G.2 st12) H := hP
    have hD : va_D A (wMs q G.2 st12) := hD
    cases h
    exact fin_v hx hb hr hlk hS () trivial hP hD (Nat.le_of_ble_eq_true rfl) (Nat.le_of_ble_eq_true rfl) d15_15_39
  have hloop : ∀ (n9 : Nat) (v8 : MS), m_string_l1  n9 (v8) = some e7 → ∀ (H : Heap) (locs : List Loc) (ls : Array Slot), lv_has ls 1 [(0, .ref (q 0))] → va_P G.1 vwCl (wMs q G.2 v8) H → va_D A (wMs q G.2 v8) → va_S A s.heap H locs → W p l e (rmD 3 0 0) s m ([.ref (q 0)] : List Value).toArray below meth c H locs 0 0 (MQ below (qV G (fun (_ : Unit) => True) (fun _ => (wMs q G.2 st0)) A) ([.ref (q 0)] : List Value).toArray s 0 0 A) (F0 m 10 ls []) := by
    intro n9
    induction n9 with
    | zero =>
      intro v8 h
      cases h
    | succ n9 ih =>
      intro v8 h H locs ls hl hP hD hS
      replace h := (m_string_l1_s  n9 (v8)).symm.trans h
      refine lv_aload_n hx hb d15_15_10 rfl (lv_at hl 0 rfl) ?_
      refine va_get (D := G.1) (ci := 13) (v := .int (v8.1 2)) (C := r_13) (T := f_13) (N := 42) (ref := "PagedValuesModel") hx hb hts (fun w h => List.mem_cons_of_mem _ (ly_13 w h)) hown hK hP 0 rfl rfl 3 (by decide) (hts _ (List.mem_cons_of_mem _ k1154)) (fun _ h9 => h9) rfl d15_15_11 ?_
      refine lv_if_ge (tgt := 33) hx hb d15_15_14 rfl (fun c14 => ?_) (fun c14 => ?_)
      ·
        replace h := (if_pos c14).symm.trans h
        have e9 := Option.some.inj h
        subst e7
        have hl := lv_sub hl (l' := [(0, .ref (q 0))]) [0] rfl
        exact hj _ rfl _ _ _ hl hP hD hS
      ·
        replace h := (if_neg c14).symm.trans h
        refine lv_aload_n hx hb d15_15_17 rfl (lv_at hl 0 rfl) ?_
        obtain ⟨x15, hc, h⟩ := ob h
        refine sV_i (As := []) (rest := []) ⟨hx, hb, hml, hown, hts⟩ (cm_here l G Zd q v8 x15 hc _) (kw_V (n := 0) hts k1305 k1302 k15 k1304 ks37 (by decide +kernel) ⟨Nat.le_of_ble_eq_true rfl, Nat.le_of_ble_eq_true rfl⟩) hP hD hK hS hA hZ (va_recv (ci := 13) (q0 := 0) hK hP rfl rfl) rfl hl.1 rfl (Nat.le_of_ble_eq_true rfl) d15_15_18 ⟨Nat.le_of_ble_eq_true rfl, Nat.le_of_ble_eq_true rfl⟩ (fun rr u9 H locs hp hP hD hS => ?_)
        clear u9
        subst rr
        clear hc
        refine W.eq (g2 := F0 m 21 ls [.int x15]) rfl ?_
        have hP : va_P G.1 vwCl (wMs q G.2 v8) H := hP
        have hD : va_D A (wMs q G.2 v8) := hD
        refine lv_bipush (v := 34) hx hb d15_15_21 (by decide) ?_
        refine lv_icmp_eq (tgt := 33) hx hb d15_15_23 rfl (fun c18 => ?_) (fun c18 => ?_)
        ·
          replace h := (if_pos c18).symm.trans h
          have e9 := Option.some.inj h
          subst e7
          have hl := lv_sub hl (l' := [(0, .ref (q 0))]) [0] rfl
          exact hj _ rfl _ _ _ hl hP hD hS
        ·
          replace h := (if_neg c18).symm.trans h
          refine lv_aload_n hx hb d15_15_26 rfl (lv_at hl 0 rfl) ?_
          obtain ⟨st20, hc, h⟩ := ob h
          refine sV_v (As := []) (rest := []) ⟨hx, hb, hml, hown, hts⟩ (cm_character l G Zd q v8 st20 hc _) (kw_V (n := 0) hts k1340 k1337 k15 k1339 ks45 (by decide +kernel) ⟨Nat.le_of_ble_eq_true rfl, Nat.le_of_ble_eq_true rfl⟩) hP hD hK hS hA hZ (va_recv (ci := 13) (q0 := 0) hK hP rfl rfl) rfl hl.1 rfl (Nat.le_of_ble_eq_true rfl) d15_15_27 ⟨Nat.le_of_ble_eq_true rfl, Nat.le_of_ble_eq_true rfl⟩ (fun u9 H locs hp hP hD hS => ?_)
          clear u9
          clear hp
          clear hc
          refine W.eq (g2 := F0 m 30 ls []) rfl ?_
          have hP : va_P G.1 vwCl (wMs q G.2 st20) H := hP
          have hD : va_D A (wMs q G.2 st20) := hD
          refine lv_goto (tgt := 10) hx hb d15_15_30 rfl ?_
          have hl := lv_sub hl (l' := [(0, .ref (q 0))]) [0] rfl
          exact ih _ h _ _ _ hl hP hD hS
  exact hloop _ _ hX _ _ _ hl hP hD hS
def m_plain (st : MS) : Option (Int32 × MS) := (m_here st).bind fun x1 => if x1 = (34 : Int32) then ((m_string st).bind fun st23 => some ((4 : Int32), st23)) else (if x1 = (45 : Int32) then ((m_number st).bind fun st7 => some ((3 : Int32), st7)) else ((m_isDigit x1).bind fun x9 => if x9 = (0 : Int32) then ((m_clear st).bind fun st14 => (m_constant x1 st14).bind fun r18 => some (r18.1, r18.2)) else ((m_number st).bind fun st20 => some ((3 : Int32), st20))))
set_option maxHeartbeats 4000000 in
set_option maxRecDepth 100000 in
theorem cm_plain (l : Launch) (G : Gk) (Zd : Nat → Nat) (q : Nat → Nat) (st : MS) (r0 : Int32) (st0 : MS) (hm : m_plain st = some (r0, st0)) (sz : Nat) : Met l y15_18 (Cond.code y15_18 prog_15_method_18_code 2 (some .int) :: TB) (rmD 4 0 0) (va_Pc [.ref (q 0)] (pcW G Zd (wMs q G.2 st) sz)) (qI G (fun rr (_ : Unit) => rr = r0) (fun _ => (wMs q G.2 st0)) (va_A (wMs q G.2 st) sz)) 0 0 (va_A (wMs q G.2 st) sz) := by
  refine go (y := y15_18) (cc := prog_15_method_18_code) (maxL := 2) (ret := (some .int)) (av := [.ref (q 0)]) (Qc := qI G (fun rr (_ : Unit) => rr = r0) (fun _ => (wMs q G.2 st0))) "PagedValuesModel" rfl (by decide) (Nat.le_of_ble_eq_true rfl) ?_
  intro p e s m below meth c ls A hx hb hr hlk hml hown hts hin hl hP hD hK hS hA hZ
  have hl : lv_has ls 2 [(0, .ref (q 0))] := hl
  have h := hm
  clear hm
  refine lv_aload_n hx hb d15_18_0 rfl (lv_at hl 0 rfl) ?_
  obtain ⟨x1, hc, h⟩ := ob h
  refine sV_i (As := []) (rest := []) ⟨hx, hb, hml, hown, hts⟩ (cm_here l G Zd q st x1 hc _) (kw_V (n := 0) hts k1305 k1302 k15 k1304 ks37 (by decide +kernel) ⟨Nat.le_of_ble_eq_true rfl, Nat.le_of_ble_eq_true rfl⟩) hP hD hK hS hA hZ (va_recv (ci := 13) (q0 := 0) hK hP rfl rfl) rfl hl.1 rfl (Nat.le_of_ble_eq_true rfl) d15_18_1 ⟨Nat.le_of_ble_eq_true rfl, Nat.le_of_ble_eq_true rfl⟩ (fun rr u9 H locs hp hP hD hS => ?_)
  clear u9
  subst rr
  clear hc
  refine W.eq (g2 := F0 m 4 ls [.int x1]) rfl ?_
  have hP : va_P G.1 vwCl (wMs q G.2 st) H := hP
  have hD : va_D A (wMs q G.2 st) := hD
  refine lv_istore_n (lv' := [(1, .int x1), (0, .ref (q 0))]) hx hb d15_18_4 rfl hl (by decide) rfl (fun ls hl => ?_)
  refine lv_iload_n hx hb d15_18_5 rfl (lv_at hl 0 rfl) ?_
  refine lv_bipush (v := 34) hx hb d15_18_6 (by decide) ?_
  refine lv_icmp_ne (tgt := 17) hx hb d15_18_8 rfl (fun c4 => ?_) (fun c4 => ?_)
  ·
    replace h := (if_neg c4).symm.trans h
    refine lv_iload_n hx hb d15_18_17 rfl (lv_at hl 0 rfl) ?_
    refine lv_bipush (v := 45) hx hb d15_18_18 (by decide) ?_
    refine lv_icmp_eq (tgt := 30) hx hb d15_18_20 rfl (fun c5 => ?_) (fun c5 => ?_)
    ·
      replace h := (if_pos c5).symm.trans h
      refine lv_aload_n hx hb d15_18_30 rfl (lv_at hl 1 rfl) ?_
      obtain ⟨st7, hc, h⟩ := ob h
      refine sV_v (As := []) (rest := []) ⟨hx, hb, hml, hown, hts⟩ (cm_number l G Zd q st st7 hc _) (kw_V (n := 0) hts k1355 k1352 k15 k1354 ks47 (by decide +kernel) ⟨Nat.le_of_ble_eq_true rfl, Nat.le_of_ble_eq_true rfl⟩) hP hD hK hS hA hZ (va_recv (ci := 13) (q0 := 0) hK hP rfl rfl) rfl hl.1 rfl (Nat.le_of_ble_eq_true rfl) d15_18_31 ⟨Nat.le_of_ble_eq_true rfl, Nat.le_of_ble_eq_true rfl⟩ (fun u9 H locs hp hP hD hS => ?_)
      clear u9
      clear hp
      clear hc
      refine W.eq (g2 := F0 m 34 ls []) rfl ?_
      have hP : va_P G.1 vwCl (wMs q G.2 st7) H := hP
      have hD : va_D A (wMs q G.2 st7) := hD
      refine lv_iconst (v := 3) hx hb d15_18_34 (by decide) ?_
      cases h
      exact fin_i hx hb hr hlk hS () rfl hP hD (Nat.le_of_ble_eq_true rfl) (Nat.le_of_ble_eq_true rfl) d15_18_35
    ·
      replace h := (if_neg c5).symm.trans h
      refine lv_iload_n hx hb d15_18_23 rfl (lv_at hl 0 rfl) ?_
      obtain ⟨x9, hc, h⟩ := ob h
      refine sS_i (As := [.int x1]) (rest := []) ⟨hx, hb, hml, hown, hts⟩ (cm_isDigit l G Zd _ x1 x9 hc _) (kw_S (n := 1) hts k1351 k1349 k15 k1350 (by decide +kernel) ⟨Nat.le_of_ble_eq_true rfl, Nat.le_of_ble_eq_true rfl⟩) hP hD hK hS hA hZ rfl hl.1 rfl (Nat.le_of_ble_eq_true rfl) d15_18_24 ⟨Nat.le_of_ble_eq_true rfl, Nat.le_of_ble_eq_true rfl⟩ (fun rr u9 H locs hp hP hD hS => ?_)
      clear u9
      subst rr
      clear hc
      refine W.eq (g2 := F0 m 27 ls [.int x9]) rfl ?_
      have hP : va_P G.1 vwCl (wMs q G.2 st) H := hP
      have hD : va_D A (wMs q G.2 st) := hD
      refine lv_if_eq (tgt := 36) hx hb d15_18_27 rfl (fun c12 => ?_) (fun c12 => ?_)
      ·
        replace h := (if_pos c12).symm.trans h
        refine lv_aload_n hx hb d15_18_36 rfl (lv_at hl 1 rfl) ?_
        obtain ⟨st14, hc, h⟩ := ob h
        refine sV_v (As := []) (rest := []) ⟨hx, hb, hml, hown, hts⟩ (cm_clear l G Zd q st st14 hc _) (kw_V (n := 0) hts k1332 k1329 k15 k1331 ks43 (by decide +kernel) ⟨Nat.le_of_ble_eq_true rfl, Nat.le_of_ble_eq_true rfl⟩) hP hD hK hS hA hZ (va_recv (ci := 13) (q0 := 0) hK hP rfl rfl) rfl hl.1 rfl (Nat.le_of_ble_eq_true rfl) d15_18_37 ⟨Nat.le_of_ble_eq_true rfl, Nat.le_of_ble_eq_true rfl⟩ (fun u9 H locs hp hP hD hS => ?_)
        clear u9
        clear hp
        clear hc
        refine W.eq (g2 := F0 m 40 ls []) rfl ?_
        have hP : va_P G.1 vwCl (wMs q G.2 st14) H := hP
        have hD : va_D A (wMs q G.2 st14) := hD
        refine lv_aload_n hx hb d15_18_40 rfl (lv_at hl 1 rfl) ?_
        refine lv_iload_n hx hb d15_18_41 rfl (lv_at hl 0 rfl) ?_
        obtain ⟨⟨x16, st17⟩, hc, h⟩ := ob h
        refine sV_i (As := [.int x1]) (rest := []) ⟨hx, hb, hml, hown, hts⟩ (cm_constant l G Zd q x1 st14 x16 st17 hc _) (kw_V (n := 1) hts k1364 k1361 k15 k1363 ks49 (by decide +kernel) ⟨Nat.le_of_ble_eq_true rfl, Nat.le_of_ble_eq_true rfl⟩) hP hD hK hS hA hZ (va_recv (ci := 13) (q0 := 0) hK hP rfl rfl) rfl hl.1 rfl (Nat.le_of_ble_eq_true rfl) d15_18_42 ⟨Nat.le_of_ble_eq_true rfl, Nat.le_of_ble_eq_true rfl⟩ (fun rr u9 H locs hp hP hD hS => ?_)
        clear u9
        subst rr
        clear hc
        refine W.eq (g2 := F0 m 45 ls [.int x16]) rfl ?_
        have hP : va_P G.1 vwCl (wMs q G.2 st17) H := hP
        have hD : va_D A (wMs q G.2 st17) := hD
        cases h
        exact fin_i hx hb hr hlk hS () rfl hP hD (Nat.le_of_ble_eq_true rfl) (Nat.le_of_ble_eq_true rfl) d15_18_45
      ·
        replace h := (if_neg c12).symm.trans h
        refine lv_aload_n hx hb d15_18_30 rfl (lv_at hl 1 rfl) ?_
        obtain ⟨st20, hc, h⟩ := ob h
        refine sV_v (As := []) (rest := []) ⟨hx, hb, hml, hown, hts⟩ (cm_number l G Zd q st st20 hc _) (kw_V (n := 0) hts k1355 k1352 k15 k1354 ks47 (by decide +kernel) ⟨Nat.le_of_ble_eq_true rfl, Nat.le_of_ble_eq_true rfl⟩) hP hD hK hS hA hZ (va_recv (ci := 13) (q0 := 0) hK hP rfl rfl) rfl hl.1 rfl (Nat.le_of_ble_eq_true rfl) d15_18_31 ⟨Nat.le_of_ble_eq_true rfl, Nat.le_of_ble_eq_true rfl⟩ (fun u9 H locs hp hP hD hS => ?_)
        clear u9
        clear hp
        clear hc
        refine W.eq (g2 := F0 m 34 ls []) rfl ?_
        have hP : va_P G.1 vwCl (wMs q G.2 st20) H := hP
        have hD : va_D A (wMs q G.2 st20) := hD
        refine lv_iconst (v := 3) hx hb d15_18_34 (by decide) ?_
        cases h
        exact fin_i hx hb hr hlk hS () rfl hP hD (Nat.le_of_ble_eq_true rfl) (Nat.le_of_ble_eq_true rfl) d15_18_35
  ·
    replace h := (if_pos c4).symm.trans h
    refine lv_aload_n hx hb d15_18_11 rfl (lv_at hl 1 rfl) ?_
    obtain ⟨st23, hc, h⟩ := ob h
    refine sV_v (As := []) (rest := []) ⟨hx, hb, hml, hown, hts⟩ (cm_string l G Zd q st st23 hc _) (kw_V (n := 0) hts k1328 k1325 k15 k1327 ks42 (by decide +kernel) ⟨Nat.le_of_ble_eq_true rfl, Nat.le_of_ble_eq_true rfl⟩) hP hD hK hS hA hZ (va_recv (ci := 13) (q0 := 0) hK hP rfl rfl) rfl hl.1 rfl (Nat.le_of_ble_eq_true rfl) d15_18_12 ⟨Nat.le_of_ble_eq_true rfl, Nat.le_of_ble_eq_true rfl⟩ (fun u9 H locs hp hP hD hS => ?_)
    clear u9
    clear hp
    clear hc
    refine W.eq (g2 := F0 m 15 ls []) rfl ?_
    have hP : va_P G.1 vwCl (wMs q G.2 st23) H := hP
    have hD : va_D A (wMs q G.2 st23) := hD
    refine lv_iconst (v := 4) hx hb d15_18_15 (by decide) ?_
    cases h
    exact fin_i hx hb hr hlk hS () rfl hP hD (Nat.le_of_ble_eq_true rfl) (Nat.le_of_ble_eq_true rfl) d15_18_16
def m_begins (st : MS) : Option (Int32 × MS) := if (st.1 3) = (24 : Int32) then ((m_fault st).bind fun st43 => some ((0 : Int32), st43)) else ((m_sees (91 : Int32) st).bind fun x2 => if x2 = (0 : Int32) then ((m_sees (123 : Int32) st).bind fun x19 => if x19 = (0 : Int32) then ((m_plain st).bind fun r38 => (m_node r38.1 (r38.2.2.1 0) (r38.2.2.1 1) r38.2).bind fun st40 => some ((0 : Int32), st40)) else (if (st.1 4) = (4 : Int32) then ((m_fault st).bind fun st34 => some ((0 : Int32), st34)) else ((some ((st.1 1) + 1)).bind fun y24 => (ix 5 (st.1 4)).bind fun k25z => (some ((st.1 4) + 1)).bind fun y26 => (if x2 = (0 : Int32) then (some (6 : Int32)) else (some (5 : Int32))).bind fun e28 => (m_node e28 (0 : Int64) (0 : Int64) (upd (upd st.1 1 y24) 4 y26, st.2.1, va_up st.2.2.1 3 (upd (st.2.2.1 3) k25z (st.1 3)), st.2.2.2)).bind fun st31 => some ((1 : Int32), st31)))) else (if (st.1 4) = (4 : Int32) then ((m_fault st).bind fun st17 => some ((0 : Int32), st17)) else ((some ((st.1 1) + 1)).bind fun y7 => (ix 5 (st.1 4)).bind fun k8z => (some ((st.1 4) + 1)).bind fun y9 => (if x2 = (0 : Int32) then (some (6 : Int32)) else (some (5 : Int32))).bind fun e11 => (m_node e11 (0 : Int64) (0 : Int64) (upd (upd st.1 1 y7) 4 y9, st.2.1, va_up st.2.2.1 3 (upd (st.2.2.1 3) k8z (st.1 3)), st.2.2.2)).bind fun st14 => some ((1 : Int32), st14))))
set_option maxHeartbeats 4000000 in
set_option maxRecDepth 100000 in
theorem cm_begins (l : Launch) (G : Gk) (Zd : Nat → Nat) (q : Nat → Nat) (st : MS) (r0 : Int32) (st0 : MS) (hm : m_begins st = some (r0, st0)) (sz : Nat) : Met l y15_25 (Cond.code y15_25 prog_15_method_25_code 3 (some .boolean) :: TB) (rmD 5 0 0) (va_Pc [.ref (q 0)] (pcW G Zd (wMs q G.2 st) sz)) (qI G (fun rr (_ : Unit) => rr = r0) (fun _ => (wMs q G.2 st0)) (va_A (wMs q G.2 st) sz)) 0 0 (va_A (wMs q G.2 st) sz) := by
  refine go (y := y15_25) (cc := prog_15_method_25_code) (maxL := 3) (ret := (some .boolean)) (av := [.ref (q 0)]) (Qc := qI G (fun rr (_ : Unit) => rr = r0) (fun _ => (wMs q G.2 st0))) "PagedValuesModel" rfl (by decide) (Nat.le_of_ble_eq_true rfl) ?_
  intro p e s m below meth c ls A hx hb hr hlk hml hown hts hin hl hP hD hK hS hA hZ
  have hl : lv_has ls 3 [(0, .ref (q 0))] := hl
  have h := hm
  clear hm
  refine lv_aload_n hx hb d15_25_0 rfl (lv_at hl 0 rfl) ?_
  refine va_get (D := G.1) (ci := 13) (v := .int (st.1 3)) (C := r_13) (T := f_13) (N := 42) (ref := "PagedValuesModel") hx hb hts (fun w h => List.mem_cons_of_mem _ (ly_13 w h)) hown hK hP 0 rfl rfl 10 (by decide) (hts _ (List.mem_cons_of_mem _ k1161)) (fun _ h9 => h9) rfl d15_25_1 ?_
  refine lv_bipush (v := 24) hx hb d15_25_4 (by decide) ?_
  refine lv_icmp_ne (tgt := 15) hx hb d15_25_6 rfl (fun c1 => ?_) (fun c1 => ?_)
  ·
    replace h := (if_neg c1).symm.trans h
    refine lv_aload_n hx hb d15_25_15 rfl (lv_at hl 0 rfl) ?_
    refine lv_bipush (v := 91) hx hb d15_25_16 (by decide) ?_
    obtain ⟨x2, hc, h⟩ := ob h
    refine sV_i (As := [.int 91]) (rest := []) ⟨hx, hb, hml, hown, hts⟩ (cm_sees l G Zd q (91 : Int32) st x2 hc _) (kw_V (n := 1) hts k1301 k1298 k15 k1300 ks36 (by decide +kernel) ⟨Nat.le_of_ble_eq_true rfl, Nat.le_of_ble_eq_true rfl⟩) hP hD hK hS hA hZ (va_recv (ci := 13) (q0 := 0) hK hP rfl rfl) rfl hl.1 rfl (Nat.le_of_ble_eq_true rfl) d15_25_18 ⟨Nat.le_of_ble_eq_true rfl, Nat.le_of_ble_eq_true rfl⟩ (fun rr u9 H locs hp hP hD hS => ?_)
    clear u9
    subst rr
    clear hc
    refine W.eq (g2 := F0 m 21 ls [.int x2]) rfl ?_
    have hP : va_P G.1 vwCl (wMs q G.2 st) H := hP
    have hD : va_D A (wMs q G.2 st) := hD
    refine lv_istore_n (lv' := [(1, .int x2), (0, .ref (q 0))]) hx hb d15_25_21 rfl hl (by decide) rfl (fun ls hl => ?_)
    refine lv_iload_n hx hb d15_25_22 rfl (lv_at hl 0 rfl) ?_
    refine lv_if_ne (tgt := 55) hx hb d15_25_23 rfl (fun c5 => ?_) (fun c5 => ?_)
    ·
      replace h := (if_neg c5).symm.trans h
      refine lv_aload_n hx hb d15_25_55 rfl (lv_at hl 1 rfl) ?_
      refine va_get (D := G.1) (ci := 13) (v := .int (st.1 4)) (C := r_13) (T := f_13) (N := 42) (ref := "PagedValuesModel") hx hb hts (fun w h => List.mem_cons_of_mem _ (ly_13 w h)) hown hK hP 0 rfl rfl 13 (by decide) (hts _ (List.mem_cons_of_mem _ k1164)) (fun _ h9 => h9) rfl d15_25_56 ?_
      refine lv_iconst (v := 4) hx hb d15_25_59 (by decide) ?_
      refine lv_icmp_ne (tgt := 69) hx hb d15_25_60 rfl (fun c6 => ?_) (fun c6 => ?_)
      ·
        replace h := (if_neg c6).symm.trans h
        refine lv_aload_n hx hb d15_25_69 rfl (lv_at hl 1 rfl) ?_
        refine lv_dup hx hb d15_25_70 rfl ?_
        refine va_get (D := G.1) (ci := 13) (v := .int (st.1 1)) (C := r_13) (T := f_13) (N := 42) (ref := "PagedValuesModel") hx hb hts (fun w h => List.mem_cons_of_mem _ (ly_13 w h)) hown hK hP 0 rfl rfl 2 (by decide) (hts _ (List.mem_cons_of_mem _ k1153)) (fun _ h9 => h9) rfl d15_25_71 ?_
        refine lv_iconst (v := 1) hx hb d15_25_74 (by decide) ?_
        refine lv_iadd hx hb d15_25_75 ?_
        obtain ⟨y7, hr, h⟩ := ob h
        refine lv_topi (fun y9 ey => ?_)
        have e9 := ey.trans (Option.some.inj hr)
        clear ey
        subst y9
        clear hr
        refine va_put (D := G.1) (ci := 13) (v := .int y7) (ty := .int) (C := r_13) (T := f_13) (N := 42) (ref := "PagedValuesModel") hx hb hts (fun w h => List.mem_cons_of_mem _ (ly_13 w h)) ft_13 ft_13_ok nm_13 hown hK hP hD hS 0 rfl rfl 2 (by decide) (hts _ (List.mem_cons_of_mem _ k1153)) (fun _ h9 => h9) rfl (by decide +kernel) rfl rfl (Nat.le_of_ble_eq_true rfl) d15_25_76 (fun H locs hP hD hS => ?_)
        have hP : va_P G.1 vwCl (wMs q G.2 (upd st.1 1 y7, st.2.1, st.2.2.1, st.2.2.2)) H := hP
        have hD : va_D A (wMs q G.2 (upd st.1 1 y7, st.2.1, st.2.2.1, st.2.2.2)) := hD
        refine lv_aload_n hx hb d15_25_79 rfl (lv_at hl 1 rfl) ?_
        refine va_get (D := G.1) (ci := 13) (v := .ref (q 8)) (C := r_13) (T := f_13) (N := 42) (ref := "PagedValuesModel") hx hb hts (fun w h => List.mem_cons_of_mem _ (ly_13 w h)) hown hK hP 0 rfl rfl 14 (by decide) (hts _ (List.mem_cons_of_mem _ k1165)) (fun _ h9 => h9) rfl d15_25_80 ?_
        refine lv_aload_n hx hb d15_25_83 rfl (lv_at hl 1 rfl) ?_
        refine va_get (D := G.1) (ci := 13) (v := .int (st.1 4)) (C := r_13) (T := f_13) (N := 42) (ref := "PagedValuesModel") hx hb hts (fun w h => List.mem_cons_of_mem _ (ly_13 w h)) hown hK hP 0 rfl rfl 13 (by decide) (hts _ (List.mem_cons_of_mem _ k1164)) (fun _ h9 => h9) rfl d15_25_84 ?_
        refine lv_aload_n hx hb d15_25_87 rfl (lv_at hl 1 rfl) ?_
        refine va_get (D := G.1) (ci := 13) (v := .int (st.1 3)) (C := r_13) (T := f_13) (N := 42) (ref := "PagedValuesModel") hx hb hts (fun w h => List.mem_cons_of_mem _ (ly_13 w h)) hown hK hP 0 rfl rfl 10 (by decide) (hts _ (List.mem_cons_of_mem _ k1161)) (fun _ h9 => h9) rfl d15_25_88 ?_
        obtain ⟨k8z, hr, h⟩ := ob h
        obtain ⟨hi, hk⟩ := ix_some hr
        clear hr
        refine va_iast (D := G.1) hx hb hK hP hD hS 8 1 rfl rfl (i := st.1 4) (x := st.1 3) hi d15_25_91 (fun H locs hP hD hS => ?_)
        rw [hk] at hP hD
        clear hk hi
        have hP : va_P G.1 vwCl (wMs q G.2 (upd st.1 1 y7, st.2.1, va_up st.2.2.1 3 (upd (st.2.2.1 3) k8z (st.1 3)), st.2.2.2)) H := hP
        have hD : va_D A (wMs q G.2 (upd st.1 1 y7, st.2.1, va_up st.2.2.1 3 (upd (st.2.2.1 3) k8z (st.1 3)), st.2.2.2)) := hD
        refine lv_aload_n hx hb d15_25_92 rfl (lv_at hl 1 rfl) ?_
        refine lv_dup hx hb d15_25_93 rfl ?_
        refine va_get (D := G.1) (ci := 13) (v := .int (st.1 4)) (C := r_13) (T := f_13) (N := 42) (ref := "PagedValuesModel") hx hb hts (fun w h => List.mem_cons_of_mem _ (ly_13 w h)) hown hK hP 0 rfl rfl 13 (by decide) (hts _ (List.mem_cons_of_mem _ k1164)) (fun _ h9 => h9) rfl d15_25_94 ?_
        refine lv_iconst (v := 1) hx hb d15_25_97 (by decide) ?_
        refine lv_iadd hx hb d15_25_98 ?_
        obtain ⟨y9, hr, h⟩ := ob h
        refine lv_topi (fun y9 ey => ?_)
        have e9 := ey.trans (Option.some.inj hr)
        clear ey
        subst y9
        clear hr
        refine va_put (D := G.1) (ci := 13) (v := .int y9) (ty := .int) (C := r_13) (T := f_13) (N := 42) (ref := "PagedValuesModel") hx hb hts (fun w h => List.mem_cons_of_mem _ (ly_13 w h)) ft_13 ft_13_ok nm_13 hown hK hP hD hS 0 rfl rfl 13 (by decide) (hts _ (List.mem_cons_of_mem _ k1164)) (fun _ h9 => h9) rfl (by decide +kernel) rfl rfl (Nat.le_of_ble_eq_true rfl) d15_25_99 (fun H locs hP hD hS => ?_)
        have hP : va_P G.1 vwCl (wMs q G.2 (upd (upd st.1 1 y7) 4 y9, st.2.1, va_up st.2.2.1 3 (upd (st.2.2.1 3) k8z (st.1 3)), st.2.2.2)) H := hP
        have hD : va_D A (wMs q G.2 (upd (upd st.1 1 y7) 4 y9, st.2.1, va_up st.2.2.1 3 (upd (st.2.2.1 3) k8z (st.1 3)), st.2.2.2)) := hD
        refine lv_aload_n hx hb d15_25_102 rfl (lv_at hl 1 rfl) ?_
        refine lv_iload_n hx hb d15_25_103 rfl (lv_at hl 0 rfl) ?_
        obtain ⟨e11, hX, h⟩ := ob h
        have hj : ∀ (H : Heap) (locs : List Loc) (ls : Array Slot), lv_has ls 3 [(0, .ref (q 0)), (1, .int x2)] → va_P G.1 vwCl (wMs q G.2 (upd (upd st.1 1 y7) 4 y9, st.2.1, va_up st.2.2.1 3 (upd (st.2.2.1 3) k8z (st.1 3)), st.2.2.2)) H → va_D A (wMs q G.2 (upd (upd st.1 1 y7) 4 y9, st.2.1, va_up st.2.2.1 3 (upd (st.2.2.1 3) k8z (st.1 3)), st.2.2.2)) → va_S A s.heap H locs → W p l e (rmD 5 0 0) s m ([.ref (q 0)] : List Value).toArray below meth c H locs 0 0 (MQ below (qI G (fun rr (_ : Unit) => rr = r0) (fun _ => (wMs q G.2 st0)) A) ([.ref (q 0)] : List Value).toArray s 0 0 A) (F0 m 113 ls [.int e11, .ref (q 0)]) := by
          intro H locs ls hl hP hD hS
          refine lv_lconst (v := 0) hx hb d15_25_113 (by decide) ?_
          refine lv_lconst (v := 0) hx hb d15_25_114 (by decide) ?_
          obtain ⟨st14, hc, h⟩ := ob h
          refine sV_v (As := [.int e11, .long 0, .long 0]) (rest := []) ⟨hx, hb, hml, hown, hts⟩ (cm_node l G Zd q e11 (0 : Int64) (0 : Int64) (upd (upd st.1 1 y7) 4 y9, st.2.1, va_up st.2.2.1 3 (upd (st.2.2.1 3) k8z (st.1 3)), st.2.2.2) st14 hc _) (kw_V (n := 3) hts k1372 k1369 k15 k1371 ks51 (by decide +kernel) ⟨Nat.le_of_ble_eq_true rfl, Nat.le_of_ble_eq_true rfl⟩) hP hD hK hS hA hZ (va_recv (ci := 13) (q0 := 0) hK hP rfl rfl) rfl hl.1 rfl (Nat.le_of_ble_eq_true rfl) d15_25_115 ⟨Nat.le_of_ble_eq_true rfl, Nat.le_of_ble_eq_true rfl⟩ (fun u9 H locs hp hP hD hS => ?_)
          clear u9
          clear hp
          clear hc
          refine W.eq (g2 := F0 m 118 ls []) rfl ?_
          have hP : va_P G.1 vwCl (wMs q G.2 st14) H := hP
          have hD : va_D A (wMs q G.2 st14) := hD
          refine lv_iconst (v := 1) hx hb d15_25_118 (by decide) ?_
          cases h
          exact fin_z hx hb hr hlk (by decide) hS () rfl hP hD (Nat.le_of_ble_eq_true rfl) (Nat.le_of_ble_eq_true rfl) d15_25_119
        clear h
        refine lv_if_eq (tgt := 111) hx hb d15_25_104 rfl (fun c10 => ?_) (fun c10 => ?_)
        ·
          replace h := (if_pos c10).symm.trans hX
          refine lv_bipush (v := 6) hx hb d15_25_111 (by decide) ?_
          have e9 := Option.some.inj h
          subst e11
          have hl := lv_sub hl (l' := [(0, .ref (q 0)), (1, .int x2)]) [1, 0] rfl
          exact hj _ _ _ hl hP hD hS
        ·
          replace h := (if_neg c10).symm.trans hX
          refine lv_iconst (v := 5) hx hb d15_25_107 (by decide) ?_
          refine lv_goto (tgt := 113) hx hb d15_25_108 rfl ?_
          have e9 := Option.some.inj h
          subst e11
          have hl := lv_sub hl (l' := [(0, .ref (q 0)), (1, .int x2)]) [1, 0] rfl
          exact hj _ _ _ hl hP hD hS
      ·
        replace h := (if_pos c6).symm.trans h
        refine lv_aload_n hx hb d15_25_63 rfl (lv_at hl 1 rfl) ?_
        obtain ⟨st17, hc, h⟩ := ob h
        refine sV_v (As := []) (rest := []) ⟨hx, hb, hml, hown, hts⟩ (cm_fault l G Zd q st st17 hc _) (kw_V (n := 0) hts k1320 k1317 k15 k1319 ks40 (by decide +kernel) ⟨Nat.le_of_ble_eq_true rfl, Nat.le_of_ble_eq_true rfl⟩) hP hD hK hS hA hZ (va_recv (ci := 13) (q0 := 0) hK hP rfl rfl) rfl hl.1 rfl (Nat.le_of_ble_eq_true rfl) d15_25_64 ⟨Nat.le_of_ble_eq_true rfl, Nat.le_of_ble_eq_true rfl⟩ (fun u9 H locs hp hP hD hS => ?_)
        clear u9
        clear hp
        clear hc
        refine W.eq (g2 := F0 m 67 ls []) rfl ?_
        have hP : va_P G.1 vwCl (wMs q G.2 st17) H := hP
        have hD : va_D A (wMs q G.2 st17) := hD
        refine lv_iconst (v := 0) hx hb d15_25_67 (by decide) ?_
        cases h
        exact fin_z hx hb hr hlk (by decide) hS () rfl hP hD (Nat.le_of_ble_eq_true rfl) (Nat.le_of_ble_eq_true rfl) d15_25_68
    ·
      replace h := (if_pos c5).symm.trans h
      refine lv_aload_n hx hb d15_25_26 rfl (lv_at hl 1 rfl) ?_
      refine lv_bipush (v := 123) hx hb d15_25_27 (by decide) ?_
      obtain ⟨x19, hc, h⟩ := ob h
      refine sV_i (As := [.int 123]) (rest := []) ⟨hx, hb, hml, hown, hts⟩ (cm_sees l G Zd q (123 : Int32) st x19 hc _) (kw_V (n := 1) hts k1301 k1298 k15 k1300 ks36 (by decide +kernel) ⟨Nat.le_of_ble_eq_true rfl, Nat.le_of_ble_eq_true rfl⟩) hP hD hK hS hA hZ (va_recv (ci := 13) (q0 := 0) hK hP rfl rfl) rfl hl.1 rfl (Nat.le_of_ble_eq_true rfl) d15_25_29 ⟨Nat.le_of_ble_eq_true rfl, Nat.le_of_ble_eq_true rfl⟩ (fun rr u9 H locs hp hP hD hS => ?_)
      clear u9
      subst rr
      clear hc
      refine W.eq (g2 := F0 m 32 ls [.int x19]) rfl ?_
      have hP : va_P G.1 vwCl (wMs q G.2 st) H := hP
      have hD : va_D A (wMs q G.2 st) := hD
      refine lv_if_ne (tgt := 55) hx hb d15_25_32 rfl (fun c22 => ?_) (fun c22 => ?_)
      ·
        replace h := (if_neg c22).symm.trans h
        refine lv_aload_n hx hb d15_25_55 rfl (lv_at hl 1 rfl) ?_
        refine va_get (D := G.1) (ci := 13) (v := .int (st.1 4)) (C := r_13) (T := f_13) (N := 42) (ref := "PagedValuesModel") hx hb hts (fun w h => List.mem_cons_of_mem _ (ly_13 w h)) hown hK hP 0 rfl rfl 13 (by decide) (hts _ (List.mem_cons_of_mem _ k1164)) (fun _ h9 => h9) rfl d15_25_56 ?_
        refine lv_iconst (v := 4) hx hb d15_25_59 (by decide) ?_
        refine lv_icmp_ne (tgt := 69) hx hb d15_25_60 rfl (fun c23 => ?_) (fun c23 => ?_)
        ·
          replace h := (if_neg c23).symm.trans h
          refine lv_aload_n hx hb d15_25_69 rfl (lv_at hl 1 rfl) ?_
          refine lv_dup hx hb d15_25_70 rfl ?_
          refine va_get (D := G.1) (ci := 13) (v := .int (st.1 1)) (C := r_13) (T := f_13) (N := 42) (ref := "PagedValuesModel") hx hb hts (fun w h => List.mem_cons_of_mem _ (ly_13 w h)) hown hK hP 0 rfl rfl 2 (by decide) (hts _ (List.mem_cons_of_mem _ k1153)) (fun _ h9 => h9) rfl d15_25_71 ?_
          refine lv_iconst (v := 1) hx hb d15_25_74 (by decide) ?_
          refine lv_iadd hx hb d15_25_75 ?_
          obtain ⟨y24, hr, h⟩ := ob h
          refine lv_topi (fun y9 ey => ?_)
          have e9 := ey.trans (Option.some.inj hr)
          clear ey
          subst y9
          clear hr
          refine va_put (D := G.1) (ci := 13) (v := .int y24) (ty := .int) (C := r_13) (T := f_13) (N := 42) (ref := "PagedValuesModel") hx hb hts (fun w h => List.mem_cons_of_mem _ (ly_13 w h)) ft_13 ft_13_ok nm_13 hown hK hP hD hS 0 rfl rfl 2 (by decide) (hts _ (List.mem_cons_of_mem _ k1153)) (fun _ h9 => h9) rfl (by decide +kernel) rfl rfl (Nat.le_of_ble_eq_true rfl) d15_25_76 (fun H locs hP hD hS => ?_)
          have hP : va_P G.1 vwCl (wMs q G.2 (upd st.1 1 y24, st.2.1, st.2.2.1, st.2.2.2)) H := hP
          have hD : va_D A (wMs q G.2 (upd st.1 1 y24, st.2.1, st.2.2.1, st.2.2.2)) := hD
          refine lv_aload_n hx hb d15_25_79 rfl (lv_at hl 1 rfl) ?_
          refine va_get (D := G.1) (ci := 13) (v := .ref (q 8)) (C := r_13) (T := f_13) (N := 42) (ref := "PagedValuesModel") hx hb hts (fun w h => List.mem_cons_of_mem _ (ly_13 w h)) hown hK hP 0 rfl rfl 14 (by decide) (hts _ (List.mem_cons_of_mem _ k1165)) (fun _ h9 => h9) rfl d15_25_80 ?_
          refine lv_aload_n hx hb d15_25_83 rfl (lv_at hl 1 rfl) ?_
          refine va_get (D := G.1) (ci := 13) (v := .int (st.1 4)) (C := r_13) (T := f_13) (N := 42) (ref := "PagedValuesModel") hx hb hts (fun w h => List.mem_cons_of_mem _ (ly_13 w h)) hown hK hP 0 rfl rfl 13 (by decide) (hts _ (List.mem_cons_of_mem _ k1164)) (fun _ h9 => h9) rfl d15_25_84 ?_
          refine lv_aload_n hx hb d15_25_87 rfl (lv_at hl 1 rfl) ?_
          refine va_get (D := G.1) (ci := 13) (v := .int (st.1 3)) (C := r_13) (T := f_13) (N := 42) (ref := "PagedValuesModel") hx hb hts (fun w h => List.mem_cons_of_mem _ (ly_13 w h)) hown hK hP 0 rfl rfl 10 (by decide) (hts _ (List.mem_cons_of_mem _ k1161)) (fun _ h9 => h9) rfl d15_25_88 ?_
          obtain ⟨k25z, hr, h⟩ := ob h
          obtain ⟨hi, hk⟩ := ix_some hr
          clear hr
          refine va_iast (D := G.1) hx hb hK hP hD hS 8 1 rfl rfl (i := st.1 4) (x := st.1 3) hi d15_25_91 (fun H locs hP hD hS => ?_)
          rw [hk] at hP hD
          clear hk hi
          have hP : va_P G.1 vwCl (wMs q G.2 (upd st.1 1 y24, st.2.1, va_up st.2.2.1 3 (upd (st.2.2.1 3) k25z (st.1 3)), st.2.2.2)) H := hP
          have hD : va_D A (wMs q G.2 (upd st.1 1 y24, st.2.1, va_up st.2.2.1 3 (upd (st.2.2.1 3) k25z (st.1 3)), st.2.2.2)) := hD
          refine lv_aload_n hx hb d15_25_92 rfl (lv_at hl 1 rfl) ?_
          refine lv_dup hx hb d15_25_93 rfl ?_
          refine va_get (D := G.1) (ci := 13) (v := .int (st.1 4)) (C := r_13) (T := f_13) (N := 42) (ref := "PagedValuesModel") hx hb hts (fun w h => List.mem_cons_of_mem _ (ly_13 w h)) hown hK hP 0 rfl rfl 13 (by decide) (hts _ (List.mem_cons_of_mem _ k1164)) (fun _ h9 => h9) rfl d15_25_94 ?_
          refine lv_iconst (v := 1) hx hb d15_25_97 (by decide) ?_
          refine lv_iadd hx hb d15_25_98 ?_
          obtain ⟨y26, hr, h⟩ := ob h
          refine lv_topi (fun y9 ey => ?_)
          have e9 := ey.trans (Option.some.inj hr)
          clear ey
          subst y9
          clear hr
          refine va_put (D := G.1) (ci := 13) (v := .int y26) (ty := .int) (C := r_13) (T := f_13) (N := 42) (ref := "PagedValuesModel") hx hb hts (fun w h => List.mem_cons_of_mem _ (ly_13 w h)) ft_13 ft_13_ok nm_13 hown hK hP hD hS 0 rfl rfl 13 (by decide) (hts _ (List.mem_cons_of_mem _ k1164)) (fun _ h9 => h9) rfl (by decide +kernel) rfl rfl (Nat.le_of_ble_eq_true rfl) d15_25_99 (fun H locs hP hD hS => ?_)
          have hP : va_P G.1 vwCl (wMs q G.2 (upd (upd st.1 1 y24) 4 y26, st.2.1, va_up st.2.2.1 3 (upd (st.2.2.1 3) k25z (st.1 3)), st.2.2.2)) H := hP
          have hD : va_D A (wMs q G.2 (upd (upd st.1 1 y24) 4 y26, st.2.1, va_up st.2.2.1 3 (upd (st.2.2.1 3) k25z (st.1 3)), st.2.2.2)) := hD
          refine lv_aload_n hx hb d15_25_102 rfl (lv_at hl 1 rfl) ?_
          refine lv_iload_n hx hb d15_25_103 rfl (lv_at hl 0 rfl) ?_
          obtain ⟨e28, hX, h⟩ := ob h
          have hj : ∀ (H : Heap) (locs : List Loc) (ls : Array Slot), lv_has ls 3 [(0, .ref (q 0)), (1, .int x2)] → va_P G.1 vwCl (wMs q G.2 (upd (upd st.1 1 y24) 4 y26, st.2.1, va_up st.2.2.1 3 (upd (st.2.2.1 3) k25z (st.1 3)), st.2.2.2)) H → va_D A (wMs q G.2 (upd (upd st.1 1 y24) 4 y26, st.2.1, va_up st.2.2.1 3 (upd (st.2.2.1 3) k25z (st.1 3)), st.2.2.2)) → va_S A s.heap H locs → W p l e (rmD 5 0 0) s m ([.ref (q 0)] : List Value).toArray below meth c H locs 0 0 (MQ below (qI G (fun rr (_ : Unit) => rr = r0) (fun _ => (wMs q G.2 st0)) A) ([.ref (q 0)] : List Value).toArray s 0 0 A) (F0 m 113 ls [.int e28, .ref (q 0)]) := by
            intro H locs ls hl hP hD hS
            refine lv_lconst (v := 0) hx hb d15_25_113 (by decide) ?_
            refine lv_lconst (v := 0) hx hb d15_25_114 (by decide) ?_
            obtain ⟨st31, hc, h⟩ := ob h
            refine sV_v (As := [.int e28, .long 0, .long 0]) (rest := []) ⟨hx, hb, hml, hown, hts⟩ (cm_node l G Zd q e28 (0 : Int64) (0 : Int64) (upd (upd st.1 1 y24) 4 y26, st.2.1, va_up st.2.2.1 3 (upd (st.2.2.1 3) k25z (st.1 3)), st.2.2.2) st31 hc _) (kw_V (n := 3) hts k1372 k1369 k15 k1371 ks51 (by decide +kernel) ⟨Nat.le_of_ble_eq_true rfl, Nat.le_of_ble_eq_true rfl⟩) hP hD hK hS hA hZ (va_recv (ci := 13) (q0 := 0) hK hP rfl rfl) rfl hl.1 rfl (Nat.le_of_ble_eq_true rfl) d15_25_115 ⟨Nat.le_of_ble_eq_true rfl, Nat.le_of_ble_eq_true rfl⟩ (fun u9 H locs hp hP hD hS => ?_)
            clear u9
            clear hp
            clear hc
            refine W.eq (g2 := F0 m 118 ls []) rfl ?_
            have hP : va_P G.1 vwCl (wMs q G.2 st31) H := hP
            have hD : va_D A (wMs q G.2 st31) := hD
            refine lv_iconst (v := 1) hx hb d15_25_118 (by decide) ?_
            cases h
            exact fin_z hx hb hr hlk (by decide) hS () rfl hP hD (Nat.le_of_ble_eq_true rfl) (Nat.le_of_ble_eq_true rfl) d15_25_119
          clear h
          refine lv_if_eq (tgt := 111) hx hb d15_25_104 rfl (fun c27 => ?_) (fun c27 => ?_)
          ·
            replace h := (if_pos c27).symm.trans hX
            refine lv_bipush (v := 6) hx hb d15_25_111 (by decide) ?_
            have e9 := Option.some.inj h
            subst e28
            have hl := lv_sub hl (l' := [(0, .ref (q 0)), (1, .int x2)]) [1, 0] rfl
            exact hj _ _ _ hl hP hD hS
          ·
            replace h := (if_neg c27).symm.trans hX
            refine lv_iconst (v := 5) hx hb d15_25_107 (by decide) ?_
            refine lv_goto (tgt := 113) hx hb d15_25_108 rfl ?_
            have e9 := Option.some.inj h
            subst e28
            have hl := lv_sub hl (l' := [(0, .ref (q 0)), (1, .int x2)]) [1, 0] rfl
            exact hj _ _ _ hl hP hD hS
        ·
          replace h := (if_pos c23).symm.trans h
          refine lv_aload_n hx hb d15_25_63 rfl (lv_at hl 1 rfl) ?_
          obtain ⟨st34, hc, h⟩ := ob h
          refine sV_v (As := []) (rest := []) ⟨hx, hb, hml, hown, hts⟩ (cm_fault l G Zd q st st34 hc _) (kw_V (n := 0) hts k1320 k1317 k15 k1319 ks40 (by decide +kernel) ⟨Nat.le_of_ble_eq_true rfl, Nat.le_of_ble_eq_true rfl⟩) hP hD hK hS hA hZ (va_recv (ci := 13) (q0 := 0) hK hP rfl rfl) rfl hl.1 rfl (Nat.le_of_ble_eq_true rfl) d15_25_64 ⟨Nat.le_of_ble_eq_true rfl, Nat.le_of_ble_eq_true rfl⟩ (fun u9 H locs hp hP hD hS => ?_)
          clear u9
          clear hp
          clear hc
          refine W.eq (g2 := F0 m 67 ls []) rfl ?_
          have hP : va_P G.1 vwCl (wMs q G.2 st34) H := hP
          have hD : va_D A (wMs q G.2 st34) := hD
          refine lv_iconst (v := 0) hx hb d15_25_67 (by decide) ?_
          cases h
          exact fin_z hx hb hr hlk (by decide) hS () rfl hP hD (Nat.le_of_ble_eq_true rfl) (Nat.le_of_ble_eq_true rfl) d15_25_68
      ·
        replace h := (if_pos c22).symm.trans h
        refine lv_aload_n hx hb d15_25_35 rfl (lv_at hl 1 rfl) ?_
        obtain ⟨⟨x36, st37⟩, hc, h⟩ := ob h
        refine sV_i (As := []) (rest := []) ⟨hx, hb, hml, hown, hts⟩ (cm_plain l G Zd q st x36 st37 hc _) (kw_V (n := 0) hts k1324 k1321 k15 k1323 ks41 (by decide +kernel) ⟨Nat.le_of_ble_eq_true rfl, Nat.le_of_ble_eq_true rfl⟩) hP hD hK hS hA hZ (va_recv (ci := 13) (q0 := 0) hK hP rfl rfl) rfl hl.1 rfl (Nat.le_of_ble_eq_true rfl) d15_25_36 ⟨Nat.le_of_ble_eq_true rfl, Nat.le_of_ble_eq_true rfl⟩ (fun rr u9 H locs hp hP hD hS => ?_)
        clear u9
        subst rr
        clear hc
        refine W.eq (g2 := F0 m 39 ls [.int x36]) rfl ?_
        have hP : va_P G.1 vwCl (wMs q G.2 st37) H := hP
        have hD : va_D A (wMs q G.2 st37) := hD
        refine lv_istore_n (lv' := [(2, .int x36), (1, .int x2), (0, .ref (q 0))]) hx hb d15_25_39 rfl hl (by decide) rfl (fun ls hl => ?_)
        refine lv_aload_n hx hb d15_25_40 rfl (lv_at hl 2 rfl) ?_
        refine lv_iload_n hx hb d15_25_41 rfl (lv_at hl 0 rfl) ?_
        refine lv_aload_n hx hb d15_25_42 rfl (lv_at hl 2 rfl) ?_
        refine va_get (D := G.1) (ci := 13) (v := .long (st37.2.1 0)) (C := r_13) (T := f_13) (N := 42) (ref := "PagedValuesModel") hx hb hts (fun w h => List.mem_cons_of_mem _ (ly_13 w h)) hown hK hP 0 rfl rfl 11 (by decide) (hts _ (List.mem_cons_of_mem _ k1162)) (fun _ h9 => h9) rfl d15_25_43 ?_
        refine lv_aload_n hx hb d15_25_46 rfl (lv_at hl 2 rfl) ?_
        refine va_get (D := G.1) (ci := 13) (v := .long (st37.2.1 1)) (C := r_13) (T := f_13) (N := 42) (ref := "PagedValuesModel") hx hb hts (fun w h => List.mem_cons_of_mem _ (ly_13 w h)) hown hK hP 0 rfl rfl 12 (by decide) (hts _ (List.mem_cons_of_mem _ k1163)) (fun _ h9 => h9) rfl d15_25_47 ?_
        obtain ⟨st40, hc, h⟩ := ob h
        refine sV_v (As := [.int x36, .long (st37.2.1 0), .long (st37.2.1 1)]) (rest := []) ⟨hx, hb, hml, hown, hts⟩ (cm_node l G Zd q x36 (st37.2.1 0) (st37.2.1 1) st37 st40 hc _) (kw_V (n := 3) hts k1372 k1369 k15 k1371 ks51 (by decide +kernel) ⟨Nat.le_of_ble_eq_true rfl, Nat.le_of_ble_eq_true rfl⟩) hP hD hK hS hA hZ (va_recv (ci := 13) (q0 := 0) hK hP rfl rfl) rfl hl.1 rfl (Nat.le_of_ble_eq_true rfl) d15_25_50 ⟨Nat.le_of_ble_eq_true rfl, Nat.le_of_ble_eq_true rfl⟩ (fun u9 H locs hp hP hD hS => ?_)
        clear u9
        clear hp
        clear hc
        refine W.eq (g2 := F0 m 53 ls []) rfl ?_
        have hP : va_P G.1 vwCl (wMs q G.2 st40) H := hP
        have hD : va_D A (wMs q G.2 st40) := hD
        refine lv_iconst (v := 0) hx hb d15_25_53 (by decide) ?_
        cases h
        exact fin_z hx hb hr hlk (by decide) hS () rfl hP hD (Nat.le_of_ble_eq_true rfl) (Nat.le_of_ble_eq_true rfl) d15_25_54
  ·
    replace h := (if_pos c1).symm.trans h
    refine lv_aload_n hx hb d15_25_9 rfl (lv_at hl 0 rfl) ?_
    obtain ⟨st43, hc, h⟩ := ob h
    refine sV_v (As := []) (rest := []) ⟨hx, hb, hml, hown, hts⟩ (cm_fault l G Zd q st st43 hc _) (kw_V (n := 0) hts k1320 k1317 k15 k1319 ks40 (by decide +kernel) ⟨Nat.le_of_ble_eq_true rfl, Nat.le_of_ble_eq_true rfl⟩) hP hD hK hS hA hZ (va_recv (ci := 13) (q0 := 0) hK hP rfl rfl) rfl hl.1 rfl (Nat.le_of_ble_eq_true rfl) d15_25_10 ⟨Nat.le_of_ble_eq_true rfl, Nat.le_of_ble_eq_true rfl⟩ (fun u9 H locs hp hP hD hS => ?_)
    clear u9
    clear hp
    clear hc
    refine W.eq (g2 := F0 m 13 ls []) rfl ?_
    have hP : va_P G.1 vwCl (wMs q G.2 st43) H := hP
    have hD : va_D A (wMs q G.2 st43) := hD
    refine lv_iconst (v := 0) hx hb d15_25_13 (by decide) ?_
    cases h
    exact fin_z hx hb hr hlk (by decide) hS () rfl hP hD (Nat.le_of_ble_eq_true rfl) (Nat.le_of_ble_eq_true rfl) d15_25_14
def m_holder (st : MS) : Option (Int32) := (m_at (80 : Int32)).bind fun x1 => (some ((st.1 4) - 1)).bind fun y4 => (rd (st.2.2.1 3) 5 y4).bind fun x5 => (some (x1 + x5)).bind fun y6 => (rd (st.2.2.1 1) 2100 y6).bind fun x7 => some x7
set_option maxHeartbeats 4000000 in
set_option maxRecDepth 100000 in
theorem cm_holder (l : Launch) (G : Gk) (Zd : Nat → Nat) (q : Nat → Nat) (st : MS) (r0 : Int32) (hm : m_holder st = some r0) (sz : Nat) : Met l y15_27 (Cond.code y15_27 prog_15_method_27_code 1 (some .int) :: TB) (rmD 1 0 0) (va_Pc [.ref (q 0)] (pcW G Zd (wMs q G.2 st) sz)) (qI G (fun rr (_ : Unit) => rr = r0) (fun _ => (wMs q G.2 st)) (va_A (wMs q G.2 st) sz)) 0 0 (va_A (wMs q G.2 st) sz) := by
  refine go (y := y15_27) (cc := prog_15_method_27_code) (maxL := 1) (ret := (some .int)) (av := [.ref (q 0)]) (Qc := qI G (fun rr (_ : Unit) => rr = r0) (fun _ => (wMs q G.2 st))) "PagedValuesModel" rfl (by decide) (Nat.le_of_ble_eq_true rfl) ?_
  intro p e s m below meth c ls A hx hb hr hlk hml hown hts hin hl hP hD hK hS hA hZ
  have hl : lv_has ls 1 [(0, .ref (q 0))] := hl
  have h := hm
  clear hm
  refine lv_aload_n hx hb d15_27_0 rfl (lv_at hl 0 rfl) ?_
  refine va_get (D := G.1) (ci := 13) (v := .ref (q 2)) (C := r_13) (T := f_13) (N := 42) (ref := "PagedValuesModel") hx hb hts (fun w h => List.mem_cons_of_mem _ (ly_13 w h)) hown hK hP 0 rfl rfl 4 (by decide) (hts _ (List.mem_cons_of_mem _ k1155)) (fun _ h9 => h9) rfl d15_27_1 ?_
  refine lv_bipush (v := 80) hx hb d15_27_4 (by decide) ?_
  obtain ⟨x1, hc, h⟩ := ob h
  refine sS_i (As := [.int 80]) (rest := [.ref (q 2)]) ⟨hx, hb, hml, hown, hts⟩ (cm_at l G Zd _ (80 : Int32) x1 hc _) (kw_S (n := 1) hts k1312 k1310 k15 k1311 (by decide +kernel) ⟨Nat.le_of_ble_eq_true rfl, Nat.le_of_ble_eq_true rfl⟩) hP hD hK hS hA hZ rfl hl.1 rfl (Nat.le_of_ble_eq_true rfl) d15_27_6 ⟨Nat.le_of_ble_eq_true rfl, Nat.le_of_ble_eq_true rfl⟩ (fun rr u9 H locs hp hP hD hS => ?_)
  clear u9
  subst rr
  clear hc
  refine W.eq (g2 := F0 m 9 ls [.int x1, .ref (q 2)]) rfl ?_
  have hP : va_P G.1 vwCl (wMs q G.2 st) H := hP
  have hD : va_D A (wMs q G.2 st) := hD
  refine lv_aload_n hx hb d15_27_9 rfl (lv_at hl 0 rfl) ?_
  refine va_get (D := G.1) (ci := 13) (v := .ref (q 8)) (C := r_13) (T := f_13) (N := 42) (ref := "PagedValuesModel") hx hb hts (fun w h => List.mem_cons_of_mem _ (ly_13 w h)) hown hK hP 0 rfl rfl 14 (by decide) (hts _ (List.mem_cons_of_mem _ k1165)) (fun _ h9 => h9) rfl d15_27_10 ?_
  refine lv_aload_n hx hb d15_27_13 rfl (lv_at hl 0 rfl) ?_
  refine va_get (D := G.1) (ci := 13) (v := .int (st.1 4)) (C := r_13) (T := f_13) (N := 42) (ref := "PagedValuesModel") hx hb hts (fun w h => List.mem_cons_of_mem _ (ly_13 w h)) hown hK hP 0 rfl rfl 13 (by decide) (hts _ (List.mem_cons_of_mem _ k1164)) (fun _ h9 => h9) rfl d15_27_14 ?_
  refine lv_iconst (v := 1) hx hb d15_27_17 (by decide) ?_
  refine lv_isub hx hb d15_27_18 ?_
  obtain ⟨y4, hr, h⟩ := ob h
  refine lv_topi (fun y9 ey => ?_)
  have e9 := ey.trans (Option.some.inj hr)
  clear ey
  subst y9
  clear hr
  obtain ⟨x5, hr, h⟩ := ob h
  obtain ⟨hi, hv⟩ := rd_some hr
  refine va_iald (D := G.1) hx hb hK hP 8 1 rfl rfl (i := y4) hi d15_27_19 ?_
  refine lv_topi (fun y9 ey => ?_)
  have e9 := ey.trans hv
  clear ey
  subst y9
  clear hv hi hr
  refine lv_iadd hx hb d15_27_20 ?_
  obtain ⟨y6, hr, h⟩ := ob h
  refine lv_topi (fun y9 ey => ?_)
  have e9 := ey.trans (Option.some.inj hr)
  clear ey
  subst y9
  clear hr
  obtain ⟨x7, hr, h⟩ := ob h
  obtain ⟨hi, hv⟩ := rd_some hr
  refine va_bald (D := G.1) hx hb hK hP 2 2 rfl rfl (i := y6) hi d15_27_21 ?_
  refine lv_topi (fun y9 ey => ?_)
  have e9 := ey.trans hv
  clear ey
  subst y9
  clear hv hi hr
  cases h
  exact fin_i hx hb hr hlk hS () rfl hP hD (Nat.le_of_ble_eq_true rfl) (Nat.le_of_ble_eq_true rfl) d15_27_22
def m_member_l1 (a0 : Int32) (a1 : Int64) (a2 : Int64) (st : MS) : Nat → (Int32 × Int32) → Option (Int32 × Int32)
  | 0, _ => none
  | n9 + 1, e9 => (rd (st.2.2.1 2) 2100 a0).bind fun x8 => (some (a0 + x8)).bind fun y9 => if y9 ≤ e9.2 then (some (e9.1, e9.2)) else ((rd (st.2.2.2 2) 2100 e9.2).bind fun x11 => (some (lg_cmp x11 a1)).bind fun y12 => (if y12 = (0 : Int32) then ((rd (st.2.2.2 3) 2100 e9.2).bind fun x18 => (some (lg_cmp x18 a2)).bind fun y19 => if y19 = (0 : Int32) then (some e9.2) else (some e9.1)) else (some e9.1)).bind fun e14 => (rd (st.2.2.1 2) 2100 e9.2).bind fun x16 => (some (e9.2 + x16)).bind fun y17 => m_member_l1 a0 a1 a2 st n9 (e14, y17))
theorem m_member_l1_s (a0 : Int32) (a1 : Int64) (a2 : Int64) (st : MS) (n9 : Nat) (e9 : Int32 × Int32) : m_member_l1 a0 a1 a2 st (n9 + 1) e9 = ((rd (st.2.2.1 2) 2100 a0).bind fun x8 => (some (a0 + x8)).bind fun y9 => if y9 ≤ e9.2 then (some (e9.1, e9.2)) else ((rd (st.2.2.2 2) 2100 e9.2).bind fun x11 => (some (lg_cmp x11 a1)).bind fun y12 => (if y12 = (0 : Int32) then ((rd (st.2.2.2 3) 2100 e9.2).bind fun x18 => (some (lg_cmp x18 a2)).bind fun y19 => if y19 = (0 : Int32) then (some e9.2) else (some e9.1)) else (some e9.1)).bind fun e14 => (rd (st.2.2.1 2) 2100 e9.2).bind fun x16 => (some (e9.2 + x16)).bind fun y17 => m_member_l1 a0 a1 a2 st n9 (e14, y17))) := rfl
def m_member (a0 : Int32) (a1 : Int64) (a2 : Int64) (st : MS) : Option (Int32) := (some (a0 + 1)).bind fun y1 => (m_member_l1 a0 a1 a2 st 4096 (((-1) : Int32), y1)).bind fun e2 => some e2.1
set_option maxHeartbeats 4000000 in
set_option maxRecDepth 100000 in
theorem cm_member (l : Launch) (G : Gk) (Zd : Nat → Nat) (q : Nat → Nat) (a0 : Int32) (a1 : Int64) (a2 : Int64) (st : MS) (r0 : Int32) (hm : m_member a0 a1 a2 st = some r0) (sz : Nat) : Met l y15_22 (Cond.code y15_22 prog_15_method_22_code 8 (some .int) :: TB) (rmD 0 0 0) (va_Pc [.ref (q 0), .int a0, .long a1, .long a2] (pcW G Zd (wMs q G.2 st) sz)) (qI G (fun rr (_ : Unit) => rr = r0) (fun _ => (wMs q G.2 st)) (va_A (wMs q G.2 st) sz)) 0 0 (va_A (wMs q G.2 st) sz) := by
  refine go (y := y15_22) (cc := prog_15_method_22_code) (maxL := 8) (ret := (some .int)) (av := [.ref (q 0), .int a0, .long a1, .long a2]) (Qc := qI G (fun rr (_ : Unit) => rr = r0) (fun _ => (wMs q G.2 st))) "PagedValuesModel" rfl (by decide) (Nat.le_of_ble_eq_true rfl) ?_
  intro p e s m below meth c ls A hx hb hr hlk hml hown hts hin hl hP hD hK hS hA hZ
  have hl : lv_has ls 8 [(0, .ref (q 0)), (1, .int a0), (2, .long a1), (4, .long a2)] := hl
  have h := hm
  clear hm
  refine lv_iconst (v := (-1)) hx hb d15_22_0 (by decide) ?_
  refine lv_istore (lv' := [(6, .int (-1)), (0, .ref (q 0)), (1, .int a0), (2, .long a1), (4, .long a2)]) hx hb d15_22_1 hl (by decide) rfl (fun ls hl => ?_)
  refine lv_iload_n hx hb d15_22_3 rfl (lv_at hl 2 rfl) ?_
  refine lv_iconst (v := 1) hx hb d15_22_4 (by decide) ?_
  refine lv_iadd hx hb d15_22_5 ?_
  obtain ⟨y1, hr, h⟩ := ob h
  refine lv_topi (fun y9 ey => ?_)
  have e9 := ey.trans (Option.some.inj hr)
  clear ey
  subst y9
  clear hr
  refine lv_istore (lv' := [(7, .int y1), (6, .int (-1)), (0, .ref (q 0)), (1, .int a0), (2, .long a1), (4, .long a2)]) hx hb d15_22_6 hl (by decide) rfl (fun ls hl => ?_)
  obtain ⟨e2, hX, hrest⟩ := ob h
  clear h
  have hj : ∀ (v6 : Int32) (v7 : Int32), e2 = (v6, v7) → ∀ (H : Heap) (locs : List Loc) (ls : Array Slot), lv_has ls 8 [(0, .ref (q 0)), (1, .int a0), (2, .long a1), (4, .long a2), (6, .int v6), (7, .int v7)] → va_P G.1 vwCl (wMs q G.2 st) H → va_D A (wMs q G.2 st) → va_S A s.heap H locs → W p l e (rmD 0 0 0) s m ([.ref (q 0), .int a0, .long a1, .long a2] : List Value).toArray below meth c H locs 0 0 (MQ below (qI G (fun rr (_ : Unit) => rr = r0) (fun _ => (wMs q G.2 st)) A) ([.ref (q 0), .int a0, .long a1, .long a2] : List Value).toArray s 0 0 A) (F0 m 70 ls []) := by
    intro v6 v7 he H locs ls hl hP hD hS
    subst e2
    have h := hrest
    refine lv_iload hx hb d15_22_70 (lv_at hl 4 rfl) ?_
    cases h
    exact fin_i hx hb hr hlk hS () rfl hP hD (Nat.le_of_ble_eq_true rfl) (Nat.le_of_ble_eq_true rfl) d15_22_72
  have hloop : ∀ (n9 : Nat) (v3 : Int32) (v4 : Int32), m_member_l1 a0 a1 a2 st n9 (v3, v4) = some e2 → ∀ (H : Heap) (locs : List Loc) (ls : Array Slot), lv_has ls 8 [(0, .ref (q 0)), (1, .int a0), (2, .long a1), (4, .long a2), (6, .int v3), (7, .int v4)] → va_P G.1 vwCl (wMs q G.2 st) H → va_D A (wMs q G.2 st) → va_S A s.heap H locs → W p l e (rmD 0 0 0) s m ([.ref (q 0), .int a0, .long a1, .long a2] : List Value).toArray below meth c H locs 0 0 (MQ below (qI G (fun rr (_ : Unit) => rr = r0) (fun _ => (wMs q G.2 st)) A) ([.ref (q 0), .int a0, .long a1, .long a2] : List Value).toArray s 0 0 A) (F0 m 8 ls []) := by
    intro n9
    induction n9 with
    | zero =>
      intro v3 v4 h
      cases h
    | succ n9 ih =>
      intro v3 v4 h H locs ls hl hP hD hS
      replace h := (m_member_l1_s a0 a1 a2 st n9 (v3, v4)).symm.trans h
      refine lv_iload hx hb d15_22_8 (lv_at hl 5 rfl) ?_
      refine lv_iload_n hx hb d15_22_10 rfl (lv_at hl 1 rfl) ?_
      refine lv_aload_n hx hb d15_22_11 rfl (lv_at hl 0 rfl) ?_
      refine va_get (D := G.1) (ci := 13) (v := .ref (q 3)) (C := r_13) (T := f_13) (N := 42) (ref := "PagedValuesModel") hx hb hts (fun w h => List.mem_cons_of_mem _ (ly_13 w h)) hown hK hP 0 rfl rfl 5 (by decide) (hts _ (List.mem_cons_of_mem _ k1156)) (fun _ h9 => h9) rfl d15_22_12 ?_
      refine lv_iload_n hx hb d15_22_15 rfl (lv_at hl 1 rfl) ?_
      obtain ⟨x8, hr, h⟩ := ob h
      obtain ⟨hi, hv⟩ := rd_some hr
      refine va_bald (D := G.1) hx hb hK hP 3 2 rfl rfl (i := a0) hi d15_22_16 ?_
      refine lv_topi (fun y9 ey => ?_)
      have e9 := ey.trans hv
      clear ey
      subst y9
      clear hv hi hr
      refine lv_iadd hx hb d15_22_17 ?_
      obtain ⟨y9, hr, h⟩ := ob h
      refine lv_topi (fun y9 ey => ?_)
      have e9 := ey.trans (Option.some.inj hr)
      clear ey
      subst y9
      clear hr
      refine lv_icmp_ge (tgt := 70) hx hb d15_22_18 rfl (fun c10 => ?_) (fun c10 => ?_)
      ·
        replace h := (if_pos c10).symm.trans h
        have e9 := Option.some.inj h
        subst e2
        have hl := lv_sub hl (l' := [(0, .ref (q 0)), (1, .int a0), (2, .long a1), (4, .long a2), (6, .int v3), (7, .int v4)]) [0, 1, 2, 3, 4, 5] rfl
        exact hj _ _ rfl _ _ _ hl hP hD hS
      ·
        replace h := (if_neg c10).symm.trans h
        refine lv_aload_n hx hb d15_22_21 rfl (lv_at hl 0 rfl) ?_
        refine va_get (D := G.1) (ci := 13) (v := .ref (q 6)) (C := r_13) (T := f_13) (N := 42) (ref := "PagedValuesModel") hx hb hts (fun w h => List.mem_cons_of_mem _ (ly_13 w h)) hown hK hP 0 rfl rfl 8 (by decide) (hts _ (List.mem_cons_of_mem _ k1159)) (fun _ h9 => h9) rfl d15_22_22 ?_
        refine lv_iload hx hb d15_22_25 (lv_at hl 5 rfl) ?_
        obtain ⟨x11, hr, h⟩ := ob h
        obtain ⟨hi, hv⟩ := rd_some hr
        refine va_lald (D := G.1) hx hb hK hP 6 4 rfl rfl (i := v4) hi d15_22_27 ?_
        refine lv_topl (fun y9 ey => ?_)
        have e9 := ey.trans hv
        clear ey
        subst y9
        clear hv hi hr
        refine lv_lload_n hx hb d15_22_28 rfl (lv_at hl 2 rfl) ?_
        refine W.lcmp hx hb d15_22_29 ?_
        obtain ⟨y12, hr, h⟩ := ob h
        refine lv_topi (fun y9 ey => ?_)
        have e9 := ey.trans (Option.some.inj hr)
        clear ey
        subst y9
        clear hr
        obtain ⟨e14, hX, h⟩ := ob h
        have hj : ∀ (H : Heap) (locs : List Loc) (ls : Array Slot), lv_has ls 8 [(0, .ref (q 0)), (1, .int a0), (2, .long a1), (4, .long a2), (6, .int v3), (7, .int v4)] → va_P G.1 vwCl (wMs q G.2 st) H → va_D A (wMs q G.2 st) → va_S A s.heap H locs → W p l e (rmD 0 0 0) s m ([.ref (q 0), .int a0, .long a1, .long a2] : List Value).toArray below meth c H locs 0 0 (MQ below (qI G (fun rr (_ : Unit) => rr = r0) (fun _ => (wMs q G.2 st)) A) ([.ref (q 0), .int a0, .long a1, .long a2] : List Value).toArray s 0 0 A) (F0 m 53 ls [.int e14]) := by
          intro H locs ls hl hP hD hS
          refine lv_istore (lv' := [(6, .int e14), (0, .ref (q 0)), (1, .int a0), (2, .long a1), (4, .long a2), (7, .int v4)]) hx hb d15_22_53 hl (by decide) rfl (fun ls hl => ?_)
          refine lv_iload hx hb d15_22_55 (lv_at hl 5 rfl) ?_
          refine lv_aload_n hx hb d15_22_57 rfl (lv_at hl 1 rfl) ?_
          refine va_get (D := G.1) (ci := 13) (v := .ref (q 3)) (C := r_13) (T := f_13) (N := 42) (ref := "PagedValuesModel") hx hb hts (fun w h => List.mem_cons_of_mem _ (ly_13 w h)) hown hK hP 0 rfl rfl 5 (by decide) (hts _ (List.mem_cons_of_mem _ k1156)) (fun _ h9 => h9) rfl d15_22_58 ?_
          refine lv_iload hx hb d15_22_61 (lv_at hl 5 rfl) ?_
          obtain ⟨x16, hr, h⟩ := ob h
          obtain ⟨hi, hv⟩ := rd_some hr
          refine va_bald (D := G.1) hx hb hK hP 3 2 rfl rfl (i := v4) hi d15_22_63 ?_
          refine lv_topi (fun y9 ey => ?_)
          have e9 := ey.trans hv
          clear ey
          subst y9
          clear hv hi hr
          refine lv_iadd hx hb d15_22_64 ?_
          obtain ⟨y17, hr, h⟩ := ob h
          refine lv_topi (fun y9 ey => ?_)
          have e9 := ey.trans (Option.some.inj hr)
          clear ey
          subst y9
          clear hr
          refine lv_istore (lv' := [(7, .int y17), (6, .int e14), (0, .ref (q 0)), (1, .int a0), (2, .long a1), (4, .long a2)]) hx hb d15_22_65 hl (by decide) rfl (fun ls hl => ?_)
          refine lv_goto (tgt := 8) hx hb d15_22_67 rfl ?_
          have hl := lv_sub hl (l' := [(0, .ref (q 0)), (1, .int a0), (2, .long a1), (4, .long a2), (6, .int e14), (7, .int y17)]) [2, 3, 4, 5, 1, 0] rfl
          exact ih _ _ h _ _ _ hl hP hD hS
        clear h
        refine lv_if_ne (tgt := 51) hx hb d15_22_30 rfl (fun c13 => ?_) (fun c13 => ?_)
        ·
          replace h := (if_neg c13).symm.trans hX
          refine lv_iload hx hb d15_22_51 (lv_at hl 4 rfl) ?_
          have e9 := Option.some.inj h
          subst e14
          have hl := lv_sub hl (l' := [(0, .ref (q 0)), (1, .int a0), (2, .long a1), (4, .long a2), (6, .int v3), (7, .int v4)]) [0, 1, 2, 3, 4, 5] rfl
          exact hj _ _ _ hl hP hD hS
        ·
          replace h := (if_pos c13).symm.trans hX
          refine lv_aload_n hx hb d15_22_33 rfl (lv_at hl 0 rfl) ?_
          refine va_get (D := G.1) (ci := 13) (v := .ref (q 7)) (C := r_13) (T := f_13) (N := 42) (ref := "PagedValuesModel") hx hb hts (fun w h => List.mem_cons_of_mem _ (ly_13 w h)) hown hK hP 0 rfl rfl 9 (by decide) (hts _ (List.mem_cons_of_mem _ k1160)) (fun _ h9 => h9) rfl d15_22_34 ?_
          refine lv_iload hx hb d15_22_37 (lv_at hl 5 rfl) ?_
          obtain ⟨x18, hr, h⟩ := ob h
          obtain ⟨hi, hv⟩ := rd_some hr
          refine va_lald (D := G.1) hx hb hK hP 7 4 rfl rfl (i := v4) hi d15_22_39 ?_
          refine lv_topl (fun y9 ey => ?_)
          have e9 := ey.trans hv
          clear ey
          subst y9
          clear hv hi hr
          refine lv_lload hx hb d15_22_40 (lv_at hl 3 rfl) ?_
          refine W.lcmp hx hb d15_22_42 ?_
          obtain ⟨y19, hr, h⟩ := ob h
          refine lv_topi (fun y9 ey => ?_)
          have e9 := ey.trans (Option.some.inj hr)
          clear ey
          subst y9
          clear hr
          refine lv_if_ne (tgt := 51) hx hb d15_22_43 rfl (fun c20 => ?_) (fun c20 => ?_)
          ·
            replace h := (if_neg c20).symm.trans h
            refine lv_iload hx hb d15_22_51 (lv_at hl 4 rfl) ?_
            have e9 := Option.some.inj h
            subst e14
            have hl := lv_sub hl (l' := [(0, .ref (q 0)), (1, .int a0), (2, .long a1), (4, .long a2), (6, .int v3), (7, .int v4)]) [0, 1, 2, 3, 4, 5] rfl
            exact hj _ _ _ hl hP hD hS
          ·
            replace h := (if_pos c20).symm.trans h
            refine lv_iload hx hb d15_22_46 (lv_at hl 5 rfl) ?_
            refine lv_goto (tgt := 53) hx hb d15_22_48 rfl ?_
            have e9 := Option.some.inj h
            subst e14
            have hl := lv_sub hl (l' := [(0, .ref (q 0)), (1, .int a0), (2, .long a1), (4, .long a2), (6, .int v3), (7, .int v4)]) [0, 1, 2, 3, 4, 5] rfl
            exact hj _ _ _ hl hP hD hS
  have hl := lv_sub hl (l' := [(0, .ref (q 0)), (1, .int a0), (2, .long a1), (4, .long a2), (6, .int (-1)), (7, .int y1)]) [2, 3, 4, 5, 1, 0] rfl
  exact hloop _ _ _ hX _ _ _ hl hP hD hS
