/-! Pure functions of the model's methods, and that the methods do what they say. -/
abbrev MS : Type := (Nat → Int32) × (Nat → Int64) × (Nat → Nat → Int32) × (Nat → Nat → Int64)
abbrev wMs (q : Nat → Nat) (k : Nat → ClassId) (st : MS) : va_W := wM q k st.1 st.2.1 st.2.2.1 st.2.2.2
theorem ob {α β : Type} {x : Option α} {f : α → Option β} {b : β} (h : x.bind f = some b) : ∃ a, x = some a ∧ f a = some b := by
  cases x with
  | none => cases h
  | some a => exact ⟨a, rfl, h⟩
def rd {α : Type} (f : Nat → α) (n : Nat) (i : Int32) : Option α := if i < 0 ∨ n ≤ i.toNatClampNeg then none else some (f i.toNatClampNeg)
theorem rd_some {α : Type} {f : Nat → α} {n : Nat} {i : Int32} {x : α} (h : rd f n i = some x) : vp_in i n ∧ f i.toNatClampNeg = x := by
  unfold rd at h
  by_cases c : i < 0 ∨ n ≤ i.toNatClampNeg
  · rw [if_pos c] at h; cases h
  · rw [if_neg c] at h; exact ⟨c, Option.some.inj h⟩
def ix (n : Nat) (i : Int32) : Option Nat := if i < 0 ∨ n ≤ i.toNatClampNeg then none else some i.toNatClampNeg
theorem ix_some {n : Nat} {i : Int32} {k : Nat} (h : ix n i = some k) : vp_in i n ∧ i.toNatClampNeg = k := by
  unfold ix at h
  by_cases c : i < 0 ∨ n ≤ i.toNatClampNeg
  · rw [if_pos c] at h; cases h
  · rw [if_neg c] at h; exact ⟨c, Option.some.inj h⟩
def ck (n : Nat) (i : Int32) : Option Unit := if i < 0 ∨ n ≤ i.toNatClampNeg then none else some ()
theorem ck_some {n : Nat} {i : Int32} {x : Unit} (h : ck n i = some x) : vp_in i n := by
  unfold ck at h
  by_cases c : i < 0 ∨ n ≤ i.toNatClampNeg
  · rw [if_pos c] at h; cases h
  · exact c
def bz (v : Int32) : Option Unit := if v = 0 ∨ v = 1 then some () else none
theorem bz_some {v : Int32} {x : Unit} (h : bz v = some x) : v = 0 ∨ v = 1 := by
  unfold bz at h
  by_cases c : v = 0 ∨ v = 1
  · exact c
  · rw [if_neg c] at h; cases h
theorem nar01 {v : Int32} (h : v = 0 ∨ v = 1) : narrow .boolean (.int v) = .int v := by
  rcases h with rfl | rfl <;> decide
theorem fit01 {v : Int32} (h : v = 0 ∨ v = 1) : fits .boolean (.int v) = true := by
  rcases h with rfl | rfl <;> decide
def nz (y : Int32) : Option Unit := if y = 0 then none else some ()
theorem nz_some {y : Int32} {x : Unit} (h : nz y = some x) : ¬ y = 0 := by
  unfold nz at h
  by_cases c : y = 0
  · rw [if_pos c] at h; cases h
  · exact c

theorem d15_61_0 : decode prog_15_method_61_code 0 = .ok (.aload_n 0, 1) := by decide +kernel
theorem d15_61_1 : decode prog_15_method_61_code 1 = .ok (.getfield 308, 3) := by decide +kernel
theorem k1191 : (Jvm.Cond.fieldLink "PagedValuesModel" (308 : Nat) "PagedValuesModel" "down" "Z") ∈ TB := tk_5 231 rfl rfl
theorem d15_61_4 : decode prog_15_method_61_code 4 = .ok (.ifCond .ne 12, 3) := by decide +kernel
theorem d15_61_16 : decode prog_15_method_61_code 16 = .ok (.aload_n 0, 1) := by decide +kernel
theorem d15_61_17 : decode prog_15_method_61_code 17 = .ok (.getfield 308, 3) := by decide +kernel
theorem d15_61_20 : decode prog_15_method_61_code 20 = .ok (.ifCond .eq 8, 3) := by decide +kernel
theorem d15_61_28 : decode prog_15_method_61_code 28 = .ok (.iconst (-1), 1) := by decide +kernel
theorem d15_61_23 : decode prog_15_method_61_code 23 = .ok (.bipush (-9), 2) := by decide +kernel
theorem d15_61_25 : decode prog_15_method_61_code 25 = .ok (.goto 4, 3) := by decide +kernel
theorem d15_61_29 : decode prog_15_method_61_code 29 = .ok (.ireturn, 1) := by decide +kernel
theorem d15_61_7 : decode prog_15_method_61_code 7 = .ok (.aload_n 0, 1) := by decide +kernel
theorem d15_61_8 : decode prog_15_method_61_code 8 = .ok (.getfield 108, 3) := by decide +kernel
theorem k1152 : (Jvm.Cond.fieldLink "PagedValuesModel" (108 : Nat) "PagedValuesModel" "length" "I") ∈ TB := tk_5 192 rfl rfl
theorem d15_61_11 : decode prog_15_method_61_code 11 = .ok (.bipush 80, 2) := by decide +kernel
theorem d15_61_13 : decode prog_15_method_61_code 13 = .ok (.if_icmp .ne 17, 3) := by decide +kernel
theorem d15_61_30 : decode prog_15_method_61_code 30 = .ok (.aload_n 0, 1) := by decide +kernel
theorem d15_61_31 : decode prog_15_method_61_code 31 = .ok (.getfield 7, 3) := by decide +kernel
theorem d15_61_34 : decode prog_15_method_61_code 34 = .ok (.aload_n 0, 1) := by decide +kernel
theorem d15_61_35 : decode prog_15_method_61_code 35 = .ok (.getfield 108, 3) := by decide +kernel
theorem d15_61_38 : decode prog_15_method_61_code 38 = .ok (.iload_n 1, 1) := by decide +kernel
theorem d15_61_39 : decode prog_15_method_61_code 39 = .ok (.castore, 1) := by decide +kernel
theorem d15_61_40 : decode prog_15_method_61_code 40 = .ok (.aload_n 0, 1) := by decide +kernel
theorem d15_61_41 : decode prog_15_method_61_code 41 = .ok (.dup, 1) := by decide +kernel
theorem d15_61_42 : decode prog_15_method_61_code 42 = .ok (.getfield 108, 3) := by decide +kernel
theorem d15_61_45 : decode prog_15_method_61_code 45 = .ok (.iconst 1, 1) := by decide +kernel
theorem d15_61_46 : decode prog_15_method_61_code 46 = .ok (.iadd, 1) := by decide +kernel
theorem d15_61_47 : decode prog_15_method_61_code 47 = .ok (.putfield 108, 3) := by decide +kernel
theorem d15_61_50 : decode prog_15_method_61_code 50 = .ok (.aload_n 0, 1) := by decide +kernel
theorem d15_61_51 : decode prog_15_method_61_code 51 = .ok (.getfield 108, 3) := by decide +kernel
theorem d15_61_54 : decode prog_15_method_61_code 54 = .ok (.ireturn, 1) := by decide +kernel
def y15_61 : MethodName := { cls := "PagedValuesModel", name := "type", desc := "(C)I" }
def m_type (a0 : Int32) (st : MS) : Option (Int32 × MS) := if (st.1 13) = (0 : Int32) then (if (st.1 0) = (80 : Int32) then ((if (st.1 13) = (0 : Int32) then (some ((-1) : Int32)) else (some ((-9) : Int32))).bind fun e10 => some (e10, st)) else ((ix 80 (st.1 0)).bind fun k6z => (some (vp_nar .char a0)).bind fun y7 => (some ((st.1 0) + 1)).bind fun y8 => some (y8, (upd st.1 0 y8, st.2.1, va_up st.2.2.1 0 (upd (st.2.2.1 0) k6z y7), st.2.2.2)))) else ((if (st.1 13) = (0 : Int32) then (some ((-1) : Int32)) else (some ((-9) : Int32))).bind fun e3 => some (e3, st))
set_option maxHeartbeats 4000000 in
set_option maxRecDepth 100000 in
theorem cm_type (l : Launch) (G : Gk) (Zd : Nat → Nat) (q : Nat → Nat) (a0 : Int32) (st : MS) (r0 : Int32) (st0 : MS) (hm : m_type a0 st = some (r0, st0)) (sz : Nat) : Met l y15_61 (Cond.code y15_61 prog_15_method_61_code 2 (some .int) :: TB) (rmD 0 0 0) (va_Pc [.ref (q 0), .int a0] (pcW G Zd (wMs q G.2 st) sz)) (qI G (fun rr (_ : Unit) => rr = r0) (fun _ => (wMs q G.2 st0)) (va_A (wMs q G.2 st) sz)) 0 0 (va_A (wMs q G.2 st) sz) := by
  refine go (y := y15_61) (cc := prog_15_method_61_code) (maxL := 2) (ret := (some .int)) (av := [.ref (q 0), .int a0]) (Qc := qI G (fun rr (_ : Unit) => rr = r0) (fun _ => (wMs q G.2 st0))) "PagedValuesModel" rfl (by decide) (Nat.le_of_ble_eq_true rfl) ?_
  intro p e s m below meth c ls A hx hb hr hlk hml hown hts hin hl hP hD hK hS hA hZ
  have hl : lv_has ls 2 [(0, .ref (q 0)), (1, .int a0)] := hl
  have h := hm
  clear hm
  refine lv_aload_n hx hb d15_61_0 rfl (lv_at hl 0 rfl) ?_
  refine va_get (D := G.1) (ci := 13) (v := .int (st.1 13)) (C := r_13) (T := f_13) (N := 42) (ref := "PagedValuesModel") hx hb hts (fun w h => List.mem_cons_of_mem _ (ly_13 w h)) hown hK hP 0 rfl rfl 40 (by decide) (hts _ (List.mem_cons_of_mem _ k1191)) (fun _ h9 => h9) rfl d15_61_1 ?_
  refine lv_if_ne (tgt := 16) hx hb d15_61_4 rfl (fun c1 => ?_) (fun c1 => ?_)
  ·
    replace h := (if_neg c1).symm.trans h
    refine lv_aload_n hx hb d15_61_16 rfl (lv_at hl 0 rfl) ?_
    refine va_get (D := G.1) (ci := 13) (v := .int (st.1 13)) (C := r_13) (T := f_13) (N := 42) (ref := "PagedValuesModel") hx hb hts (fun w h => List.mem_cons_of_mem _ (ly_13 w h)) hown hK hP 0 rfl rfl 40 (by decide) (hts _ (List.mem_cons_of_mem _ k1191)) (fun _ h9 => h9) rfl d15_61_17 ?_
    obtain ⟨e3, hX, h⟩ := ob h
    have hj : ∀ (H : Heap) (locs : List Loc) (ls : Array Slot), lv_has ls 2 [(0, .ref (q 0)), (1, .int a0)] → va_P G.1 vwCl (wMs q G.2 st) H → va_D A (wMs q G.2 st) → va_S A s.heap H locs → W p l e (rmD 0 0 0) s m ([.ref (q 0), .int a0] : List Value).toArray below meth c H locs 0 0 (MQ below (qI G (fun rr (_ : Unit) => rr = r0) (fun _ => (wMs q G.2 st0)) A) ([.ref (q 0), .int a0] : List Value).toArray s 0 0 A) (F0 m 29 ls [.int e3]) := by
      intro H locs ls hl hP hD hS
      cases h
      exact fin_i hx hb hr hlk hS () rfl hP hD (Nat.le_of_ble_eq_true rfl) (Nat.le_of_ble_eq_true rfl) d15_61_29
    clear h
    refine lv_if_eq (tgt := 28) hx hb d15_61_20 rfl (fun c2 => ?_) (fun c2 => ?_)
    ·
      replace h := (if_pos c2).symm.trans hX
      refine lv_iconst (v := (-1)) hx hb d15_61_28 (by decide) ?_
      have e9 := Option.some.inj h
      subst e3
      have hl := lv_sub hl (l' := [(0, .ref (q 0)), (1, .int a0)]) [0, 1] rfl
      exact hj _ _ _ hl hP hD hS
    ·
      replace h := (if_neg c2).symm.trans hX
      refine lv_bipush (v := (-9)) hx hb d15_61_23 (by decide) ?_
      refine lv_goto (tgt := 29) hx hb d15_61_25 rfl ?_
      have e9 := Option.some.inj h
      subst e3
      have hl := lv_sub hl (l' := [(0, .ref (q 0)), (1, .int a0)]) [0, 1] rfl
      exact hj _ _ _ hl hP hD hS
  ·
    replace h := (if_pos c1).symm.trans h
    refine lv_aload_n hx hb d15_61_7 rfl (lv_at hl 0 rfl) ?_
    refine va_get (D := G.1) (ci := 13) (v := .int (st.1 0)) (C := r_13) (T := f_13) (N := 42) (ref := "PagedValuesModel") hx hb hts (fun w h => List.mem_cons_of_mem _ (ly_13 w h)) hown hK hP 0 rfl rfl 1 (by decide) (hts _ (List.mem_cons_of_mem _ k1152)) (fun _ h9 => h9) rfl d15_61_8 ?_
    refine lv_bipush (v := 80) hx hb d15_61_11 (by decide) ?_
    refine lv_icmp_ne (tgt := 30) hx hb d15_61_13 rfl (fun c5 => ?_) (fun c5 => ?_)
    ·
      replace h := (if_neg c5).symm.trans h
      refine lv_aload_n hx hb d15_61_30 rfl (lv_at hl 0 rfl) ?_
      refine va_get (D := G.1) (ci := 13) (v := .ref (q 1)) (C := r_13) (T := f_13) (N := 42) (ref := "PagedValuesModel") hx hb hts (fun w h => List.mem_cons_of_mem _ (ly_13 w h)) hown hK hP 0 rfl rfl 0 (by decide) (hts _ (List.mem_cons_of_mem _ k1151)) (fun _ h9 => h9) rfl d15_61_31 ?_
      refine lv_aload_n hx hb d15_61_34 rfl (lv_at hl 0 rfl) ?_
      refine va_get (D := G.1) (ci := 13) (v := .int (st.1 0)) (C := r_13) (T := f_13) (N := 42) (ref := "PagedValuesModel") hx hb hts (fun w h => List.mem_cons_of_mem _ (ly_13 w h)) hown hK hP 0 rfl rfl 1 (by decide) (hts _ (List.mem_cons_of_mem _ k1152)) (fun _ h9 => h9) rfl d15_61_35 ?_
      refine lv_iload_n hx hb d15_61_38 rfl (lv_at hl 1 rfl) ?_
      obtain ⟨k6z, hr, h⟩ := ob h
      obtain ⟨hi, hk⟩ := ix_some hr
      clear hr
      refine va_cast (D := G.1) hx hb hK hP hD hS 1 0 rfl rfl (i := st.1 0) (x := a0) hi d15_61_39 (fun H locs hP hD hS => ?_)
      rw [hk] at hP hD
      clear hk hi
      obtain ⟨y7, hr, h⟩ := ob h
      rw [Option.some.inj hr] at hP hD
      clear hr
      have hP : va_P G.1 vwCl (wMs q G.2 (st.1, st.2.1, va_up st.2.2.1 0 (upd (st.2.2.1 0) k6z y7), st.2.2.2)) H := hP
      have hD : va_D A (wMs q G.2 (st.1, st.2.1, va_up st.2.2.1 0 (upd (st.2.2.1 0) k6z y7), st.2.2.2)) := hD
      refine lv_aload_n hx hb d15_61_40 rfl (lv_at hl 0 rfl) ?_
      refine lv_dup hx hb d15_61_41 rfl ?_
      refine va_get (D := G.1) (ci := 13) (v := .int (st.1 0)) (C := r_13) (T := f_13) (N := 42) (ref := "PagedValuesModel") hx hb hts (fun w h => List.mem_cons_of_mem _ (ly_13 w h)) hown hK hP 0 rfl rfl 1 (by decide) (hts _ (List.mem_cons_of_mem _ k1152)) (fun _ h9 => h9) rfl d15_61_42 ?_
      refine lv_iconst (v := 1) hx hb d15_61_45 (by decide) ?_
      refine lv_iadd hx hb d15_61_46 ?_
      obtain ⟨y8, hr, h⟩ := ob h
      refine lv_topi (fun y9 ey => ?_)
      have e9 := ey.trans (Option.some.inj hr)
      clear ey
      subst y9
      clear hr
      refine va_put (D := G.1) (ci := 13) (v := .int y8) (ty := .int) (C := r_13) (T := f_13) (N := 42) (ref := "PagedValuesModel") hx hb hts (fun w h => List.mem_cons_of_mem _ (ly_13 w h)) ft_13 ft_13_ok nm_13 hown hK hP hD hS 0 rfl rfl 1 (by decide) (hts _ (List.mem_cons_of_mem _ k1152)) (fun _ h9 => h9) rfl (by decide +kernel) rfl rfl (Nat.le_of_ble_eq_true rfl) d15_61_47 (fun H locs hP hD hS => ?_)
      have hP : va_P G.1 vwCl (wMs q G.2 (upd st.1 0 y8, st.2.1, va_up st.2.2.1 0 (upd (st.2.2.1 0) k6z y7), st.2.2.2)) H := hP
      have hD : va_D A (wMs q G.2 (upd st.1 0 y8, st.2.1, va_up st.2.2.1 0 (upd (st.2.2.1 0) k6z y7), st.2.2.2)) := hD
      refine lv_aload_n hx hb d15_61_50 rfl (lv_at hl 0 rfl) ?_
      refine va_get (D := G.1) (ci := 13) (v := .int y8) (C := r_13) (T := f_13) (N := 42) (ref := "PagedValuesModel") hx hb hts (fun w h => List.mem_cons_of_mem _ (ly_13 w h)) hown hK hP 0 rfl rfl 1 (by decide) (hts _ (List.mem_cons_of_mem _ k1152)) (fun _ h9 => h9) rfl d15_61_51 ?_
      cases h
      exact fin_i hx hb hr hlk hS () rfl hP hD (Nat.le_of_ble_eq_true rfl) (Nat.le_of_ble_eq_true rfl) d15_61_54
    ·
      replace h := (if_pos c5).symm.trans h
      refine lv_aload_n hx hb d15_61_16 rfl (lv_at hl 0 rfl) ?_
      refine va_get (D := G.1) (ci := 13) (v := .int (st.1 13)) (C := r_13) (T := f_13) (N := 42) (ref := "PagedValuesModel") hx hb hts (fun w h => List.mem_cons_of_mem _ (ly_13 w h)) hown hK hP 0 rfl rfl 40 (by decide) (hts _ (List.mem_cons_of_mem _ k1191)) (fun _ h9 => h9) rfl d15_61_17 ?_
      obtain ⟨e10, hX, h⟩ := ob h
      have hj : ∀ (H : Heap) (locs : List Loc) (ls : Array Slot), lv_has ls 2 [(0, .ref (q 0)), (1, .int a0)] → va_P G.1 vwCl (wMs q G.2 st) H → va_D A (wMs q G.2 st) → va_S A s.heap H locs → W p l e (rmD 0 0 0) s m ([.ref (q 0), .int a0] : List Value).toArray below meth c H locs 0 0 (MQ below (qI G (fun rr (_ : Unit) => rr = r0) (fun _ => (wMs q G.2 st0)) A) ([.ref (q 0), .int a0] : List Value).toArray s 0 0 A) (F0 m 29 ls [.int e10]) := by
        intro H locs ls hl hP hD hS
        cases h
        exact fin_i hx hb hr hlk hS () rfl hP hD (Nat.le_of_ble_eq_true rfl) (Nat.le_of_ble_eq_true rfl) d15_61_29
      clear h
      refine lv_if_eq (tgt := 28) hx hb d15_61_20 rfl (fun c9 => ?_) (fun c9 => ?_)
      ·
        replace h := (if_pos c9).symm.trans hX
        refine lv_iconst (v := (-1)) hx hb d15_61_28 (by decide) ?_
        have e9 := Option.some.inj h
        subst e10
        have hl := lv_sub hl (l' := [(0, .ref (q 0)), (1, .int a0)]) [0, 1] rfl
        exact hj _ _ _ hl hP hD hS
      ·
        replace h := (if_neg c9).symm.trans hX
        refine lv_bipush (v := (-9)) hx hb d15_61_23 (by decide) ?_
        refine lv_goto (tgt := 29) hx hb d15_61_25 rfl ?_
        have e9 := Option.some.inj h
        subst e10
        have hl := lv_sub hl (l' := [(0, .ref (q 0)), (1, .int a0)]) [0, 1] rfl
        exact hj _ _ _ hl hP hD hS
theorem d15_62_0 : decode prog_15_method_62_code 0 = .ok (.aload_n 0, 1) := by decide +kernel
theorem d15_62_1 : decode prog_15_method_62_code 1 = .ok (.getfield 308, 3) := by decide +kernel
theorem d15_62_4 : decode prog_15_method_62_code 4 = .ok (.ifCond .ne 13, 3) := by decide +kernel
theorem d15_62_17 : decode prog_15_method_62_code 17 = .ok (.aload_n 0, 1) := by decide +kernel
theorem d15_62_18 : decode prog_15_method_62_code 18 = .ok (.getfield 308, 3) := by decide +kernel
theorem d15_62_21 : decode prog_15_method_62_code 21 = .ok (.ifCond .eq 8, 3) := by decide +kernel
theorem d15_62_29 : decode prog_15_method_62_code 29 = .ok (.iconst (-1), 1) := by decide +kernel
theorem d15_62_24 : decode prog_15_method_62_code 24 = .ok (.bipush (-9), 2) := by decide +kernel
theorem d15_62_26 : decode prog_15_method_62_code 26 = .ok (.goto 4, 3) := by decide +kernel
theorem d15_62_30 : decode prog_15_method_62_code 30 = .ok (.ireturn, 1) := by decide +kernel
theorem d15_62_7 : decode prog_15_method_62_code 7 = .ok (.iload_n 1, 1) := by decide +kernel
theorem d15_62_8 : decode prog_15_method_62_code 8 = .ok (.iconst 0, 1) := by decide +kernel
theorem d15_62_9 : decode prog_15_method_62_code 9 = .ok (.bipush 7, 2) := by decide +kernel
theorem d15_2_0 : decode prog_15_method_2_code 0 = .ok (.iload_n 0, 1) := by decide +kernel
theorem d15_2_1 : decode prog_15_method_2_code 1 = .ok (.iload_n 1, 1) := by decide +kernel
theorem d15_2_2 : decode prog_15_method_2_code 2 = .ok (.if_icmp .lt 12, 3) := by decide +kernel
theorem d15_2_14 : decode prog_15_method_2_code 14 = .ok (.iconst 0, 1) := by decide +kernel
theorem d15_2_5 : decode prog_15_method_2_code 5 = .ok (.iload_n 0, 1) := by decide +kernel
theorem d15_2_6 : decode prog_15_method_2_code 6 = .ok (.iload_n 2, 1) := by decide +kernel
theorem d15_2_7 : decode prog_15_method_2_code 7 = .ok (.if_icmp .gt 7, 3) := by decide +kernel
theorem d15_2_10 : decode prog_15_method_2_code 10 = .ok (.iconst 1, 1) := by decide +kernel
theorem d15_2_11 : decode prog_15_method_2_code 11 = .ok (.goto 4, 3) := by decide +kernel
theorem d15_2_15 : decode prog_15_method_2_code 15 = .ok (.ireturn, 1) := by decide +kernel
def y15_2 : MethodName := { cls := "PagedValuesModel", name := "within", desc := "(III)Z" }
theorem k1289 : (Jvm.Cond.code ({ cls := "PagedValuesModel", name := "within", desc := "(III)Z" } : Jvm.MethodName) prog_15_method_2_code (3 : Nat) (Option.some Jvm.ClassFile.FieldType.boolean)) ∈ TB := tk_6 89 rfl rfl
theorem k15 : (Jvm.Cond.initialized "PagedValuesModel") ∈ TB := tk_1 15 rfl rfl
theorem k1287 : (Jvm.Cond.methodLink "PagedValuesModel" (260 : Nat) ({ cls := "PagedValuesModel", name := "within", desc := "(III)Z" } : Jvm.MethodName)) ∈ TB := tk_6 87 rfl rfl
theorem k1288 : (Jvm.Cond.static ({ cls := "PagedValuesModel", name := "within", desc := "(III)Z" } : Jvm.MethodName)) ∈ TB := tk_6 88 rfl rfl
theorem d15_62_11 : decode prog_15_method_62_code 11 = .ok (.invokestatic 260, 3) := by decide +kernel
theorem d15_62_14 : decode prog_15_method_62_code 14 = .ok (.ifCond .ne 17, 3) := by decide +kernel
theorem d15_62_31 : decode prog_15_method_62_code 31 = .ok (.aload_n 0, 1) := by decide +kernel
theorem d15_28_0 : decode prog_15_method_28_code 0 = .ok (.aload_n 0, 1) := by decide +kernel
theorem d15_28_1 : decode prog_15_method_28_code 1 = .ok (.iconst 0, 1) := by decide +kernel
theorem d15_28_2 : decode prog_15_method_28_code 2 = .ok (.putfield 104, 3) := by decide +kernel
theorem k1153 : (Jvm.Cond.fieldLink "PagedValuesModel" (104 : Nat) "PagedValuesModel" "p" "I") ∈ TB := tk_5 193 rfl rfl
theorem d15_28_5 : decode prog_15_method_28_code 5 = .ok (.aload_n 0, 1) := by decide +kernel
theorem d15_28_6 : decode prog_15_method_28_code 6 = .ok (.iconst (-1), 1) := by decide +kernel
theorem d15_28_7 : decode prog_15_method_28_code 7 = .ok (.putfield 111, 3) := by decide +kernel
theorem k1154 : (Jvm.Cond.fieldLink "PagedValuesModel" (111 : Nat) "PagedValuesModel" "bad" "I") ∈ TB := tk_5 194 rfl rfl
theorem d15_28_10 : decode prog_15_method_28_code 10 = .ok (.aload_n 0, 1) := by decide +kernel
theorem d15_28_11 : decode prog_15_method_28_code 11 = .ok (.iconst 0, 1) := by decide +kernel
theorem d15_28_12 : decode prog_15_method_28_code 12 = .ok (.putfield 162, 3) := by decide +kernel
theorem k1161 : (Jvm.Cond.fieldLink "PagedValuesModel" (162 : Nat) "PagedValuesModel" "nodes" "I") ∈ TB := tk_5 201 rfl rfl
theorem d15_28_15 : decode prog_15_method_28_code 15 = .ok (.aload_n 0, 1) := by decide +kernel
theorem d15_28_16 : decode prog_15_method_28_code 16 = .ok (.iconst 0, 1) := by decide +kernel
theorem d15_28_17 : decode prog_15_method_28_code 17 = .ok (.putfield 165, 3) := by decide +kernel
theorem k1164 : (Jvm.Cond.fieldLink "PagedValuesModel" (165 : Nat) "PagedValuesModel" "level" "I") ∈ TB := tk_5 204 rfl rfl
theorem d15_28_20 : decode prog_15_method_28_code 20 = .ok (.aload_n 0, 1) := by decide +kernel
theorem d15_13_49 : decode prog_15_method_13_code 49 = .ok (.return_, 1) := by decide +kernel
theorem d15_13_0 : decode prog_15_method_13_code 0 = .ok (.aload_n 0, 1) := by decide +kernel
theorem d15_13_1 : decode prog_15_method_13_code 1 = .ok (.bipush 32, 2) := by decide +kernel
theorem d15_10_0 : decode prog_15_method_10_code 0 = .ok (.aload_n 0, 1) := by decide +kernel
theorem d15_10_1 : decode prog_15_method_10_code 1 = .ok (.getfield 111, 3) := by decide +kernel
theorem d15_10_4 : decode prog_15_method_10_code 4 = .ok (.ifCond .ge 15, 3) := by decide +kernel
theorem d15_10_19 : decode prog_15_method_10_code 19 = .ok (.iconst 0, 1) := by decide +kernel
theorem d15_10_7 : decode prog_15_method_10_code 7 = .ok (.aload_n 0, 1) := by decide +kernel
theorem d15_7_0 : decode prog_15_method_7_code 0 = .ok (.aload_n 0, 1) := by decide +kernel
theorem d15_7_1 : decode prog_15_method_7_code 1 = .ok (.getfield 104, 3) := by decide +kernel
theorem d15_7_4 : decode prog_15_method_7_code 4 = .ok (.aload_n 0, 1) := by decide +kernel
theorem d15_7_5 : decode prog_15_method_7_code 5 = .ok (.getfield 108, 3) := by decide +kernel
theorem d15_7_8 : decode prog_15_method_7_code 8 = .ok (.if_icmp .ge 15, 3) := by decide +kernel
theorem d15_7_23 : decode prog_15_method_7_code 23 = .ok (.iconst (-1), 1) := by decide +kernel
theorem d15_7_11 : decode prog_15_method_7_code 11 = .ok (.aload_n 0, 1) := by decide +kernel
theorem d15_7_12 : decode prog_15_method_7_code 12 = .ok (.getfield 7, 3) := by decide +kernel
theorem d15_7_15 : decode prog_15_method_7_code 15 = .ok (.aload_n 0, 1) := by decide +kernel
theorem d15_7_16 : decode prog_15_method_7_code 16 = .ok (.getfield 104, 3) := by decide +kernel
theorem d15_7_19 : decode prog_15_method_7_code 19 = .ok (.caload, 1) := by decide +kernel
theorem d15_7_20 : decode prog_15_method_7_code 20 = .ok (.goto 4, 3) := by decide +kernel
theorem d15_7_24 : decode prog_15_method_7_code 24 = .ok (.ireturn, 1) := by decide +kernel
def y15_7 : MethodName := { cls := "PagedValuesModel", name := "here", desc := "()I" }
theorem k1305 : (Jvm.Cond.code ({ cls := "PagedValuesModel", name := "here", desc := "()I" } : Jvm.MethodName) prog_15_method_7_code (1 : Nat) (Option.some Jvm.ClassFile.FieldType.int)) ∈ TB := tk_6 105 rfl rfl
theorem k1302 : (Jvm.Cond.methodLink "PagedValuesModel" (114 : Nat) ({ cls := "PagedValuesModel", name := "here", desc := "()I" } : Jvm.MethodName)) ∈ TB := tk_6 102 rfl rfl
theorem k1304 : (Jvm.Cond.instanceMethod ({ cls := "PagedValuesModel", name := "here", desc := "()I" } : Jvm.MethodName)) ∈ TB := tk_6 104 rfl rfl
theorem ks37 : Cond.selects y15_7.cls y15_7 y15_7 ∈ TB := List.mem_filter.mpr ⟨List.mem_append_left _ (List.mem_of_getElem? (i := 37) (by decide +kernel)), rfl⟩
theorem d15_10_8 : decode prog_15_method_10_code 8 = .ok (.invokevirtual 114, 3) := by decide +kernel
theorem d15_10_11 : decode prog_15_method_10_code 11 = .ok (.iload_n 1, 1) := by decide +kernel
theorem d15_10_12 : decode prog_15_method_10_code 12 = .ok (.if_icmp .ne 7, 3) := by decide +kernel
theorem d15_10_15 : decode prog_15_method_10_code 15 = .ok (.iconst 1, 1) := by decide +kernel
theorem d15_10_16 : decode prog_15_method_10_code 16 = .ok (.goto 4, 3) := by decide +kernel
theorem d15_10_20 : decode prog_15_method_10_code 20 = .ok (.ireturn, 1) := by decide +kernel
def y15_10 : MethodName := { cls := "PagedValuesModel", name := "sees", desc := "(I)Z" }
theorem k1301 : (Jvm.Cond.code ({ cls := "PagedValuesModel", name := "sees", desc := "(I)Z" } : Jvm.MethodName) prog_15_method_10_code (2 : Nat) (Option.some Jvm.ClassFile.FieldType.boolean)) ∈ TB := tk_6 101 rfl rfl
theorem k1298 : (Jvm.Cond.methodLink "PagedValuesModel" (121 : Nat) ({ cls := "PagedValuesModel", name := "sees", desc := "(I)Z" } : Jvm.MethodName)) ∈ TB := tk_6 98 rfl rfl
theorem k1300 : (Jvm.Cond.instanceMethod ({ cls := "PagedValuesModel", name := "sees", desc := "(I)Z" } : Jvm.MethodName)) ∈ TB := tk_6 100 rfl rfl
theorem ks36 : Cond.selects y15_10.cls y15_10 y15_10 ∈ TB := List.mem_filter.mpr ⟨List.mem_append_left _ (List.mem_of_getElem? (i := 36) (by decide +kernel)), rfl⟩
theorem d15_13_3 : decode prog_15_method_13_code 3 = .ok (.invokevirtual 121, 3) := by decide +kernel
theorem d15_13_6 : decode prog_15_method_13_code 6 = .ok (.ifCond .ne 30, 3) := by decide +kernel
theorem d15_13_36 : decode prog_15_method_13_code 36 = .ok (.aload_n 0, 1) := by decide +kernel
theorem d15_13_37 : decode prog_15_method_13_code 37 = .ok (.dup, 1) := by decide +kernel
theorem d15_13_38 : decode prog_15_method_13_code 38 = .ok (.getfield 104, 3) := by decide +kernel
theorem d15_13_41 : decode prog_15_method_13_code 41 = .ok (.iconst 1, 1) := by decide +kernel
theorem d15_13_42 : decode prog_15_method_13_code 42 = .ok (.iadd, 1) := by decide +kernel
theorem d15_13_43 : decode prog_15_method_13_code 43 = .ok (.putfield 104, 3) := by decide +kernel
theorem d15_13_46 : decode prog_15_method_13_code 46 = .ok (.goto (-46), 3) := by decide +kernel
theorem d15_13_9 : decode prog_15_method_13_code 9 = .ok (.aload_n 0, 1) := by decide +kernel
theorem d15_13_10 : decode prog_15_method_13_code 10 = .ok (.bipush 9, 2) := by decide +kernel
theorem d15_13_12 : decode prog_15_method_13_code 12 = .ok (.invokevirtual 121, 3) := by decide +kernel
theorem d15_13_15 : decode prog_15_method_13_code 15 = .ok (.ifCond .ne 21, 3) := by decide +kernel
theorem d15_13_18 : decode prog_15_method_13_code 18 = .ok (.aload_n 0, 1) := by decide +kernel
theorem d15_13_19 : decode prog_15_method_13_code 19 = .ok (.bipush 10, 2) := by decide +kernel
theorem d15_13_21 : decode prog_15_method_13_code 21 = .ok (.invokevirtual 121, 3) := by decide +kernel
theorem d15_13_24 : decode prog_15_method_13_code 24 = .ok (.ifCond .ne 12, 3) := by decide +kernel
theorem d15_13_27 : decode prog_15_method_13_code 27 = .ok (.aload_n 0, 1) := by decide +kernel
theorem d15_13_28 : decode prog_15_method_13_code 28 = .ok (.bipush 13, 2) := by decide +kernel
theorem d15_13_30 : decode prog_15_method_13_code 30 = .ok (.invokevirtual 121, 3) := by decide +kernel
theorem d15_13_33 : decode prog_15_method_13_code 33 = .ok (.ifCond .eq 16, 3) := by decide +kernel
def y15_13 : MethodName := { cls := "PagedValuesModel", name := "blanks", desc := "()V" }
theorem k1297 : (Jvm.Cond.code ({ cls := "PagedValuesModel", name := "blanks", desc := "()V" } : Jvm.MethodName) prog_15_method_13_code (1 : Nat) (Option.none : Option Jvm.ClassFile.FieldType)) ∈ TB := tk_6 97 rfl rfl
theorem k1294 : (Jvm.Cond.methodLink "PagedValuesModel" (176 : Nat) ({ cls := "PagedValuesModel", name := "blanks", desc := "()V" } : Jvm.MethodName)) ∈ TB := tk_6 94 rfl rfl
theorem k1296 : (Jvm.Cond.instanceMethod ({ cls := "PagedValuesModel", name := "blanks", desc := "()V" } : Jvm.MethodName)) ∈ TB := tk_6 96 rfl rfl
theorem ks35 : Cond.selects y15_13.cls y15_13 y15_13 ∈ TB := List.mem_filter.mpr ⟨List.mem_append_left _ (List.mem_of_getElem? (i := 35) (by decide +kernel)), rfl⟩
theorem d15_28_21 : decode prog_15_method_28_code 21 = .ok (.invokevirtual 176, 3) := by decide +kernel
theorem d15_28_24 : decode prog_15_method_28_code 24 = .ok (.aload_n 0, 1) := by decide +kernel
theorem d15_28_25 : decode prog_15_method_28_code 25 = .ok (.lconst 0, 1) := by decide +kernel
theorem d15_28_26 : decode prog_15_method_28_code 26 = .ok (.lconst 0, 1) := by decide +kernel
theorem d15_23_0 : decode prog_15_method_23_code 0 = .ok (.aload_n 0, 1) := by decide +kernel
theorem d15_23_1 : decode prog_15_method_23_code 1 = .ok (.getfield 27, 3) := by decide +kernel
theorem d15_23_4 : decode prog_15_method_23_code 4 = .ok (.bipush 80, 2) := by decide +kernel
theorem d15_20_0 : decode prog_15_method_20_code 0 = .ok (.iload_n 0, 1) := by decide +kernel
theorem d15_20_1 : decode prog_15_method_20_code 1 = .ok (.bipush 80, 2) := by decide +kernel
theorem d15_20_3 : decode prog_15_method_20_code 3 = .ok (.if_icmp .ge 10, 3) := by decide +kernel
theorem d15_20_13 : decode prog_15_method_20_code 13 = .ok (.sipush 1920, 3) := by decide +kernel
theorem d15_20_16 : decode prog_15_method_20_code 16 = .ok (.bipush 60, 2) := by decide +kernel
theorem d15_20_18 : decode prog_15_method_20_code 18 = .ok (.iload_n 0, 1) := by decide +kernel
theorem d15_20_19 : decode prog_15_method_20_code 19 = .ok (.bipush 80, 2) := by decide +kernel
theorem d15_20_21 : decode prog_15_method_20_code 21 = .ok (.isub, 1) := by decide +kernel
theorem d15_20_22 : decode prog_15_method_20_code 22 = .ok (.imul, 1) := by decide +kernel
theorem d15_20_23 : decode prog_15_method_20_code 23 = .ok (.iadd, 1) := by decide +kernel
theorem d15_20_6 : decode prog_15_method_20_code 6 = .ok (.bipush 24, 2) := by decide +kernel
theorem d15_20_8 : decode prog_15_method_20_code 8 = .ok (.iload_n 0, 1) := by decide +kernel
theorem d15_20_9 : decode prog_15_method_20_code 9 = .ok (.imul, 1) := by decide +kernel
theorem d15_20_10 : decode prog_15_method_20_code 10 = .ok (.goto 14, 3) := by decide +kernel
theorem d15_20_24 : decode prog_15_method_20_code 24 = .ok (.ireturn, 1) := by decide +kernel
def y15_20 : MethodName := { cls := "PagedValuesModel", name := "at", desc := "(I)I" }
theorem k1312 : (Jvm.Cond.code ({ cls := "PagedValuesModel", name := "at", desc := "(I)I" } : Jvm.MethodName) prog_15_method_20_code (1 : Nat) (Option.some Jvm.ClassFile.FieldType.int)) ∈ TB := tk_6 112 rfl rfl
theorem k1310 : (Jvm.Cond.methodLink "PagedValuesModel" (159 : Nat) ({ cls := "PagedValuesModel", name := "at", desc := "(I)I" } : Jvm.MethodName)) ∈ TB := tk_6 110 rfl rfl
theorem k1311 : (Jvm.Cond.static ({ cls := "PagedValuesModel", name := "at", desc := "(I)I" } : Jvm.MethodName)) ∈ TB := tk_6 111 rfl rfl
theorem d15_23_6 : decode prog_15_method_23_code 6 = .ok (.invokestatic 159, 3) := by decide +kernel
theorem d15_23_9 : decode prog_15_method_23_code 9 = .ok (.aload_n 0, 1) := by decide +kernel
theorem d15_23_10 : decode prog_15_method_23_code 10 = .ok (.getfield 162, 3) := by decide +kernel
theorem d15_23_13 : decode prog_15_method_23_code 13 = .ok (.iadd, 1) := by decide +kernel
theorem d15_23_14 : decode prog_15_method_23_code 14 = .ok (.lload_n 1, 1) := by decide +kernel
theorem d15_23_15 : decode prog_15_method_23_code 15 = .ok (.lastore, 1) := by decide +kernel
theorem d15_23_16 : decode prog_15_method_23_code 16 = .ok (.aload_n 0, 1) := by decide +kernel
theorem d15_23_17 : decode prog_15_method_23_code 17 = .ok (.getfield 30, 3) := by decide +kernel
theorem d15_23_20 : decode prog_15_method_23_code 20 = .ok (.bipush 80, 2) := by decide +kernel
theorem d15_23_22 : decode prog_15_method_23_code 22 = .ok (.invokestatic 159, 3) := by decide +kernel
theorem d15_23_25 : decode prog_15_method_23_code 25 = .ok (.aload_n 0, 1) := by decide +kernel
theorem d15_23_26 : decode prog_15_method_23_code 26 = .ok (.getfield 162, 3) := by decide +kernel
theorem d15_23_29 : decode prog_15_method_23_code 29 = .ok (.iadd, 1) := by decide +kernel
theorem d15_23_30 : decode prog_15_method_23_code 30 = .ok (.lload_n 3, 1) := by decide +kernel
theorem d15_23_31 : decode prog_15_method_23_code 31 = .ok (.lastore, 1) := by decide +kernel
theorem d15_23_32 : decode prog_15_method_23_code 32 = .ok (.return_, 1) := by decide +kernel
def y15_23 : MethodName := { cls := "PagedValuesModel", name := "named", desc := "(JJ)V" }
theorem k1309 : (Jvm.Cond.code ({ cls := "PagedValuesModel", name := "named", desc := "(JJ)V" } : Jvm.MethodName) prog_15_method_23_code (5 : Nat) (Option.none : Option Jvm.ClassFile.FieldType)) ∈ TB := tk_6 109 rfl rfl
theorem k1306 : (Jvm.Cond.methodLink "PagedValuesModel" (172 : Nat) ({ cls := "PagedValuesModel", name := "named", desc := "(JJ)V" } : Jvm.MethodName)) ∈ TB := tk_6 106 rfl rfl
theorem k1308 : (Jvm.Cond.instanceMethod ({ cls := "PagedValuesModel", name := "named", desc := "(JJ)V" } : Jvm.MethodName)) ∈ TB := tk_6 108 rfl rfl
theorem ks38 : Cond.selects y15_23.cls y15_23 y15_23 ∈ TB := List.mem_filter.mpr ⟨List.mem_append_left _ (List.mem_of_getElem? (i := 38) (by decide +kernel)), rfl⟩
theorem d15_28_27 : decode prog_15_method_28_code 27 = .ok (.invokevirtual 172, 3) := by decide +kernel
theorem d15_28_30 : decode prog_15_method_28_code 30 = .ok (.aload_n 0, 1) := by decide +kernel
theorem d15_25_0 : decode prog_15_method_25_code 0 = .ok (.aload_n 0, 1) := by decide +kernel
theorem d15_25_1 : decode prog_15_method_25_code 1 = .ok (.getfield 162, 3) := by decide +kernel
theorem d15_25_4 : decode prog_15_method_25_code 4 = .ok (.bipush 24, 2) := by decide +kernel
theorem d15_25_6 : decode prog_15_method_25_code 6 = .ok (.if_icmp .ne 9, 3) := by decide +kernel
theorem d15_25_15 : decode prog_15_method_25_code 15 = .ok (.aload_n 0, 1) := by decide +kernel
theorem d15_25_16 : decode prog_15_method_25_code 16 = .ok (.bipush 91, 2) := by decide +kernel
theorem d15_25_18 : decode prog_15_method_25_code 18 = .ok (.invokevirtual 121, 3) := by decide +kernel
theorem d15_25_21 : decode prog_15_method_25_code 21 = .ok (.istore_n 1, 1) := by decide +kernel
theorem d15_25_22 : decode prog_15_method_25_code 22 = .ok (.iload_n 1, 1) := by decide +kernel
theorem d15_25_23 : decode prog_15_method_25_code 23 = .ok (.ifCond .ne 32, 3) := by decide +kernel
theorem d15_25_55 : decode prog_15_method_25_code 55 = .ok (.aload_n 0, 1) := by decide +kernel
theorem d15_25_56 : decode prog_15_method_25_code 56 = .ok (.getfield 165, 3) := by decide +kernel
theorem d15_25_59 : decode prog_15_method_25_code 59 = .ok (.iconst 4, 1) := by decide +kernel
theorem d15_25_60 : decode prog_15_method_25_code 60 = .ok (.if_icmp .ne 9, 3) := by decide +kernel
theorem d15_25_69 : decode prog_15_method_25_code 69 = .ok (.aload_n 0, 1) := by decide +kernel
theorem d15_25_70 : decode prog_15_method_25_code 70 = .ok (.dup, 1) := by decide +kernel
theorem d15_25_71 : decode prog_15_method_25_code 71 = .ok (.getfield 104, 3) := by decide +kernel
theorem d15_25_74 : decode prog_15_method_25_code 74 = .ok (.iconst 1, 1) := by decide +kernel
theorem d15_25_75 : decode prog_15_method_25_code 75 = .ok (.iadd, 1) := by decide +kernel
theorem d15_25_76 : decode prog_15_method_25_code 76 = .ok (.putfield 104, 3) := by decide +kernel
theorem d15_25_79 : decode prog_15_method_25_code 79 = .ok (.aload_n 0, 1) := by decide +kernel
theorem d15_25_80 : decode prog_15_method_25_code 80 = .ok (.getfield 33, 3) := by decide +kernel
theorem d15_25_83 : decode prog_15_method_25_code 83 = .ok (.aload_n 0, 1) := by decide +kernel
theorem d15_25_84 : decode prog_15_method_25_code 84 = .ok (.getfield 165, 3) := by decide +kernel
theorem d15_25_87 : decode prog_15_method_25_code 87 = .ok (.aload_n 0, 1) := by decide +kernel
theorem d15_25_88 : decode prog_15_method_25_code 88 = .ok (.getfield 162, 3) := by decide +kernel
theorem d15_25_91 : decode prog_15_method_25_code 91 = .ok (.iastore, 1) := by decide +kernel
theorem d15_25_92 : decode prog_15_method_25_code 92 = .ok (.aload_n 0, 1) := by decide +kernel
theorem d15_25_93 : decode prog_15_method_25_code 93 = .ok (.dup, 1) := by decide +kernel
theorem d15_25_94 : decode prog_15_method_25_code 94 = .ok (.getfield 165, 3) := by decide +kernel
theorem d15_25_97 : decode prog_15_method_25_code 97 = .ok (.iconst 1, 1) := by decide +kernel
theorem d15_25_98 : decode prog_15_method_25_code 98 = .ok (.iadd, 1) := by decide +kernel
theorem d15_25_99 : decode prog_15_method_25_code 99 = .ok (.putfield 165, 3) := by decide +kernel
theorem d15_25_102 : decode prog_15_method_25_code 102 = .ok (.aload_n 0, 1) := by decide +kernel
theorem d15_25_103 : decode prog_15_method_25_code 103 = .ok (.iload_n 1, 1) := by decide +kernel
theorem d15_25_104 : decode prog_15_method_25_code 104 = .ok (.ifCond .eq 7, 3) := by decide +kernel
theorem d15_25_111 : decode prog_15_method_25_code 111 = .ok (.bipush 6, 2) := by decide +kernel
theorem d15_25_107 : decode prog_15_method_25_code 107 = .ok (.iconst 5, 1) := by decide +kernel
theorem d15_25_108 : decode prog_15_method_25_code 108 = .ok (.goto 5, 3) := by decide +kernel
theorem d15_25_113 : decode prog_15_method_25_code 113 = .ok (.lconst 0, 1) := by decide +kernel
theorem d15_25_114 : decode prog_15_method_25_code 114 = .ok (.lconst 0, 1) := by decide +kernel
theorem d15_21_0 : decode prog_15_method_21_code 0 = .ok (.bipush 80, 2) := by decide +kernel
theorem d15_21_2 : decode prog_15_method_21_code 2 = .ok (.invokestatic 159, 3) := by decide +kernel
theorem d15_21_5 : decode prog_15_method_21_code 5 = .ok (.aload_n 0, 1) := by decide +kernel
theorem d15_21_6 : decode prog_15_method_21_code 6 = .ok (.getfield 162, 3) := by decide +kernel
theorem d15_21_9 : decode prog_15_method_21_code 9 = .ok (.iadd, 1) := by decide +kernel
theorem d15_21_10 : decode prog_15_method_21_code 10 = .ok (.istore 6, 2) := by decide +kernel
theorem d15_21_12 : decode prog_15_method_21_code 12 = .ok (.aload_n 0, 1) := by decide +kernel
theorem d15_21_13 : decode prog_15_method_21_code 13 = .ok (.getfield 13, 3) := by decide +kernel
theorem d15_21_16 : decode prog_15_method_21_code 16 = .ok (.iload 6, 2) := by decide +kernel
theorem d15_21_18 : decode prog_15_method_21_code 18 = .ok (.iload_n 1, 1) := by decide +kernel
theorem d15_21_19 : decode prog_15_method_21_code 19 = .ok (.i2b, 1) := by decide +kernel
theorem d15_21_20 : decode prog_15_method_21_code 20 = .ok (.bastore, 1) := by decide +kernel
theorem d15_21_21 : decode prog_15_method_21_code 21 = .ok (.aload_n 0, 1) := by decide +kernel
theorem d15_21_22 : decode prog_15_method_21_code 22 = .ok (.getfield 17, 3) := by decide +kernel
theorem d15_21_25 : decode prog_15_method_21_code 25 = .ok (.iload 6, 2) := by decide +kernel
theorem d15_21_27 : decode prog_15_method_21_code 27 = .ok (.iconst 1, 1) := by decide +kernel
theorem d15_21_28 : decode prog_15_method_21_code 28 = .ok (.bastore, 1) := by decide +kernel
theorem d15_21_29 : decode prog_15_method_21_code 29 = .ok (.aload_n 0, 1) := by decide +kernel
theorem d15_21_30 : decode prog_15_method_21_code 30 = .ok (.getfield 20, 3) := by decide +kernel
theorem d15_21_33 : decode prog_15_method_21_code 33 = .ok (.iload 6, 2) := by decide +kernel
theorem d15_21_35 : decode prog_15_method_21_code 35 = .ok (.lload_n 2, 1) := by decide +kernel
theorem d15_21_36 : decode prog_15_method_21_code 36 = .ok (.lastore, 1) := by decide +kernel
theorem d15_21_37 : decode prog_15_method_21_code 37 = .ok (.aload_n 0, 1) := by decide +kernel
theorem d15_21_38 : decode prog_15_method_21_code 38 = .ok (.getfield 24, 3) := by decide +kernel
theorem d15_21_41 : decode prog_15_method_21_code 41 = .ok (.iload 6, 2) := by decide +kernel
theorem d15_21_43 : decode prog_15_method_21_code 43 = .ok (.lload 4, 2) := by decide +kernel
theorem d15_21_45 : decode prog_15_method_21_code 45 = .ok (.lastore, 1) := by decide +kernel
theorem d15_21_46 : decode prog_15_method_21_code 46 = .ok (.aload_n 0, 1) := by decide +kernel
theorem d15_21_47 : decode prog_15_method_21_code 47 = .ok (.dup, 1) := by decide +kernel
theorem d15_21_48 : decode prog_15_method_21_code 48 = .ok (.getfield 162, 3) := by decide +kernel
theorem d15_21_51 : decode prog_15_method_21_code 51 = .ok (.iconst 1, 1) := by decide +kernel
theorem d15_21_52 : decode prog_15_method_21_code 52 = .ok (.iadd, 1) := by decide +kernel
theorem d15_21_53 : decode prog_15_method_21_code 53 = .ok (.putfield 162, 3) := by decide +kernel
theorem d15_21_56 : decode prog_15_method_21_code 56 = .ok (.return_, 1) := by decide +kernel
def y15_21 : MethodName := { cls := "PagedValuesModel", name := "node", desc := "(IJJ)V" }
theorem k1372 : (Jvm.Cond.code ({ cls := "PagedValuesModel", name := "node", desc := "(IJJ)V" } : Jvm.MethodName) prog_15_method_21_code (7 : Nat) (Option.none : Option Jvm.ClassFile.FieldType)) ∈ TB := tk_6 172 rfl rfl
theorem k1369 : (Jvm.Cond.methodLink "PagedValuesModel" (182 : Nat) ({ cls := "PagedValuesModel", name := "node", desc := "(IJJ)V" } : Jvm.MethodName)) ∈ TB := tk_6 169 rfl rfl
theorem k1371 : (Jvm.Cond.instanceMethod ({ cls := "PagedValuesModel", name := "node", desc := "(IJJ)V" } : Jvm.MethodName)) ∈ TB := tk_6 171 rfl rfl
theorem ks51 : Cond.selects y15_21.cls y15_21 y15_21 ∈ TB := List.mem_filter.mpr ⟨List.mem_append_left _ (List.mem_of_getElem? (i := 51) (by decide +kernel)), rfl⟩
theorem d15_25_115 : decode prog_15_method_25_code 115 = .ok (.invokevirtual 182, 3) := by decide +kernel
theorem d15_25_118 : decode prog_15_method_25_code 118 = .ok (.iconst 1, 1) := by decide +kernel
theorem d15_25_119 : decode prog_15_method_25_code 119 = .ok (.ireturn, 1) := by decide +kernel
theorem d15_25_63 : decode prog_15_method_25_code 63 = .ok (.aload_n 0, 1) := by decide +kernel
theorem d15_8_0 : decode prog_15_method_8_code 0 = .ok (.aload_n 0, 1) := by decide +kernel
theorem d15_8_1 : decode prog_15_method_8_code 1 = .ok (.aload_n 0, 1) := by decide +kernel
theorem d15_8_2 : decode prog_15_method_8_code 2 = .ok (.getfield 111, 3) := by decide +kernel
theorem d15_8_5 : decode prog_15_method_8_code 5 = .ok (.ifCond .ge 10, 3) := by decide +kernel
theorem d15_8_15 : decode prog_15_method_8_code 15 = .ok (.aload_n 0, 1) := by decide +kernel
theorem d15_8_16 : decode prog_15_method_8_code 16 = .ok (.getfield 111, 3) := by decide +kernel
theorem d15_8_8 : decode prog_15_method_8_code 8 = .ok (.aload_n 0, 1) := by decide +kernel
theorem d15_8_9 : decode prog_15_method_8_code 9 = .ok (.getfield 104, 3) := by decide +kernel
theorem d15_8_12 : decode prog_15_method_8_code 12 = .ok (.goto 7, 3) := by decide +kernel
theorem d15_8_19 : decode prog_15_method_8_code 19 = .ok (.putfield 111, 3) := by decide +kernel
theorem d15_8_22 : decode prog_15_method_8_code 22 = .ok (.return_, 1) := by decide +kernel
def y15_8 : MethodName := { cls := "PagedValuesModel", name := "fault", desc := "()V" }
theorem k1320 : (Jvm.Cond.code ({ cls := "PagedValuesModel", name := "fault", desc := "()V" } : Jvm.MethodName) prog_15_method_8_code (1 : Nat) (Option.none : Option Jvm.ClassFile.FieldType)) ∈ TB := tk_6 120 rfl rfl
theorem k1317 : (Jvm.Cond.methodLink "PagedValuesModel" (118 : Nat) ({ cls := "PagedValuesModel", name := "fault", desc := "()V" } : Jvm.MethodName)) ∈ TB := tk_6 117 rfl rfl
theorem k1319 : (Jvm.Cond.instanceMethod ({ cls := "PagedValuesModel", name := "fault", desc := "()V" } : Jvm.MethodName)) ∈ TB := tk_6 119 rfl rfl
theorem ks40 : Cond.selects y15_8.cls y15_8 y15_8 ∈ TB := List.mem_filter.mpr ⟨List.mem_append_left _ (List.mem_of_getElem? (i := 40) (by decide +kernel)), rfl⟩
theorem d15_25_64 : decode prog_15_method_25_code 64 = .ok (.invokevirtual 118, 3) := by decide +kernel
theorem d15_25_67 : decode prog_15_method_25_code 67 = .ok (.iconst 0, 1) := by decide +kernel
theorem d15_25_68 : decode prog_15_method_25_code 68 = .ok (.ireturn, 1) := by decide +kernel
theorem d15_25_26 : decode prog_15_method_25_code 26 = .ok (.aload_n 0, 1) := by decide +kernel
theorem d15_25_27 : decode prog_15_method_25_code 27 = .ok (.bipush 123, 2) := by decide +kernel
theorem d15_25_29 : decode prog_15_method_25_code 29 = .ok (.invokevirtual 121, 3) := by decide +kernel
theorem d15_25_32 : decode prog_15_method_25_code 32 = .ok (.ifCond .ne 23, 3) := by decide +kernel
theorem d15_25_35 : decode prog_15_method_25_code 35 = .ok (.aload_n 0, 1) := by decide +kernel
theorem d15_18_0 : decode prog_15_method_18_code 0 = .ok (.aload_n 0, 1) := by decide +kernel
theorem d15_18_1 : decode prog_15_method_18_code 1 = .ok (.invokevirtual 114, 3) := by decide +kernel
theorem d15_18_4 : decode prog_15_method_18_code 4 = .ok (.istore_n 1, 1) := by decide +kernel
theorem d15_18_5 : decode prog_15_method_18_code 5 = .ok (.iload_n 1, 1) := by decide +kernel
theorem d15_18_6 : decode prog_15_method_18_code 6 = .ok (.bipush 34, 2) := by decide +kernel
theorem d15_18_8 : decode prog_15_method_18_code 8 = .ok (.if_icmp .ne 9, 3) := by decide +kernel
theorem d15_18_17 : decode prog_15_method_18_code 17 = .ok (.iload_n 1, 1) := by decide +kernel
theorem d15_18_18 : decode prog_15_method_18_code 18 = .ok (.bipush 45, 2) := by decide +kernel
theorem d15_18_20 : decode prog_15_method_18_code 20 = .ok (.if_icmp .eq 10, 3) := by decide +kernel
theorem d15_18_30 : decode prog_15_method_18_code 30 = .ok (.aload_n 0, 1) := by decide +kernel
theorem d15_16_0 : decode prog_15_method_16_code 0 = .ok (.aload_n 0, 1) := by decide +kernel
theorem d15_16_1 : decode prog_15_method_16_code 1 = .ok (.bipush 45, 2) := by decide +kernel
theorem d15_11_0 : decode prog_15_method_11_code 0 = .ok (.aload_n 0, 1) := by decide +kernel
theorem d15_11_1 : decode prog_15_method_11_code 1 = .ok (.iload_n 1, 1) := by decide +kernel
theorem d15_11_2 : decode prog_15_method_11_code 2 = .ok (.invokevirtual 121, 3) := by decide +kernel
theorem d15_11_5 : decode prog_15_method_11_code 5 = .ok (.istore_n 2, 1) := by decide +kernel
theorem d15_11_6 : decode prog_15_method_11_code 6 = .ok (.aload_n 0, 1) := by decide +kernel
theorem d15_11_7 : decode prog_15_method_11_code 7 = .ok (.iload_n 2, 1) := by decide +kernel
theorem d15_11_8 : decode prog_15_method_11_code 8 = .ok (.ifCond .eq 12, 3) := by decide +kernel
theorem d15_11_20 : decode prog_15_method_11_code 20 = .ok (.aload_n 0, 1) := by decide +kernel
theorem d15_11_21 : decode prog_15_method_11_code 21 = .ok (.getfield 104, 3) := by decide +kernel
theorem d15_11_11 : decode prog_15_method_11_code 11 = .ok (.aload_n 0, 1) := by decide +kernel
theorem d15_11_12 : decode prog_15_method_11_code 12 = .ok (.getfield 104, 3) := by decide +kernel
theorem d15_11_15 : decode prog_15_method_11_code 15 = .ok (.iconst 1, 1) := by decide +kernel
theorem d15_11_16 : decode prog_15_method_11_code 16 = .ok (.iadd, 1) := by decide +kernel
theorem d15_11_17 : decode prog_15_method_11_code 17 = .ok (.goto 7, 3) := by decide +kernel
theorem d15_11_24 : decode prog_15_method_11_code 24 = .ok (.putfield 104, 3) := by decide +kernel
theorem d15_11_27 : decode prog_15_method_11_code 27 = .ok (.iload_n 2, 1) := by decide +kernel
theorem d15_11_28 : decode prog_15_method_11_code 28 = .ok (.ireturn, 1) := by decide +kernel
def y15_11 : MethodName := { cls := "PagedValuesModel", name := "takes", desc := "(I)Z" }
theorem k1359 : (Jvm.Cond.code ({ cls := "PagedValuesModel", name := "takes", desc := "(I)Z" } : Jvm.MethodName) prog_15_method_11_code (3 : Nat) (Option.some Jvm.ClassFile.FieldType.boolean)) ∈ TB := tk_6 159 rfl rfl
theorem k1356 : (Jvm.Cond.methodLink "PagedValuesModel" (138 : Nat) ({ cls := "PagedValuesModel", name := "takes", desc := "(I)Z" } : Jvm.MethodName)) ∈ TB := tk_6 156 rfl rfl
theorem k1358 : (Jvm.Cond.instanceMethod ({ cls := "PagedValuesModel", name := "takes", desc := "(I)Z" } : Jvm.MethodName)) ∈ TB := tk_6 158 rfl rfl
theorem ks48 : Cond.selects y15_11.cls y15_11 y15_11 ∈ TB := List.mem_filter.mpr ⟨List.mem_append_left _ (List.mem_of_getElem? (i := 48) (by decide +kernel)), rfl⟩
theorem d15_16_3 : decode prog_15_method_16_code 3 = .ok (.invokevirtual 138, 3) := by decide +kernel
theorem d15_16_6 : decode prog_15_method_16_code 6 = .ok (.istore_n 1, 1) := by decide +kernel
theorem d15_16_7 : decode prog_15_method_16_code 7 = .ok (.iconst 0, 1) := by decide +kernel
theorem d15_16_8 : decode prog_15_method_16_code 8 = .ok (.istore_n 2, 1) := by decide +kernel
theorem d15_16_9 : decode prog_15_method_16_code 9 = .ok (.aload_n 0, 1) := by decide +kernel
theorem d15_16_10 : decode prog_15_method_16_code 10 = .ok (.invokevirtual 114, 3) := by decide +kernel
theorem d15_12_0 : decode prog_15_method_12_code 0 = .ok (.iload_n 0, 1) := by decide +kernel
theorem d15_12_1 : decode prog_15_method_12_code 1 = .ok (.bipush 48, 2) := by decide +kernel
theorem d15_12_3 : decode prog_15_method_12_code 3 = .ok (.if_icmp .lt 13, 3) := by decide +kernel
theorem d15_12_16 : decode prog_15_method_12_code 16 = .ok (.iconst 0, 1) := by decide +kernel
theorem d15_12_6 : decode prog_15_method_12_code 6 = .ok (.iload_n 0, 1) := by decide +kernel
theorem d15_12_7 : decode prog_15_method_12_code 7 = .ok (.bipush 57, 2) := by decide +kernel
theorem d15_12_9 : decode prog_15_method_12_code 9 = .ok (.if_icmp .gt 7, 3) := by decide +kernel
theorem d15_12_12 : decode prog_15_method_12_code 12 = .ok (.iconst 1, 1) := by decide +kernel
theorem d15_12_13 : decode prog_15_method_12_code 13 = .ok (.goto 4, 3) := by decide +kernel
theorem d15_12_17 : decode prog_15_method_12_code 17 = .ok (.ireturn, 1) := by decide +kernel
def y15_12 : MethodName := { cls := "PagedValuesModel", name := "isDigit", desc := "(I)Z" }
theorem k1351 : (Jvm.Cond.code ({ cls := "PagedValuesModel", name := "isDigit", desc := "(I)Z" } : Jvm.MethodName) prog_15_method_12_code (1 : Nat) (Option.some Jvm.ClassFile.FieldType.boolean)) ∈ TB := tk_6 151 rfl rfl
theorem k1349 : (Jvm.Cond.methodLink "PagedValuesModel" (141 : Nat) ({ cls := "PagedValuesModel", name := "isDigit", desc := "(I)Z" } : Jvm.MethodName)) ∈ TB := tk_6 149 rfl rfl
theorem k1350 : (Jvm.Cond.static ({ cls := "PagedValuesModel", name := "isDigit", desc := "(I)Z" } : Jvm.MethodName)) ∈ TB := tk_6 150 rfl rfl
theorem d15_16_13 : decode prog_15_method_16_code 13 = .ok (.invokestatic 141, 3) := by decide +kernel
theorem d15_16_16 : decode prog_15_method_16_code 16 = .ok (.ifCond .ne 7, 3) := by decide +kernel
theorem d15_16_19 : decode prog_15_method_16_code 19 = .ok (.aload_n 0, 1) := by decide +kernel
theorem d15_16_20 : decode prog_15_method_16_code 20 = .ok (.invokevirtual 118, 3) := by decide +kernel
theorem d15_16_23 : decode prog_15_method_16_code 23 = .ok (.aload_n 0, 1) := by decide +kernel
theorem d15_16_24 : decode prog_15_method_16_code 24 = .ok (.bipush 48, 2) := by decide +kernel
theorem d15_16_26 : decode prog_15_method_16_code 26 = .ok (.invokevirtual 121, 3) := by decide +kernel
theorem d15_16_29 : decode prog_15_method_16_code 29 = .ok (.istore_n 3, 1) := by decide +kernel
theorem d15_16_30 : decode prog_15_method_16_code 30 = .ok (.iconst 0, 1) := by decide +kernel
theorem d15_16_31 : decode prog_15_method_16_code 31 = .ok (.istore 4, 2) := by decide +kernel
theorem d15_16_101 : decode prog_15_method_16_code 101 = .ok (.aload_n 0, 1) := by decide +kernel
theorem d15_16_102 : decode prog_15_method_16_code 102 = .ok (.iload_n 1, 1) := by decide +kernel
theorem d15_16_103 : decode prog_15_method_16_code 103 = .ok (.ifCond .eq 9, 3) := by decide +kernel
theorem d15_16_112 : decode prog_15_method_16_code 112 = .ok (.iload_n 2, 1) := by decide +kernel
theorem d15_16_113 : decode prog_15_method_16_code 113 = .ok (.i2l, 1) := by decide +kernel
theorem d15_16_106 : decode prog_15_method_16_code 106 = .ok (.iload_n 2, 1) := by decide +kernel
theorem d15_16_107 : decode prog_15_method_16_code 107 = .ok (.ineg, 1) := by decide +kernel
theorem d15_16_108 : decode prog_15_method_16_code 108 = .ok (.i2l, 1) := by decide +kernel
theorem d15_16_109 : decode prog_15_method_16_code 109 = .ok (.goto 5, 3) := by decide +kernel
theorem d15_16_114 : decode prog_15_method_16_code 114 = .ok (.putfield 91, 3) := by decide +kernel
theorem k1162 : (Jvm.Cond.fieldLink "PagedValuesModel" (91 : Nat) "PagedValuesModel" "strA" "J") ∈ TB := tk_5 202 rfl rfl
theorem d15_16_117 : decode prog_15_method_16_code 117 = .ok (.aload_n 0, 1) := by decide +kernel
theorem d15_16_118 : decode prog_15_method_16_code 118 = .ok (.lconst 0, 1) := by decide +kernel
theorem d15_16_119 : decode prog_15_method_16_code 119 = .ok (.putfield 99, 3) := by decide +kernel
theorem k1163 : (Jvm.Cond.fieldLink "PagedValuesModel" (99 : Nat) "PagedValuesModel" "strB" "J") ∈ TB := tk_5 203 rfl rfl
theorem d15_16_122 : decode prog_15_method_16_code 122 = .ok (.return_, 1) := by decide +kernel
theorem d15_16_33 : decode prog_15_method_16_code 33 = .ok (.aload_n 0, 1) := by decide +kernel
theorem d15_16_34 : decode prog_15_method_16_code 34 = .ok (.getfield 111, 3) := by decide +kernel
theorem d15_16_37 : decode prog_15_method_16_code 37 = .ok (.ifCond .ge 64, 3) := by decide +kernel
theorem d15_16_40 : decode prog_15_method_16_code 40 = .ok (.aload_n 0, 1) := by decide +kernel
theorem d15_16_41 : decode prog_15_method_16_code 41 = .ok (.invokevirtual 114, 3) := by decide +kernel
theorem d15_16_44 : decode prog_15_method_16_code 44 = .ok (.invokestatic 141, 3) := by decide +kernel
theorem d15_16_47 : decode prog_15_method_16_code 47 = .ok (.ifCond .eq 54, 3) := by decide +kernel
theorem d15_16_50 : decode prog_15_method_16_code 50 = .ok (.bipush 10, 2) := by decide +kernel
theorem d15_16_52 : decode prog_15_method_16_code 52 = .ok (.iload_n 2, 1) := by decide +kernel
theorem d15_16_53 : decode prog_15_method_16_code 53 = .ok (.imul, 1) := by decide +kernel
theorem d15_16_54 : decode prog_15_method_16_code 54 = .ok (.aload_n 0, 1) := by decide +kernel
theorem d15_16_55 : decode prog_15_method_16_code 55 = .ok (.invokevirtual 114, 3) := by decide +kernel
theorem d15_16_58 : decode prog_15_method_16_code 58 = .ok (.iadd, 1) := by decide +kernel
theorem d15_16_59 : decode prog_15_method_16_code 59 = .ok (.bipush 48, 2) := by decide +kernel
theorem d15_16_61 : decode prog_15_method_16_code 61 = .ok (.isub, 1) := by decide +kernel
theorem d15_16_62 : decode prog_15_method_16_code 62 = .ok (.istore_n 2, 1) := by decide +kernel
theorem d15_16_63 : decode prog_15_method_16_code 63 = .ok (.iload_n 2, 1) := by decide +kernel
theorem d15_16_64 : decode prog_15_method_16_code 64 = .ok (.ldc 144, 2) := by decide +kernel
theorem k1360 : (Jvm.Cond.constant "PagedValuesModel" (144 : Nat) (999999 : Int32)) ∈ TB := tk_6 160 rfl rfl
theorem d15_16_66 : decode prog_15_method_16_code 66 = .ok (.if_icmp .gt 12, 3) := by decide +kernel
theorem d15_16_78 : decode prog_15_method_16_code 78 = .ok (.aload_n 0, 1) := by decide +kernel
theorem d15_16_79 : decode prog_15_method_16_code 79 = .ok (.invokevirtual 118, 3) := by decide +kernel
theorem d15_16_82 : decode prog_15_method_16_code 82 = .ok (.goto 13, 3) := by decide +kernel
theorem d15_16_69 : decode prog_15_method_16_code 69 = .ok (.iload_n 3, 1) := by decide +kernel
theorem d15_16_70 : decode prog_15_method_16_code 70 = .ok (.ifCond .eq 15, 3) := by decide +kernel
theorem d15_16_85 : decode prog_15_method_16_code 85 = .ok (.aload_n 0, 1) := by decide +kernel
theorem d15_16_86 : decode prog_15_method_16_code 86 = .ok (.dup, 1) := by decide +kernel
theorem d15_16_87 : decode prog_15_method_16_code 87 = .ok (.getfield 104, 3) := by decide +kernel
theorem d15_16_90 : decode prog_15_method_16_code 90 = .ok (.iconst 1, 1) := by decide +kernel
theorem d15_16_91 : decode prog_15_method_16_code 91 = .ok (.iadd, 1) := by decide +kernel
theorem d15_16_92 : decode prog_15_method_16_code 92 = .ok (.putfield 104, 3) := by decide +kernel
theorem d15_16_73 : decode prog_15_method_16_code 73 = .ok (.iload 4, 2) := by decide +kernel
theorem d15_16_75 : decode prog_15_method_16_code 75 = .ok (.ifCond .le 10, 3) := by decide +kernel
theorem d15_16_95 : decode prog_15_method_16_code 95 = .ok (.iinc 4 1, 3) := by decide +kernel
theorem d15_16_98 : decode prog_15_method_16_code 98 = .ok (.goto (-65), 3) := by decide +kernel
def y15_16 : MethodName := { cls := "PagedValuesModel", name := "number", desc := "()V" }
theorem k1355 : (Jvm.Cond.code ({ cls := "PagedValuesModel", name := "number", desc := "()V" } : Jvm.MethodName) prog_15_method_16_code (5 : Nat) (Option.none : Option Jvm.ClassFile.FieldType)) ∈ TB := tk_6 155 rfl rfl
theorem k1352 : (Jvm.Cond.methodLink "PagedValuesModel" (148 : Nat) ({ cls := "PagedValuesModel", name := "number", desc := "()V" } : Jvm.MethodName)) ∈ TB := tk_6 152 rfl rfl
theorem k1354 : (Jvm.Cond.instanceMethod ({ cls := "PagedValuesModel", name := "number", desc := "()V" } : Jvm.MethodName)) ∈ TB := tk_6 154 rfl rfl
theorem ks47 : Cond.selects y15_16.cls y15_16 y15_16 ∈ TB := List.mem_filter.mpr ⟨List.mem_append_left _ (List.mem_of_getElem? (i := 47) (by decide +kernel)), rfl⟩
theorem d15_18_31 : decode prog_15_method_18_code 31 = .ok (.invokevirtual 148, 3) := by decide +kernel
theorem d15_18_34 : decode prog_15_method_18_code 34 = .ok (.iconst 3, 1) := by decide +kernel
theorem d15_18_35 : decode prog_15_method_18_code 35 = .ok (.ireturn, 1) := by decide +kernel
theorem d15_18_23 : decode prog_15_method_18_code 23 = .ok (.iload_n 1, 1) := by decide +kernel
theorem d15_18_24 : decode prog_15_method_18_code 24 = .ok (.invokestatic 141, 3) := by decide +kernel
theorem d15_18_27 : decode prog_15_method_18_code 27 = .ok (.ifCond .eq 9, 3) := by decide +kernel
theorem d15_18_36 : decode prog_15_method_18_code 36 = .ok (.aload_n 0, 1) := by decide +kernel
theorem d15_6_0 : decode prog_15_method_6_code 0 = .ok (.aload_n 0, 1) := by decide +kernel
theorem d15_6_1 : decode prog_15_method_6_code 1 = .ok (.lconst 0, 1) := by decide +kernel
theorem d15_6_2 : decode prog_15_method_6_code 2 = .ok (.putfield 91, 3) := by decide +kernel
theorem d15_6_5 : decode prog_15_method_6_code 5 = .ok (.aload_n 0, 1) := by decide +kernel
theorem d15_6_6 : decode prog_15_method_6_code 6 = .ok (.lconst 0, 1) := by decide +kernel
theorem d15_6_7 : decode prog_15_method_6_code 7 = .ok (.putfield 99, 3) := by decide +kernel
theorem d15_6_10 : decode prog_15_method_6_code 10 = .ok (.return_, 1) := by decide +kernel
def y15_6 : MethodName := { cls := "PagedValuesModel", name := "clear", desc := "()V" }
theorem k1332 : (Jvm.Cond.code ({ cls := "PagedValuesModel", name := "clear", desc := "()V" } : Jvm.MethodName) prog_15_method_6_code (1 : Nat) (Option.none : Option Jvm.ClassFile.FieldType)) ∈ TB := tk_6 132 rfl rfl
theorem k1329 : (Jvm.Cond.methodLink "PagedValuesModel" (129 : Nat) ({ cls := "PagedValuesModel", name := "clear", desc := "()V" } : Jvm.MethodName)) ∈ TB := tk_6 129 rfl rfl
theorem k1331 : (Jvm.Cond.instanceMethod ({ cls := "PagedValuesModel", name := "clear", desc := "()V" } : Jvm.MethodName)) ∈ TB := tk_6 131 rfl rfl
theorem ks43 : Cond.selects y15_6.cls y15_6 y15_6 ∈ TB := List.mem_filter.mpr ⟨List.mem_append_left _ (List.mem_of_getElem? (i := 43) (by decide +kernel)), rfl⟩
theorem d15_18_37 : decode prog_15_method_18_code 37 = .ok (.invokevirtual 129, 3) := by decide +kernel
theorem d15_18_40 : decode prog_15_method_18_code 40 = .ok (.aload_n 0, 1) := by decide +kernel
theorem d15_18_41 : decode prog_15_method_18_code 41 = .ok (.iload_n 1, 1) := by decide +kernel
theorem d15_19_0 : decode prog_15_method_19_code 0 = .ok (.iload_n 1, 1) := by decide +kernel
theorem d15_19_1 : decode prog_15_method_19_code 1 = .ok (.bipush 110, 2) := by decide +kernel
theorem d15_19_3 : decode prog_15_method_19_code 3 = .ok (.if_icmp .ne 17, 3) := by decide +kernel
theorem d15_19_20 : decode prog_15_method_19_code 20 = .ok (.iload_n 1, 1) := by decide +kernel
theorem d15_19_21 : decode prog_15_method_19_code 21 = .ok (.bipush 116, 2) := by decide +kernel
theorem d15_19_23 : decode prog_15_method_19_code 23 = .ok (.if_icmp .ne 17, 3) := by decide +kernel
theorem d15_19_40 : decode prog_15_method_19_code 40 = .ok (.aload_n 0, 1) := by decide +kernel
theorem d15_19_41 : decode prog_15_method_19_code 41 = .ok (.bipush 102, 2) := by decide +kernel
theorem d15_9_0 : decode prog_15_method_9_code 0 = .ok (.aload_n 0, 1) := by decide +kernel
theorem d15_9_1 : decode prog_15_method_9_code 1 = .ok (.getfield 111, 3) := by decide +kernel
theorem d15_9_4 : decode prog_15_method_9_code 4 = .ok (.ifCond .ge 24, 3) := by decide +kernel
theorem d15_9_28 : decode prog_15_method_9_code 28 = .ok (.aload_n 0, 1) := by decide +kernel
theorem d15_9_29 : decode prog_15_method_9_code 29 = .ok (.invokevirtual 118, 3) := by decide +kernel
theorem d15_9_7 : decode prog_15_method_9_code 7 = .ok (.aload_n 0, 1) := by decide +kernel
theorem d15_9_8 : decode prog_15_method_9_code 8 = .ok (.invokevirtual 114, 3) := by decide +kernel
theorem d15_9_11 : decode prog_15_method_9_code 11 = .ok (.iload_n 1, 1) := by decide +kernel
theorem d15_9_12 : decode prog_15_method_9_code 12 = .ok (.if_icmp .ne 16, 3) := by decide +kernel
theorem d15_9_15 : decode prog_15_method_9_code 15 = .ok (.aload_n 0, 1) := by decide +kernel
theorem d15_9_16 : decode prog_15_method_9_code 16 = .ok (.dup, 1) := by decide +kernel
theorem d15_9_17 : decode prog_15_method_9_code 17 = .ok (.getfield 104, 3) := by decide +kernel
theorem d15_9_20 : decode prog_15_method_9_code 20 = .ok (.iconst 1, 1) := by decide +kernel
theorem d15_9_21 : decode prog_15_method_9_code 21 = .ok (.iadd, 1) := by decide +kernel
theorem d15_9_22 : decode prog_15_method_9_code 22 = .ok (.putfield 104, 3) := by decide +kernel
theorem d15_9_25 : decode prog_15_method_9_code 25 = .ok (.goto 7, 3) := by decide +kernel
theorem d15_9_32 : decode prog_15_method_9_code 32 = .ok (.return_, 1) := by decide +kernel
def y15_9 : MethodName := { cls := "PagedValuesModel", name := "must", desc := "(I)V" }
theorem k1336 : (Jvm.Cond.code ({ cls := "PagedValuesModel", name := "must", desc := "(I)V" } : Jvm.MethodName) prog_15_method_9_code (2 : Nat) (Option.none : Option Jvm.ClassFile.FieldType)) ∈ TB := tk_6 136 rfl rfl
theorem k1333 : (Jvm.Cond.methodLink "PagedValuesModel" (132 : Nat) ({ cls := "PagedValuesModel", name := "must", desc := "(I)V" } : Jvm.MethodName)) ∈ TB := tk_6 133 rfl rfl
theorem k1335 : (Jvm.Cond.instanceMethod ({ cls := "PagedValuesModel", name := "must", desc := "(I)V" } : Jvm.MethodName)) ∈ TB := tk_6 135 rfl rfl
theorem ks44 : Cond.selects y15_9.cls y15_9 y15_9 ∈ TB := List.mem_filter.mpr ⟨List.mem_append_left _ (List.mem_of_getElem? (i := 44) (by decide +kernel)), rfl⟩
theorem d15_19_43 : decode prog_15_method_19_code 43 = .ok (.invokevirtual 132, 3) := by decide +kernel
theorem d15_19_46 : decode prog_15_method_19_code 46 = .ok (.aload_n 0, 1) := by decide +kernel
theorem d15_19_47 : decode prog_15_method_19_code 47 = .ok (.bipush 97, 2) := by decide +kernel
theorem d15_19_49 : decode prog_15_method_19_code 49 = .ok (.bipush 108, 2) := by decide +kernel
theorem d15_19_51 : decode prog_15_method_19_code 51 = .ok (.bipush 115, 2) := by decide +kernel
theorem d15_19_53 : decode prog_15_method_19_code 53 = .ok (.bipush 101, 2) := by decide +kernel
theorem d15_17_0 : decode prog_15_method_17_code 0 = .ok (.aload_n 0, 1) := by decide +kernel
theorem d15_17_1 : decode prog_15_method_17_code 1 = .ok (.iload_n 1, 1) := by decide +kernel
theorem d15_17_2 : decode prog_15_method_17_code 2 = .ok (.invokevirtual 132, 3) := by decide +kernel
theorem d15_17_5 : decode prog_15_method_17_code 5 = .ok (.aload_n 0, 1) := by decide +kernel
theorem d15_17_6 : decode prog_15_method_17_code 6 = .ok (.iload_n 2, 1) := by decide +kernel
theorem d15_17_7 : decode prog_15_method_17_code 7 = .ok (.invokevirtual 132, 3) := by decide +kernel
theorem d15_17_10 : decode prog_15_method_17_code 10 = .ok (.aload_n 0, 1) := by decide +kernel
theorem d15_17_11 : decode prog_15_method_17_code 11 = .ok (.iload_n 3, 1) := by decide +kernel
theorem d15_17_12 : decode prog_15_method_17_code 12 = .ok (.invokevirtual 132, 3) := by decide +kernel
theorem d15_17_15 : decode prog_15_method_17_code 15 = .ok (.aload_n 0, 1) := by decide +kernel
theorem d15_17_16 : decode prog_15_method_17_code 16 = .ok (.iload 4, 2) := by decide +kernel
theorem d15_17_18 : decode prog_15_method_17_code 18 = .ok (.invokevirtual 132, 3) := by decide +kernel
theorem d15_17_21 : decode prog_15_method_17_code 21 = .ok (.return_, 1) := by decide +kernel
def y15_17 : MethodName := { cls := "PagedValuesModel", name := "four", desc := "(IIII)V" }
theorem k1368 : (Jvm.Cond.code ({ cls := "PagedValuesModel", name := "four", desc := "(IIII)V" } : Jvm.MethodName) prog_15_method_17_code (5 : Nat) (Option.none : Option Jvm.ClassFile.FieldType)) ∈ TB := tk_6 168 rfl rfl
theorem k1365 : (Jvm.Cond.methodLink "PagedValuesModel" (155 : Nat) ({ cls := "PagedValuesModel", name := "four", desc := "(IIII)V" } : Jvm.MethodName)) ∈ TB := tk_6 165 rfl rfl
theorem k1367 : (Jvm.Cond.instanceMethod ({ cls := "PagedValuesModel", name := "four", desc := "(IIII)V" } : Jvm.MethodName)) ∈ TB := tk_6 167 rfl rfl
theorem ks50 : Cond.selects y15_17.cls y15_17 y15_17 ∈ TB := List.mem_filter.mpr ⟨List.mem_append_left _ (List.mem_of_getElem? (i := 50) (by decide +kernel)), rfl⟩
theorem d15_19_55 : decode prog_15_method_19_code 55 = .ok (.invokevirtual 155, 3) := by decide +kernel
theorem d15_19_58 : decode prog_15_method_19_code 58 = .ok (.iconst 2, 1) := by decide +kernel
theorem d15_19_59 : decode prog_15_method_19_code 59 = .ok (.ireturn, 1) := by decide +kernel
theorem d15_19_26 : decode prog_15_method_19_code 26 = .ok (.aload_n 0, 1) := by decide +kernel
theorem d15_19_27 : decode prog_15_method_19_code 27 = .ok (.bipush 116, 2) := by decide +kernel
theorem d15_19_29 : decode prog_15_method_19_code 29 = .ok (.bipush 114, 2) := by decide +kernel
theorem d15_19_31 : decode prog_15_method_19_code 31 = .ok (.bipush 117, 2) := by decide +kernel
theorem d15_19_33 : decode prog_15_method_19_code 33 = .ok (.bipush 101, 2) := by decide +kernel
theorem d15_19_35 : decode prog_15_method_19_code 35 = .ok (.invokevirtual 155, 3) := by decide +kernel
theorem d15_19_38 : decode prog_15_method_19_code 38 = .ok (.iconst 1, 1) := by decide +kernel
theorem d15_19_39 : decode prog_15_method_19_code 39 = .ok (.ireturn, 1) := by decide +kernel
theorem d15_19_6 : decode prog_15_method_19_code 6 = .ok (.aload_n 0, 1) := by decide +kernel
theorem d15_19_7 : decode prog_15_method_19_code 7 = .ok (.bipush 110, 2) := by decide +kernel
theorem d15_19_9 : decode prog_15_method_19_code 9 = .ok (.bipush 117, 2) := by decide +kernel
theorem d15_19_11 : decode prog_15_method_19_code 11 = .ok (.bipush 108, 2) := by decide +kernel
theorem d15_19_13 : decode prog_15_method_19_code 13 = .ok (.bipush 108, 2) := by decide +kernel
theorem d15_19_15 : decode prog_15_method_19_code 15 = .ok (.invokevirtual 155, 3) := by decide +kernel
theorem d15_19_18 : decode prog_15_method_19_code 18 = .ok (.iconst 0, 1) := by decide +kernel
theorem d15_19_19 : decode prog_15_method_19_code 19 = .ok (.ireturn, 1) := by decide +kernel
def y15_19 : MethodName := { cls := "PagedValuesModel", name := "constant", desc := "(I)I" }
theorem k1364 : (Jvm.Cond.code ({ cls := "PagedValuesModel", name := "constant", desc := "(I)I" } : Jvm.MethodName) prog_15_method_19_code (2 : Nat) (Option.some Jvm.ClassFile.FieldType.int)) ∈ TB := tk_6 164 rfl rfl
theorem k1361 : (Jvm.Cond.methodLink "PagedValuesModel" (151 : Nat) ({ cls := "PagedValuesModel", name := "constant", desc := "(I)I" } : Jvm.MethodName)) ∈ TB := tk_6 161 rfl rfl
theorem k1363 : (Jvm.Cond.instanceMethod ({ cls := "PagedValuesModel", name := "constant", desc := "(I)I" } : Jvm.MethodName)) ∈ TB := tk_6 163 rfl rfl
theorem ks49 : Cond.selects y15_19.cls y15_19 y15_19 ∈ TB := List.mem_filter.mpr ⟨List.mem_append_left _ (List.mem_of_getElem? (i := 49) (by decide +kernel)), rfl⟩
theorem d15_18_42 : decode prog_15_method_18_code 42 = .ok (.invokevirtual 151, 3) := by decide +kernel
theorem d15_18_45 : decode prog_15_method_18_code 45 = .ok (.ireturn, 1) := by decide +kernel
theorem d15_18_11 : decode prog_15_method_18_code 11 = .ok (.aload_n 0, 1) := by decide +kernel
theorem d15_15_0 : decode prog_15_method_15_code 0 = .ok (.aload_n 0, 1) := by decide +kernel
theorem d15_15_1 : decode prog_15_method_15_code 1 = .ok (.invokevirtual 129, 3) := by decide +kernel
theorem d15_15_4 : decode prog_15_method_15_code 4 = .ok (.aload_n 0, 1) := by decide +kernel
theorem d15_15_5 : decode prog_15_method_15_code 5 = .ok (.bipush 34, 2) := by decide +kernel
theorem d15_15_7 : decode prog_15_method_15_code 7 = .ok (.invokevirtual 132, 3) := by decide +kernel
theorem d15_15_33 : decode prog_15_method_15_code 33 = .ok (.aload_n 0, 1) := by decide +kernel
theorem d15_15_34 : decode prog_15_method_15_code 34 = .ok (.bipush 34, 2) := by decide +kernel
theorem d15_15_36 : decode prog_15_method_15_code 36 = .ok (.invokevirtual 132, 3) := by decide +kernel
theorem d15_15_39 : decode prog_15_method_15_code 39 = .ok (.return_, 1) := by decide +kernel
theorem d15_15_10 : decode prog_15_method_15_code 10 = .ok (.aload_n 0, 1) := by decide +kernel
theorem d15_15_11 : decode prog_15_method_15_code 11 = .ok (.getfield 111, 3) := by decide +kernel
theorem d15_15_14 : decode prog_15_method_15_code 14 = .ok (.ifCond .ge 19, 3) := by decide +kernel
theorem d15_15_17 : decode prog_15_method_15_code 17 = .ok (.aload_n 0, 1) := by decide +kernel
theorem d15_15_18 : decode prog_15_method_15_code 18 = .ok (.invokevirtual 114, 3) := by decide +kernel
theorem d15_15_21 : decode prog_15_method_15_code 21 = .ok (.bipush 34, 2) := by decide +kernel
theorem d15_15_23 : decode prog_15_method_15_code 23 = .ok (.if_icmp .eq 10, 3) := by decide +kernel
theorem d15_15_26 : decode prog_15_method_15_code 26 = .ok (.aload_n 0, 1) := by decide +kernel
theorem d15_14_0 : decode prog_15_method_14_code 0 = .ok (.aload_n 0, 1) := by decide +kernel
theorem d15_14_1 : decode prog_15_method_14_code 1 = .ok (.invokevirtual 114, 3) := by decide +kernel
theorem d15_14_4 : decode prog_15_method_14_code 4 = .ok (.istore_n 1, 1) := by decide +kernel
theorem d15_14_5 : decode prog_15_method_14_code 5 = .ok (.aload_n 0, 1) := by decide +kernel
theorem d15_14_6 : decode prog_15_method_14_code 6 = .ok (.getfield 91, 3) := by decide +kernel
theorem d15_3_0 : decode prog_15_method_3_code 0 = .ok (.lload_n 0, 1) := by decide +kernel
theorem d15_3_1 : decode prog_15_method_3_code 1 = .ok (.bipush 56, 2) := by decide +kernel
theorem d15_3_3 : decode prog_15_method_3_code 3 = .ok (.lshr, 1) := by decide +kernel
theorem d15_3_4 : decode prog_15_method_3_code 4 = .ok (.l2i, 1) := by decide +kernel
theorem d15_3_5 : decode prog_15_method_3_code 5 = .ok (.ireturn, 1) := by decide +kernel
def y15_3 : MethodName := { cls := "PagedValuesModel", name := "lengthOf", desc := "(J)I" }
theorem k1343 : (Jvm.Cond.code ({ cls := "PagedValuesModel", name := "lengthOf", desc := "(J)I" } : Jvm.MethodName) prog_15_method_3_code (2 : Nat) (Option.some Jvm.ClassFile.FieldType.int)) ∈ TB := tk_6 143 rfl rfl
theorem k1341 : (Jvm.Cond.methodLink "PagedValuesModel" (95 : Nat) ({ cls := "PagedValuesModel", name := "lengthOf", desc := "(J)I" } : Jvm.MethodName)) ∈ TB := tk_6 141 rfl rfl
theorem k1342 : (Jvm.Cond.static ({ cls := "PagedValuesModel", name := "lengthOf", desc := "(J)I" } : Jvm.MethodName)) ∈ TB := tk_6 142 rfl rfl
theorem d15_14_9 : decode prog_15_method_14_code 9 = .ok (.invokestatic 95, 3) := by decide +kernel
theorem d15_14_12 : decode prog_15_method_14_code 12 = .ok (.bipush 10, 2) := by decide +kernel
theorem d15_14_14 : decode prog_15_method_14_code 14 = .ok (.if_icmp .eq 16, 3) := by decide +kernel
theorem d15_14_30 : decode prog_15_method_14_code 30 = .ok (.aload_n 0, 1) := by decide +kernel
theorem d15_14_31 : decode prog_15_method_14_code 31 = .ok (.invokevirtual 118, 3) := by decide +kernel
theorem d15_14_34 : decode prog_15_method_14_code 34 = .ok (.goto 80, 3) := by decide +kernel
theorem d15_14_17 : decode prog_15_method_14_code 17 = .ok (.iload_n 1, 1) := by decide +kernel
theorem d15_14_18 : decode prog_15_method_14_code 18 = .ok (.bipush 32, 2) := by decide +kernel
theorem d15_14_20 : decode prog_15_method_14_code 20 = .ok (.if_icmp .lt 10, 3) := by decide +kernel
theorem d15_14_23 : decode prog_15_method_14_code 23 = .ok (.iload_n 1, 1) := by decide +kernel
theorem d15_14_24 : decode prog_15_method_14_code 24 = .ok (.sipush 255, 3) := by decide +kernel
theorem d15_14_27 : decode prog_15_method_14_code 27 = .ok (.if_icmp .le 10, 3) := by decide +kernel
theorem d15_14_37 : decode prog_15_method_14_code 37 = .ok (.iload_n 1, 1) := by decide +kernel
theorem d15_14_38 : decode prog_15_method_14_code 38 = .ok (.bipush 92, 2) := by decide +kernel
theorem d15_14_40 : decode prog_15_method_14_code 40 = .ok (.if_icmp .eq 21, 3) := by decide +kernel
theorem d15_14_61 : decode prog_15_method_14_code 61 = .ok (.aload_n 0, 1) := by decide +kernel
theorem d15_14_62 : decode prog_15_method_14_code 62 = .ok (.dup, 1) := by decide +kernel
theorem d15_14_63 : decode prog_15_method_14_code 63 = .ok (.getfield 104, 3) := by decide +kernel
theorem d15_14_66 : decode prog_15_method_14_code 66 = .ok (.iconst 1, 1) := by decide +kernel
theorem d15_14_67 : decode prog_15_method_14_code 67 = .ok (.iadd, 1) := by decide +kernel
theorem d15_14_68 : decode prog_15_method_14_code 68 = .ok (.putfield 104, 3) := by decide +kernel
theorem d15_14_71 : decode prog_15_method_14_code 71 = .ok (.aload_n 0, 1) := by decide +kernel
theorem d15_14_72 : decode prog_15_method_14_code 72 = .ok (.invokevirtual 114, 3) := by decide +kernel
theorem d15_14_75 : decode prog_15_method_14_code 75 = .ok (.bipush 34, 2) := by decide +kernel
theorem d15_14_77 : decode prog_15_method_14_code 77 = .ok (.if_icmp .eq 12, 3) := by decide +kernel
theorem d15_14_89 : decode prog_15_method_14_code 89 = .ok (.aload_n 0, 1) := by decide +kernel
theorem d15_14_90 : decode prog_15_method_14_code 90 = .ok (.aload_n 0, 1) := by decide +kernel
theorem d15_14_91 : decode prog_15_method_14_code 91 = .ok (.invokevirtual 114, 3) := by decide +kernel
theorem d15_5_0 : decode prog_15_method_5_code 0 = .ok (.aload_n 0, 1) := by decide +kernel
theorem d15_5_1 : decode prog_15_method_5_code 1 = .ok (.getfield 91, 3) := by decide +kernel
theorem d15_5_4 : decode prog_15_method_5_code 4 = .ok (.invokestatic 95, 3) := by decide +kernel
theorem d15_5_7 : decode prog_15_method_5_code 7 = .ok (.istore_n 2, 1) := by decide +kernel
theorem d15_5_8 : decode prog_15_method_5_code 8 = .ok (.iload_n 2, 1) := by decide +kernel
theorem d15_5_9 : decode prog_15_method_5_code 9 = .ok (.bipush 7, 2) := by decide +kernel
theorem d15_5_11 : decode prog_15_method_5_code 11 = .ok (.if_icmp .ge 18, 3) := by decide +kernel
theorem d15_5_29 : decode prog_15_method_5_code 29 = .ok (.aload_n 0, 1) := by decide +kernel
theorem d15_5_30 : decode prog_15_method_5_code 30 = .ok (.getfield 91, 3) := by decide +kernel
theorem d15_5_14 : decode prog_15_method_5_code 14 = .ok (.aload_n 0, 1) := by decide +kernel
theorem d15_5_15 : decode prog_15_method_5_code 15 = .ok (.getfield 91, 3) := by decide +kernel
theorem d15_5_18 : decode prog_15_method_5_code 18 = .ok (.iload_n 1, 1) := by decide +kernel
theorem d15_5_19 : decode prog_15_method_5_code 19 = .ok (.i2l, 1) := by decide +kernel
theorem d15_5_20 : decode prog_15_method_5_code 20 = .ok (.bipush 8, 2) := by decide +kernel
theorem d15_5_22 : decode prog_15_method_5_code 22 = .ok (.iload_n 2, 1) := by decide +kernel
theorem d15_5_23 : decode prog_15_method_5_code 23 = .ok (.imul, 1) := by decide +kernel
theorem d15_5_24 : decode prog_15_method_5_code 24 = .ok (.lshl, 1) := by decide +kernel
theorem d15_5_25 : decode prog_15_method_5_code 25 = .ok (.lor, 1) := by decide +kernel
theorem d15_5_26 : decode prog_15_method_5_code 26 = .ok (.goto 7, 3) := by decide +kernel
theorem d15_5_33 : decode prog_15_method_5_code 33 = .ok (.lstore_n 3, 1) := by decide +kernel
theorem d15_5_34 : decode prog_15_method_5_code 34 = .ok (.aload_n 0, 1) := by decide +kernel
theorem d15_5_35 : decode prog_15_method_5_code 35 = .ok (.iload_n 2, 1) := by decide +kernel
theorem d15_5_36 : decode prog_15_method_5_code 36 = .ok (.bipush 7, 2) := by decide +kernel
theorem d15_5_38 : decode prog_15_method_5_code 38 = .ok (.if_icmp .ge 10, 3) := by decide +kernel
theorem d15_5_48 : decode prog_15_method_5_code 48 = .ok (.aload_n 0, 1) := by decide +kernel
theorem d15_5_49 : decode prog_15_method_5_code 49 = .ok (.getfield 99, 3) := by decide +kernel
theorem d15_5_52 : decode prog_15_method_5_code 52 = .ok (.iload_n 1, 1) := by decide +kernel
theorem d15_5_53 : decode prog_15_method_5_code 53 = .ok (.i2l, 1) := by decide +kernel
theorem d15_5_54 : decode prog_15_method_5_code 54 = .ok (.bipush 8, 2) := by decide +kernel
theorem d15_5_56 : decode prog_15_method_5_code 56 = .ok (.iload_n 2, 1) := by decide +kernel
theorem d15_5_57 : decode prog_15_method_5_code 57 = .ok (.bipush 7, 2) := by decide +kernel
theorem d15_5_59 : decode prog_15_method_5_code 59 = .ok (.isub, 1) := by decide +kernel
theorem d15_5_60 : decode prog_15_method_5_code 60 = .ok (.imul, 1) := by decide +kernel
theorem d15_5_61 : decode prog_15_method_5_code 61 = .ok (.lshl, 1) := by decide +kernel
theorem d15_5_62 : decode prog_15_method_5_code 62 = .ok (.lor, 1) := by decide +kernel
theorem d15_5_41 : decode prog_15_method_5_code 41 = .ok (.aload_n 0, 1) := by decide +kernel
theorem d15_5_42 : decode prog_15_method_5_code 42 = .ok (.getfield 99, 3) := by decide +kernel
theorem d15_5_45 : decode prog_15_method_5_code 45 = .ok (.goto 18, 3) := by decide +kernel
theorem d15_5_63 : decode prog_15_method_5_code 63 = .ok (.putfield 99, 3) := by decide +kernel
theorem d15_5_66 : decode prog_15_method_5_code 66 = .ok (.aload_n 0, 1) := by decide +kernel
theorem d15_5_67 : decode prog_15_method_5_code 67 = .ok (.lload_n 3, 1) := by decide +kernel
theorem d15_5_68 : decode prog_15_method_5_code 68 = .ok (.ldc2_w 102, 3) := by decide +kernel
theorem k1348 : (Jvm.Cond.constantLong "PagedValuesModel" (102 : Nat) (72057594037927936 : Int64)) ∈ TB := tk_6 148 rfl rfl
theorem d15_5_71 : decode prog_15_method_5_code 71 = .ok (.ladd, 1) := by decide +kernel
theorem d15_5_72 : decode prog_15_method_5_code 72 = .ok (.putfield 91, 3) := by decide +kernel
theorem d15_5_75 : decode prog_15_method_5_code 75 = .ok (.return_, 1) := by decide +kernel
def y15_5 : MethodName := { cls := "PagedValuesModel", name := "add", desc := "(I)V" }
theorem k1347 : (Jvm.Cond.code ({ cls := "PagedValuesModel", name := "add", desc := "(I)V" } : Jvm.MethodName) prog_15_method_5_code (5 : Nat) (Option.none : Option Jvm.ClassFile.FieldType)) ∈ TB := tk_6 147 rfl rfl
theorem k1344 : (Jvm.Cond.methodLink "PagedValuesModel" (125 : Nat) ({ cls := "PagedValuesModel", name := "add", desc := "(I)V" } : Jvm.MethodName)) ∈ TB := tk_6 144 rfl rfl
theorem k1346 : (Jvm.Cond.instanceMethod ({ cls := "PagedValuesModel", name := "add", desc := "(I)V" } : Jvm.MethodName)) ∈ TB := tk_6 146 rfl rfl
theorem ks46 : Cond.selects y15_5.cls y15_5 y15_5 ∈ TB := List.mem_filter.mpr ⟨List.mem_append_left _ (List.mem_of_getElem? (i := 46) (by decide +kernel)), rfl⟩
theorem d15_14_94 : decode prog_15_method_14_code 94 = .ok (.invokevirtual 125, 3) := by decide +kernel
theorem d15_14_97 : decode prog_15_method_14_code 97 = .ok (.aload_n 0, 1) := by decide +kernel
theorem d15_14_98 : decode prog_15_method_14_code 98 = .ok (.dup, 1) := by decide +kernel
theorem d15_14_99 : decode prog_15_method_14_code 99 = .ok (.getfield 104, 3) := by decide +kernel
theorem d15_14_102 : decode prog_15_method_14_code 102 = .ok (.iconst 1, 1) := by decide +kernel
theorem d15_14_103 : decode prog_15_method_14_code 103 = .ok (.iadd, 1) := by decide +kernel
theorem d15_14_104 : decode prog_15_method_14_code 104 = .ok (.putfield 104, 3) := by decide +kernel
theorem d15_14_107 : decode prog_15_method_14_code 107 = .ok (.goto 7, 3) := by decide +kernel
theorem d15_14_80 : decode prog_15_method_14_code 80 = .ok (.aload_n 0, 1) := by decide +kernel
theorem d15_14_81 : decode prog_15_method_14_code 81 = .ok (.invokevirtual 114, 3) := by decide +kernel
theorem d15_14_84 : decode prog_15_method_14_code 84 = .ok (.bipush 92, 2) := by decide +kernel
theorem d15_14_86 : decode prog_15_method_14_code 86 = .ok (.if_icmp .ne 24, 3) := by decide +kernel
theorem d15_14_110 : decode prog_15_method_14_code 110 = .ok (.aload_n 0, 1) := by decide +kernel
theorem d15_14_111 : decode prog_15_method_14_code 111 = .ok (.invokevirtual 118, 3) := by decide +kernel
theorem d15_14_43 : decode prog_15_method_14_code 43 = .ok (.aload_n 0, 1) := by decide +kernel
theorem d15_14_44 : decode prog_15_method_14_code 44 = .ok (.iload_n 1, 1) := by decide +kernel
theorem d15_14_45 : decode prog_15_method_14_code 45 = .ok (.invokevirtual 125, 3) := by decide +kernel
theorem d15_14_48 : decode prog_15_method_14_code 48 = .ok (.aload_n 0, 1) := by decide +kernel
theorem d15_14_49 : decode prog_15_method_14_code 49 = .ok (.dup, 1) := by decide +kernel
theorem d15_14_50 : decode prog_15_method_14_code 50 = .ok (.getfield 104, 3) := by decide +kernel
theorem d15_14_53 : decode prog_15_method_14_code 53 = .ok (.iconst 1, 1) := by decide +kernel
theorem d15_14_54 : decode prog_15_method_14_code 54 = .ok (.iadd, 1) := by decide +kernel
theorem d15_14_55 : decode prog_15_method_14_code 55 = .ok (.putfield 104, 3) := by decide +kernel
theorem d15_14_58 : decode prog_15_method_14_code 58 = .ok (.goto 56, 3) := by decide +kernel
theorem d15_14_114 : decode prog_15_method_14_code 114 = .ok (.return_, 1) := by decide +kernel
def y15_14 : MethodName := { cls := "PagedValuesModel", name := "character", desc := "()V" }
theorem k1340 : (Jvm.Cond.code ({ cls := "PagedValuesModel", name := "character", desc := "()V" } : Jvm.MethodName) prog_15_method_14_code (2 : Nat) (Option.none : Option Jvm.ClassFile.FieldType)) ∈ TB := tk_6 140 rfl rfl
theorem k1337 : (Jvm.Cond.methodLink "PagedValuesModel" (135 : Nat) ({ cls := "PagedValuesModel", name := "character", desc := "()V" } : Jvm.MethodName)) ∈ TB := tk_6 137 rfl rfl
theorem k1339 : (Jvm.Cond.instanceMethod ({ cls := "PagedValuesModel", name := "character", desc := "()V" } : Jvm.MethodName)) ∈ TB := tk_6 139 rfl rfl
theorem ks45 : Cond.selects y15_14.cls y15_14 y15_14 ∈ TB := List.mem_filter.mpr ⟨List.mem_append_left _ (List.mem_of_getElem? (i := 45) (by decide +kernel)), rfl⟩
theorem d15_15_27 : decode prog_15_method_15_code 27 = .ok (.invokevirtual 135, 3) := by decide +kernel
theorem d15_15_30 : decode prog_15_method_15_code 30 = .ok (.goto (-20), 3) := by decide +kernel
def y15_15 : MethodName := { cls := "PagedValuesModel", name := "string", desc := "()V" }
theorem k1328 : (Jvm.Cond.code ({ cls := "PagedValuesModel", name := "string", desc := "()V" } : Jvm.MethodName) prog_15_method_15_code (1 : Nat) (Option.none : Option Jvm.ClassFile.FieldType)) ∈ TB := tk_6 128 rfl rfl
theorem k1325 : (Jvm.Cond.methodLink "PagedValuesModel" (145 : Nat) ({ cls := "PagedValuesModel", name := "string", desc := "()V" } : Jvm.MethodName)) ∈ TB := tk_6 125 rfl rfl
theorem k1327 : (Jvm.Cond.instanceMethod ({ cls := "PagedValuesModel", name := "string", desc := "()V" } : Jvm.MethodName)) ∈ TB := tk_6 127 rfl rfl
theorem ks42 : Cond.selects y15_15.cls y15_15 y15_15 ∈ TB := List.mem_filter.mpr ⟨List.mem_append_left _ (List.mem_of_getElem? (i := 42) (by decide +kernel)), rfl⟩
theorem d15_18_12 : decode prog_15_method_18_code 12 = .ok (.invokevirtual 145, 3) := by decide +kernel
theorem d15_18_15 : decode prog_15_method_18_code 15 = .ok (.iconst 4, 1) := by decide +kernel
theorem d15_18_16 : decode prog_15_method_18_code 16 = .ok (.ireturn, 1) := by decide +kernel
def y15_18 : MethodName := { cls := "PagedValuesModel", name := "plain", desc := "()I" }
theorem k1324 : (Jvm.Cond.code ({ cls := "PagedValuesModel", name := "plain", desc := "()I" } : Jvm.MethodName) prog_15_method_18_code (2 : Nat) (Option.some Jvm.ClassFile.FieldType.int)) ∈ TB := tk_6 124 rfl rfl
theorem k1321 : (Jvm.Cond.methodLink "PagedValuesModel" (179 : Nat) ({ cls := "PagedValuesModel", name := "plain", desc := "()I" } : Jvm.MethodName)) ∈ TB := tk_6 121 rfl rfl
theorem k1323 : (Jvm.Cond.instanceMethod ({ cls := "PagedValuesModel", name := "plain", desc := "()I" } : Jvm.MethodName)) ∈ TB := tk_6 123 rfl rfl
theorem ks41 : Cond.selects y15_18.cls y15_18 y15_18 ∈ TB := List.mem_filter.mpr ⟨List.mem_append_left _ (List.mem_of_getElem? (i := 41) (by decide +kernel)), rfl⟩
theorem d15_25_36 : decode prog_15_method_25_code 36 = .ok (.invokevirtual 179, 3) := by decide +kernel
theorem d15_25_39 : decode prog_15_method_25_code 39 = .ok (.istore_n 2, 1) := by decide +kernel
theorem d15_25_40 : decode prog_15_method_25_code 40 = .ok (.aload_n 0, 1) := by decide +kernel
theorem d15_25_41 : decode prog_15_method_25_code 41 = .ok (.iload_n 2, 1) := by decide +kernel
theorem d15_25_42 : decode prog_15_method_25_code 42 = .ok (.aload_n 0, 1) := by decide +kernel
theorem d15_25_43 : decode prog_15_method_25_code 43 = .ok (.getfield 91, 3) := by decide +kernel
theorem d15_25_46 : decode prog_15_method_25_code 46 = .ok (.aload_n 0, 1) := by decide +kernel
theorem d15_25_47 : decode prog_15_method_25_code 47 = .ok (.getfield 99, 3) := by decide +kernel
theorem d15_25_50 : decode prog_15_method_25_code 50 = .ok (.invokevirtual 182, 3) := by decide +kernel
theorem d15_25_53 : decode prog_15_method_25_code 53 = .ok (.iconst 0, 1) := by decide +kernel
theorem d15_25_54 : decode prog_15_method_25_code 54 = .ok (.ireturn, 1) := by decide +kernel
theorem d15_25_9 : decode prog_15_method_25_code 9 = .ok (.aload_n 0, 1) := by decide +kernel
theorem d15_25_10 : decode prog_15_method_25_code 10 = .ok (.invokevirtual 118, 3) := by decide +kernel
theorem d15_25_13 : decode prog_15_method_25_code 13 = .ok (.iconst 0, 1) := by decide +kernel
theorem d15_25_14 : decode prog_15_method_25_code 14 = .ok (.ireturn, 1) := by decide +kernel
def y15_25 : MethodName := { cls := "PagedValuesModel", name := "begins", desc := "()Z" }
theorem k1316 : (Jvm.Cond.code ({ cls := "PagedValuesModel", name := "begins", desc := "()Z" } : Jvm.MethodName) prog_15_method_25_code (3 : Nat) (Option.some Jvm.ClassFile.FieldType.boolean)) ∈ TB := tk_6 116 rfl rfl
theorem k1313 : (Jvm.Cond.methodLink "PagedValuesModel" (186 : Nat) ({ cls := "PagedValuesModel", name := "begins", desc := "()Z" } : Jvm.MethodName)) ∈ TB := tk_6 113 rfl rfl
theorem k1315 : (Jvm.Cond.instanceMethod ({ cls := "PagedValuesModel", name := "begins", desc := "()Z" } : Jvm.MethodName)) ∈ TB := tk_6 115 rfl rfl
theorem ks39 : Cond.selects y15_25.cls y15_25 y15_25 ∈ TB := List.mem_filter.mpr ⟨List.mem_append_left _ (List.mem_of_getElem? (i := 39) (by decide +kernel)), rfl⟩
theorem d15_28_31 : decode prog_15_method_28_code 31 = .ok (.invokevirtual 186, 3) := by decide +kernel
theorem d15_28_34 : decode prog_15_method_28_code 34 = .ok (.istore_n 1, 1) := by decide +kernel
theorem d15_28_35 : decode prog_15_method_28_code 35 = .ok (.iconst 0, 1) := by decide +kernel
theorem d15_28_36 : decode prog_15_method_28_code 36 = .ok (.istore_n 2, 1) := by decide +kernel
theorem d15_28_171 : decode prog_15_method_28_code 171 = .ok (.aload_n 0, 1) := by decide +kernel
theorem d15_28_172 : decode prog_15_method_28_code 172 = .ok (.invokevirtual 176, 3) := by decide +kernel
theorem d15_28_175 : decode prog_15_method_28_code 175 = .ok (.aload_n 0, 1) := by decide +kernel
theorem d15_28_176 : decode prog_15_method_28_code 176 = .ok (.getfield 111, 3) := by decide +kernel
theorem d15_28_179 : decode prog_15_method_28_code 179 = .ok (.ifCond .ge 18, 3) := by decide +kernel
theorem d15_28_182 : decode prog_15_method_28_code 182 = .ok (.aload_n 0, 1) := by decide +kernel
theorem d15_28_183 : decode prog_15_method_28_code 183 = .ok (.getfield 104, 3) := by decide +kernel
theorem d15_28_186 : decode prog_15_method_28_code 186 = .ok (.aload_n 0, 1) := by decide +kernel
theorem d15_28_187 : decode prog_15_method_28_code 187 = .ok (.getfield 108, 3) := by decide +kernel
theorem d15_28_190 : decode prog_15_method_28_code 190 = .ok (.if_icmp .ge 7, 3) := by decide +kernel
theorem d15_28_193 : decode prog_15_method_28_code 193 = .ok (.aload_n 0, 1) := by decide +kernel
theorem d15_28_194 : decode prog_15_method_28_code 194 = .ok (.invokevirtual 118, 3) := by decide +kernel
theorem d15_28_197 : decode prog_15_method_28_code 197 = .ok (.return_, 1) := by decide +kernel
theorem d15_28_37 : decode prog_15_method_28_code 37 = .ok (.iload_n 2, 1) := by decide +kernel
theorem d15_28_38 : decode prog_15_method_28_code 38 = .ok (.sipush 200, 3) := by decide +kernel
theorem d15_28_41 : decode prog_15_method_28_code 41 = .ok (.if_icmp .ge 130, 3) := by decide +kernel
theorem d15_28_44 : decode prog_15_method_28_code 44 = .ok (.aload_n 0, 1) := by decide +kernel
theorem d15_28_45 : decode prog_15_method_28_code 45 = .ok (.getfield 111, 3) := by decide +kernel
theorem d15_28_48 : decode prog_15_method_28_code 48 = .ok (.ifCond .ge 123, 3) := by decide +kernel
theorem d15_28_51 : decode prog_15_method_28_code 51 = .ok (.aload_n 0, 1) := by decide +kernel
theorem d15_28_52 : decode prog_15_method_28_code 52 = .ok (.getfield 165, 3) := by decide +kernel
theorem d15_28_55 : decode prog_15_method_28_code 55 = .ok (.ifCond .gt 7, 3) := by decide +kernel
theorem d15_28_62 : decode prog_15_method_28_code 62 = .ok (.aload_n 0, 1) := by decide +kernel
theorem d15_28_63 : decode prog_15_method_28_code 63 = .ok (.invokevirtual 176, 3) := by decide +kernel
theorem d15_28_66 : decode prog_15_method_28_code 66 = .ok (.aload_n 0, 1) := by decide +kernel
theorem d15_27_0 : decode prog_15_method_27_code 0 = .ok (.aload_n 0, 1) := by decide +kernel
theorem d15_27_1 : decode prog_15_method_27_code 1 = .ok (.getfield 13, 3) := by decide +kernel
theorem d15_27_4 : decode prog_15_method_27_code 4 = .ok (.bipush 80, 2) := by decide +kernel
theorem d15_27_6 : decode prog_15_method_27_code 6 = .ok (.invokestatic 159, 3) := by decide +kernel
theorem d15_27_9 : decode prog_15_method_27_code 9 = .ok (.aload_n 0, 1) := by decide +kernel
theorem d15_27_10 : decode prog_15_method_27_code 10 = .ok (.getfield 33, 3) := by decide +kernel
theorem d15_27_13 : decode prog_15_method_27_code 13 = .ok (.aload_n 0, 1) := by decide +kernel
theorem d15_27_14 : decode prog_15_method_27_code 14 = .ok (.getfield 165, 3) := by decide +kernel
theorem d15_27_17 : decode prog_15_method_27_code 17 = .ok (.iconst 1, 1) := by decide +kernel
theorem d15_27_18 : decode prog_15_method_27_code 18 = .ok (.isub, 1) := by decide +kernel
theorem d15_27_19 : decode prog_15_method_27_code 19 = .ok (.iaload, 1) := by decide +kernel
theorem d15_27_20 : decode prog_15_method_27_code 20 = .ok (.iadd, 1) := by decide +kernel
theorem d15_27_21 : decode prog_15_method_27_code 21 = .ok (.baload, 1) := by decide +kernel
theorem d15_27_22 : decode prog_15_method_27_code 22 = .ok (.ireturn, 1) := by decide +kernel
def y15_27 : MethodName := { cls := "PagedValuesModel", name := "holder", desc := "()I" }
theorem k1376 : (Jvm.Cond.code ({ cls := "PagedValuesModel", name := "holder", desc := "()I" } : Jvm.MethodName) prog_15_method_27_code (1 : Nat) (Option.some Jvm.ClassFile.FieldType.int)) ∈ TB := tk_6 176 rfl rfl
theorem k1373 : (Jvm.Cond.methodLink "PagedValuesModel" (190 : Nat) ({ cls := "PagedValuesModel", name := "holder", desc := "()I" } : Jvm.MethodName)) ∈ TB := tk_6 173 rfl rfl
theorem k1375 : (Jvm.Cond.instanceMethod ({ cls := "PagedValuesModel", name := "holder", desc := "()I" } : Jvm.MethodName)) ∈ TB := tk_6 175 rfl rfl
theorem ks52 : Cond.selects y15_27.cls y15_27 y15_27 ∈ TB := List.mem_filter.mpr ⟨List.mem_append_left _ (List.mem_of_getElem? (i := 52) (by decide +kernel)), rfl⟩
theorem d15_28_67 : decode prog_15_method_28_code 67 = .ok (.invokevirtual 190, 3) := by decide +kernel
theorem d15_28_70 : decode prog_15_method_28_code 70 = .ok (.iconst 5, 1) := by decide +kernel
theorem d15_28_71 : decode prog_15_method_28_code 71 = .ok (.if_icmp .ne 7, 3) := by decide +kernel
theorem d15_28_78 : decode prog_15_method_28_code 78 = .ok (.iconst 0, 1) := by decide +kernel
theorem d15_28_74 : decode prog_15_method_28_code 74 = .ok (.iconst 1, 1) := by decide +kernel
theorem d15_28_75 : decode prog_15_method_28_code 75 = .ok (.goto 4, 3) := by decide +kernel
theorem d15_28_79 : decode prog_15_method_28_code 79 = .ok (.istore_n 3, 1) := by decide +kernel
theorem d15_28_80 : decode prog_15_method_28_code 80 = .ok (.aload_n 0, 1) := by decide +kernel
theorem d15_28_81 : decode prog_15_method_28_code 81 = .ok (.iload_n 3, 1) := by decide +kernel
theorem d15_28_82 : decode prog_15_method_28_code 82 = .ok (.ifCond .eq 8, 3) := by decide +kernel
theorem d15_28_90 : decode prog_15_method_28_code 90 = .ok (.bipush 125, 2) := by decide +kernel
theorem d15_28_85 : decode prog_15_method_28_code 85 = .ok (.bipush 93, 2) := by decide +kernel
theorem d15_28_87 : decode prog_15_method_28_code 87 = .ok (.goto 5, 3) := by decide +kernel
theorem d15_28_92 : decode prog_15_method_28_code 92 = .ok (.invokevirtual 121, 3) := by decide +kernel
theorem d15_28_95 : decode prog_15_method_28_code 95 = .ok (.ifCond .eq 12, 3) := by decide +kernel
theorem d15_28_107 : decode prog_15_method_28_code 107 = .ok (.iload_n 1, 1) := by decide +kernel
theorem d15_28_108 : decode prog_15_method_28_code 108 = .ok (.ifCond .ne 13, 3) := by decide +kernel
theorem d15_28_111 : decode prog_15_method_28_code 111 = .ok (.aload_n 0, 1) := by decide +kernel
theorem d15_28_112 : decode prog_15_method_28_code 112 = .ok (.bipush 44, 2) := by decide +kernel
theorem d15_28_114 : decode prog_15_method_28_code 114 = .ok (.invokevirtual 132, 3) := by decide +kernel
theorem d15_28_117 : decode prog_15_method_28_code 117 = .ok (.aload_n 0, 1) := by decide +kernel
theorem d15_28_118 : decode prog_15_method_28_code 118 = .ok (.invokevirtual 176, 3) := by decide +kernel
theorem d15_28_121 : decode prog_15_method_28_code 121 = .ok (.iload_n 3, 1) := by decide +kernel
theorem d15_28_122 : decode prog_15_method_28_code 122 = .ok (.ifCond .eq 12, 3) := by decide +kernel
theorem d15_28_134 : decode prog_15_method_28_code 134 = .ok (.aload_n 0, 1) := by decide +kernel
theorem d15_28_135 : decode prog_15_method_28_code 135 = .ok (.getfield 111, 3) := by decide +kernel
theorem d15_28_138 : decode prog_15_method_28_code 138 = .ok (.ifCond .ge 7, 3) := by decide +kernel
theorem d15_28_141 : decode prog_15_method_28_code 141 = .ok (.aload_n 0, 1) := by decide +kernel
theorem d15_24_0 : decode prog_15_method_24_code 0 = .ok (.aload_n 0, 1) := by decide +kernel
theorem d15_24_1 : decode prog_15_method_24_code 1 = .ok (.getfield 104, 3) := by decide +kernel
theorem d15_24_4 : decode prog_15_method_24_code 4 = .ok (.istore_n 1, 1) := by decide +kernel
theorem d15_24_5 : decode prog_15_method_24_code 5 = .ok (.aload_n 0, 1) := by decide +kernel
theorem d15_24_6 : decode prog_15_method_24_code 6 = .ok (.invokevirtual 145, 3) := by decide +kernel
theorem d15_24_9 : decode prog_15_method_24_code 9 = .ok (.bipush 80, 2) := by decide +kernel
theorem d15_24_11 : decode prog_15_method_24_code 11 = .ok (.invokestatic 159, 3) := by decide +kernel
theorem d15_24_14 : decode prog_15_method_24_code 14 = .ok (.aload_n 0, 1) := by decide +kernel
theorem d15_24_15 : decode prog_15_method_24_code 15 = .ok (.getfield 33, 3) := by decide +kernel
theorem d15_24_18 : decode prog_15_method_24_code 18 = .ok (.aload_n 0, 1) := by decide +kernel
theorem d15_24_19 : decode prog_15_method_24_code 19 = .ok (.getfield 165, 3) := by decide +kernel
theorem d15_24_22 : decode prog_15_method_24_code 22 = .ok (.iconst 1, 1) := by decide +kernel
theorem d15_24_23 : decode prog_15_method_24_code 23 = .ok (.isub, 1) := by decide +kernel
theorem d15_24_24 : decode prog_15_method_24_code 24 = .ok (.iaload, 1) := by decide +kernel
theorem d15_24_25 : decode prog_15_method_24_code 25 = .ok (.iadd, 1) := by decide +kernel
theorem d15_24_26 : decode prog_15_method_24_code 26 = .ok (.istore_n 2, 1) := by decide +kernel
theorem d15_24_27 : decode prog_15_method_24_code 27 = .ok (.aload_n 0, 1) := by decide +kernel
theorem d15_24_28 : decode prog_15_method_24_code 28 = .ok (.getfield 17, 3) := by decide +kernel
theorem d15_24_31 : decode prog_15_method_24_code 31 = .ok (.iload_n 2, 1) := by decide +kernel
theorem d15_24_32 : decode prog_15_method_24_code 32 = .ok (.aload_n 0, 1) := by decide +kernel
theorem d15_24_33 : decode prog_15_method_24_code 33 = .ok (.getfield 162, 3) := by decide +kernel
theorem d15_24_36 : decode prog_15_method_24_code 36 = .ok (.aload_n 0, 1) := by decide +kernel
theorem d15_24_37 : decode prog_15_method_24_code 37 = .ok (.getfield 33, 3) := by decide +kernel
theorem d15_24_40 : decode prog_15_method_24_code 40 = .ok (.aload_n 0, 1) := by decide +kernel
theorem d15_24_41 : decode prog_15_method_24_code 41 = .ok (.getfield 165, 3) := by decide +kernel
theorem d15_24_44 : decode prog_15_method_24_code 44 = .ok (.iconst 1, 1) := by decide +kernel
theorem d15_24_45 : decode prog_15_method_24_code 45 = .ok (.isub, 1) := by decide +kernel
theorem d15_24_46 : decode prog_15_method_24_code 46 = .ok (.iaload, 1) := by decide +kernel
theorem d15_24_47 : decode prog_15_method_24_code 47 = .ok (.isub, 1) := by decide +kernel
theorem d15_24_48 : decode prog_15_method_24_code 48 = .ok (.i2b, 1) := by decide +kernel
theorem d15_24_49 : decode prog_15_method_24_code 49 = .ok (.bastore, 1) := by decide +kernel
theorem d15_24_50 : decode prog_15_method_24_code 50 = .ok (.aload_n 0, 1) := by decide +kernel
theorem d15_24_51 : decode prog_15_method_24_code 51 = .ok (.getfield 111, 3) := by decide +kernel
theorem d15_24_54 : decode prog_15_method_24_code 54 = .ok (.ifCond .ge 24, 3) := by decide +kernel
theorem d15_24_57 : decode prog_15_method_24_code 57 = .ok (.aload_n 0, 1) := by decide +kernel
theorem d15_24_58 : decode prog_15_method_24_code 58 = .ok (.iload_n 2, 1) := by decide +kernel
theorem d15_24_59 : decode prog_15_method_24_code 59 = .ok (.aload_n 0, 1) := by decide +kernel
theorem d15_24_60 : decode prog_15_method_24_code 60 = .ok (.getfield 91, 3) := by decide +kernel
theorem d15_24_63 : decode prog_15_method_24_code 63 = .ok (.aload_n 0, 1) := by decide +kernel
theorem d15_24_64 : decode prog_15_method_24_code 64 = .ok (.getfield 99, 3) := by decide +kernel
theorem d15_22_0 : decode prog_15_method_22_code 0 = .ok (.iconst (-1), 1) := by decide +kernel
theorem d15_22_1 : decode prog_15_method_22_code 1 = .ok (.istore 6, 2) := by decide +kernel
theorem d15_22_3 : decode prog_15_method_22_code 3 = .ok (.iload_n 1, 1) := by decide +kernel
theorem d15_22_4 : decode prog_15_method_22_code 4 = .ok (.iconst 1, 1) := by decide +kernel
theorem d15_22_5 : decode prog_15_method_22_code 5 = .ok (.iadd, 1) := by decide +kernel
theorem d15_22_6 : decode prog_15_method_22_code 6 = .ok (.istore 7, 2) := by decide +kernel
theorem d15_22_70 : decode prog_15_method_22_code 70 = .ok (.iload 6, 2) := by decide +kernel
theorem d15_22_72 : decode prog_15_method_22_code 72 = .ok (.ireturn, 1) := by decide +kernel
theorem d15_22_8 : decode prog_15_method_22_code 8 = .ok (.iload 7, 2) := by decide +kernel
theorem d15_22_10 : decode prog_15_method_22_code 10 = .ok (.iload_n 1, 1) := by decide +kernel
theorem d15_22_11 : decode prog_15_method_22_code 11 = .ok (.aload_n 0, 1) := by decide +kernel
theorem d15_22_12 : decode prog_15_method_22_code 12 = .ok (.getfield 17, 3) := by decide +kernel
theorem d15_22_15 : decode prog_15_method_22_code 15 = .ok (.iload_n 1, 1) := by decide +kernel
theorem d15_22_16 : decode prog_15_method_22_code 16 = .ok (.baload, 1) := by decide +kernel
theorem d15_22_17 : decode prog_15_method_22_code 17 = .ok (.iadd, 1) := by decide +kernel
theorem d15_22_18 : decode prog_15_method_22_code 18 = .ok (.if_icmp .ge 52, 3) := by decide +kernel
theorem d15_22_21 : decode prog_15_method_22_code 21 = .ok (.aload_n 0, 1) := by decide +kernel
theorem d15_22_22 : decode prog_15_method_22_code 22 = .ok (.getfield 27, 3) := by decide +kernel
theorem d15_22_25 : decode prog_15_method_22_code 25 = .ok (.iload 7, 2) := by decide +kernel
theorem d15_22_27 : decode prog_15_method_22_code 27 = .ok (.laload, 1) := by decide +kernel
theorem d15_22_28 : decode prog_15_method_22_code 28 = .ok (.lload_n 2, 1) := by decide +kernel
theorem d15_22_29 : decode prog_15_method_22_code 29 = .ok (.lcmp, 1) := by decide +kernel
theorem d15_22_30 : decode prog_15_method_22_code 30 = .ok (.ifCond .ne 21, 3) := by decide +kernel
theorem d15_22_51 : decode prog_15_method_22_code 51 = .ok (.iload 6, 2) := by decide +kernel
theorem d15_22_33 : decode prog_15_method_22_code 33 = .ok (.aload_n 0, 1) := by decide +kernel
theorem d15_22_34 : decode prog_15_method_22_code 34 = .ok (.getfield 30, 3) := by decide +kernel
theorem d15_22_37 : decode prog_15_method_22_code 37 = .ok (.iload 7, 2) := by decide +kernel
theorem d15_22_39 : decode prog_15_method_22_code 39 = .ok (.laload, 1) := by decide +kernel
theorem d15_22_40 : decode prog_15_method_22_code 40 = .ok (.lload 4, 2) := by decide +kernel
theorem d15_22_42 : decode prog_15_method_22_code 42 = .ok (.lcmp, 1) := by decide +kernel
theorem d15_22_43 : decode prog_15_method_22_code 43 = .ok (.ifCond .ne 8, 3) := by decide +kernel
theorem d15_22_46 : decode prog_15_method_22_code 46 = .ok (.iload 7, 2) := by decide +kernel
theorem d15_22_48 : decode prog_15_method_22_code 48 = .ok (.goto 5, 3) := by decide +kernel
theorem d15_22_53 : decode prog_15_method_22_code 53 = .ok (.istore 6, 2) := by decide +kernel
theorem d15_22_55 : decode prog_15_method_22_code 55 = .ok (.iload 7, 2) := by decide +kernel
theorem d15_22_57 : decode prog_15_method_22_code 57 = .ok (.aload_n 0, 1) := by decide +kernel
theorem d15_22_58 : decode prog_15_method_22_code 58 = .ok (.getfield 17, 3) := by decide +kernel
theorem d15_22_61 : decode prog_15_method_22_code 61 = .ok (.iload 7, 2) := by decide +kernel
theorem d15_22_63 : decode prog_15_method_22_code 63 = .ok (.baload, 1) := by decide +kernel
theorem d15_22_64 : decode prog_15_method_22_code 64 = .ok (.iadd, 1) := by decide +kernel
theorem d15_22_65 : decode prog_15_method_22_code 65 = .ok (.istore 7, 2) := by decide +kernel
theorem d15_22_67 : decode prog_15_method_22_code 67 = .ok (.goto (-59), 3) := by decide +kernel
def y15_22 : MethodName := { cls := "PagedValuesModel", name := "member", desc := "(IJJ)I" }
theorem k1388 : (Jvm.Cond.code ({ cls := "PagedValuesModel", name := "member", desc := "(IJJ)I" } : Jvm.MethodName) prog_15_method_22_code (8 : Nat) (Option.some Jvm.ClassFile.FieldType.int)) ∈ TB := tk_6 188 rfl rfl
theorem k1385 : (Jvm.Cond.methodLink "PagedValuesModel" (168 : Nat) ({ cls := "PagedValuesModel", name := "member", desc := "(IJJ)I" } : Jvm.MethodName)) ∈ TB := tk_6 185 rfl rfl
theorem k1387 : (Jvm.Cond.instanceMethod ({ cls := "PagedValuesModel", name := "member", desc := "(IJJ)I" } : Jvm.MethodName)) ∈ TB := tk_6 187 rfl rfl
theorem ks55 : Cond.selects y15_22.cls y15_22 y15_22 ∈ TB := List.mem_filter.mpr ⟨List.mem_append_left _ (List.mem_of_getElem? (i := 55) (by decide +kernel)), rfl⟩
theorem d15_24_67 : decode prog_15_method_24_code 67 = .ok (.invokevirtual 168, 3) := by decide +kernel
theorem d15_24_70 : decode prog_15_method_24_code 70 = .ok (.ifCond .lt 8, 3) := by decide +kernel
theorem d15_24_73 : decode prog_15_method_24_code 73 = .ok (.aload_n 0, 1) := by decide +kernel
theorem d15_24_74 : decode prog_15_method_24_code 74 = .ok (.iload_n 1, 1) := by decide +kernel
theorem d15_24_75 : decode prog_15_method_24_code 75 = .ok (.putfield 111, 3) := by decide +kernel
theorem d15_24_78 : decode prog_15_method_24_code 78 = .ok (.aload_n 0, 1) := by decide +kernel
theorem d15_24_79 : decode prog_15_method_24_code 79 = .ok (.aload_n 0, 1) := by decide +kernel
theorem d15_24_80 : decode prog_15_method_24_code 80 = .ok (.getfield 91, 3) := by decide +kernel
theorem d15_24_83 : decode prog_15_method_24_code 83 = .ok (.aload_n 0, 1) := by decide +kernel
theorem d15_24_84 : decode prog_15_method_24_code 84 = .ok (.getfield 99, 3) := by decide +kernel
theorem d15_24_87 : decode prog_15_method_24_code 87 = .ok (.invokevirtual 172, 3) := by decide +kernel
theorem d15_24_90 : decode prog_15_method_24_code 90 = .ok (.aload_n 0, 1) := by decide +kernel
theorem d15_24_91 : decode prog_15_method_24_code 91 = .ok (.invokevirtual 176, 3) := by decide +kernel
theorem d15_24_94 : decode prog_15_method_24_code 94 = .ok (.aload_n 0, 1) := by decide +kernel
theorem d15_24_95 : decode prog_15_method_24_code 95 = .ok (.bipush 58, 2) := by decide +kernel
theorem d15_24_97 : decode prog_15_method_24_code 97 = .ok (.invokevirtual 132, 3) := by decide +kernel
theorem d15_24_100 : decode prog_15_method_24_code 100 = .ok (.aload_n 0, 1) := by decide +kernel
theorem d15_24_101 : decode prog_15_method_24_code 101 = .ok (.invokevirtual 176, 3) := by decide +kernel
theorem d15_24_104 : decode prog_15_method_24_code 104 = .ok (.return_, 1) := by decide +kernel
def y15_24 : MethodName := { cls := "PagedValuesModel", name := "memberName", desc := "()V" }
theorem k1384 : (Jvm.Cond.code ({ cls := "PagedValuesModel", name := "memberName", desc := "()V" } : Jvm.MethodName) prog_15_method_24_code (3 : Nat) (Option.none : Option Jvm.ClassFile.FieldType)) ∈ TB := tk_6 184 rfl rfl
theorem k1381 : (Jvm.Cond.methodLink "PagedValuesModel" (196 : Nat) ({ cls := "PagedValuesModel", name := "memberName", desc := "()V" } : Jvm.MethodName)) ∈ TB := tk_6 181 rfl rfl
theorem k1383 : (Jvm.Cond.instanceMethod ({ cls := "PagedValuesModel", name := "memberName", desc := "()V" } : Jvm.MethodName)) ∈ TB := tk_6 183 rfl rfl
theorem ks54 : Cond.selects y15_24.cls y15_24 y15_24 ∈ TB := List.mem_filter.mpr ⟨List.mem_append_left _ (List.mem_of_getElem? (i := 54) (by decide +kernel)), rfl⟩
theorem d15_28_142 : decode prog_15_method_28_code 142 = .ok (.invokevirtual 196, 3) := by decide +kernel
theorem d15_28_125 : decode prog_15_method_28_code 125 = .ok (.aload_n 0, 1) := by decide +kernel
theorem d15_28_126 : decode prog_15_method_28_code 126 = .ok (.lconst 0, 1) := by decide +kernel
theorem d15_28_127 : decode prog_15_method_28_code 127 = .ok (.lconst 0, 1) := by decide +kernel
theorem d15_28_128 : decode prog_15_method_28_code 128 = .ok (.invokevirtual 172, 3) := by decide +kernel
theorem d15_28_131 : decode prog_15_method_28_code 131 = .ok (.goto 14, 3) := by decide +kernel
theorem d15_28_145 : decode prog_15_method_28_code 145 = .ok (.aload_n 0, 1) := by decide +kernel
theorem d15_28_146 : decode prog_15_method_28_code 146 = .ok (.getfield 111, 3) := by decide +kernel
theorem d15_28_149 : decode prog_15_method_28_code 149 = .ok (.ifCond .ge 14, 3) := by decide +kernel
theorem d15_28_163 : decode prog_15_method_28_code 163 = .ok (.iconst 0, 1) := by decide +kernel
theorem d15_28_152 : decode prog_15_method_28_code 152 = .ok (.aload_n 0, 1) := by decide +kernel
theorem d15_28_153 : decode prog_15_method_28_code 153 = .ok (.invokevirtual 186, 3) := by decide +kernel
theorem d15_28_156 : decode prog_15_method_28_code 156 = .ok (.ifCond .eq 7, 3) := by decide +kernel
theorem d15_28_159 : decode prog_15_method_28_code 159 = .ok (.iconst 1, 1) := by decide +kernel
theorem d15_28_160 : decode prog_15_method_28_code 160 = .ok (.goto 4, 3) := by decide +kernel
theorem d15_28_164 : decode prog_15_method_28_code 164 = .ok (.istore_n 1, 1) := by decide +kernel
theorem d15_28_98 : decode prog_15_method_28_code 98 = .ok (.aload_n 0, 1) := by decide +kernel
theorem d15_26_0 : decode prog_15_method_26_code 0 = .ok (.aload_n 0, 1) := by decide +kernel
theorem d15_26_1 : decode prog_15_method_26_code 1 = .ok (.dup, 1) := by decide +kernel
theorem d15_26_2 : decode prog_15_method_26_code 2 = .ok (.getfield 165, 3) := by decide +kernel
theorem d15_26_5 : decode prog_15_method_26_code 5 = .ok (.iconst 1, 1) := by decide +kernel
theorem d15_26_6 : decode prog_15_method_26_code 6 = .ok (.isub, 1) := by decide +kernel
theorem d15_26_7 : decode prog_15_method_26_code 7 = .ok (.putfield 165, 3) := by decide +kernel
theorem d15_26_10 : decode prog_15_method_26_code 10 = .ok (.aload_n 0, 1) := by decide +kernel
theorem d15_26_11 : decode prog_15_method_26_code 11 = .ok (.dup, 1) := by decide +kernel
theorem d15_26_12 : decode prog_15_method_26_code 12 = .ok (.getfield 104, 3) := by decide +kernel
theorem d15_26_15 : decode prog_15_method_26_code 15 = .ok (.iconst 1, 1) := by decide +kernel
theorem d15_26_16 : decode prog_15_method_26_code 16 = .ok (.iadd, 1) := by decide +kernel
theorem d15_26_17 : decode prog_15_method_26_code 17 = .ok (.putfield 104, 3) := by decide +kernel
theorem d15_26_20 : decode prog_15_method_26_code 20 = .ok (.aload_n 0, 1) := by decide +kernel
theorem d15_26_21 : decode prog_15_method_26_code 21 = .ok (.getfield 17, 3) := by decide +kernel
theorem d15_26_24 : decode prog_15_method_26_code 24 = .ok (.bipush 80, 2) := by decide +kernel
theorem d15_26_26 : decode prog_15_method_26_code 26 = .ok (.invokestatic 159, 3) := by decide +kernel
theorem d15_26_29 : decode prog_15_method_26_code 29 = .ok (.aload_n 0, 1) := by decide +kernel
theorem d15_26_30 : decode prog_15_method_26_code 30 = .ok (.getfield 33, 3) := by decide +kernel
theorem d15_26_33 : decode prog_15_method_26_code 33 = .ok (.aload_n 0, 1) := by decide +kernel
theorem d15_26_34 : decode prog_15_method_26_code 34 = .ok (.getfield 165, 3) := by decide +kernel
theorem d15_26_37 : decode prog_15_method_26_code 37 = .ok (.iaload, 1) := by decide +kernel
theorem d15_26_38 : decode prog_15_method_26_code 38 = .ok (.iadd, 1) := by decide +kernel
theorem d15_26_39 : decode prog_15_method_26_code 39 = .ok (.aload_n 0, 1) := by decide +kernel
theorem d15_26_40 : decode prog_15_method_26_code 40 = .ok (.getfield 162, 3) := by decide +kernel
theorem d15_26_43 : decode prog_15_method_26_code 43 = .ok (.aload_n 0, 1) := by decide +kernel
theorem d15_26_44 : decode prog_15_method_26_code 44 = .ok (.getfield 33, 3) := by decide +kernel
theorem d15_26_47 : decode prog_15_method_26_code 47 = .ok (.aload_n 0, 1) := by decide +kernel
theorem d15_26_48 : decode prog_15_method_26_code 48 = .ok (.getfield 165, 3) := by decide +kernel
theorem d15_26_51 : decode prog_15_method_26_code 51 = .ok (.iaload, 1) := by decide +kernel
theorem d15_26_52 : decode prog_15_method_26_code 52 = .ok (.isub, 1) := by decide +kernel
theorem d15_26_53 : decode prog_15_method_26_code 53 = .ok (.i2b, 1) := by decide +kernel
theorem d15_26_54 : decode prog_15_method_26_code 54 = .ok (.bastore, 1) := by decide +kernel
theorem d15_26_55 : decode prog_15_method_26_code 55 = .ok (.return_, 1) := by decide +kernel
def y15_26 : MethodName := { cls := "PagedValuesModel", name := "ends", desc := "()V" }
theorem k1380 : (Jvm.Cond.code ({ cls := "PagedValuesModel", name := "ends", desc := "()V" } : Jvm.MethodName) prog_15_method_26_code (1 : Nat) (Option.none : Option Jvm.ClassFile.FieldType)) ∈ TB := tk_6 180 rfl rfl
theorem k1377 : (Jvm.Cond.methodLink "PagedValuesModel" (193 : Nat) ({ cls := "PagedValuesModel", name := "ends", desc := "()V" } : Jvm.MethodName)) ∈ TB := tk_6 177 rfl rfl
theorem k1379 : (Jvm.Cond.instanceMethod ({ cls := "PagedValuesModel", name := "ends", desc := "()V" } : Jvm.MethodName)) ∈ TB := tk_6 179 rfl rfl
theorem ks53 : Cond.selects y15_26.cls y15_26 y15_26 ∈ TB := List.mem_filter.mpr ⟨List.mem_append_left _ (List.mem_of_getElem? (i := 53) (by decide +kernel)), rfl⟩
theorem d15_28_99 : decode prog_15_method_28_code 99 = .ok (.invokevirtual 193, 3) := by decide +kernel
theorem d15_28_102 : decode prog_15_method_28_code 102 = .ok (.iconst 0, 1) := by decide +kernel
theorem d15_28_103 : decode prog_15_method_28_code 103 = .ok (.istore_n 1, 1) := by decide +kernel
theorem d15_28_104 : decode prog_15_method_28_code 104 = .ok (.goto 61, 3) := by decide +kernel
theorem d15_28_165 : decode prog_15_method_28_code 165 = .ok (.iinc 2 1, 3) := by decide +kernel
theorem d15_28_168 : decode prog_15_method_28_code 168 = .ok (.goto (-131), 3) := by decide +kernel
theorem d15_28_58 : decode prog_15_method_28_code 58 = .ok (.iload_n 1, 1) := by decide +kernel
theorem d15_28_59 : decode prog_15_method_28_code 59 = .ok (.ifCond .eq 112, 3) := by decide +kernel
def y15_28 : MethodName := { cls := "PagedValuesModel", name := "readValue", desc := "()V" }
theorem k1293 : (Jvm.Cond.code ({ cls := "PagedValuesModel", name := "readValue", desc := "()V" } : Jvm.MethodName) prog_15_method_28_code (4 : Nat) (Option.none : Option Jvm.ClassFile.FieldType)) ∈ TB := tk_6 93 rfl rfl
theorem k1290 : (Jvm.Cond.methodLink "PagedValuesModel" (329 : Nat) ({ cls := "PagedValuesModel", name := "readValue", desc := "()V" } : Jvm.MethodName)) ∈ TB := tk_6 90 rfl rfl
theorem k1292 : (Jvm.Cond.instanceMethod ({ cls := "PagedValuesModel", name := "readValue", desc := "()V" } : Jvm.MethodName)) ∈ TB := tk_6 92 rfl rfl
theorem ks34 : Cond.selects y15_28.cls y15_28 y15_28 ∈ TB := List.mem_filter.mpr ⟨List.mem_append_left _ (List.mem_of_getElem? (i := 34) (by decide +kernel)), rfl⟩
theorem d15_62_32 : decode prog_15_method_62_code 32 = .ok (.invokevirtual 329, 3) := by decide +kernel
theorem d15_62_35 : decode prog_15_method_62_code 35 = .ok (.aload_n 0, 1) := by decide +kernel
theorem d15_62_36 : decode prog_15_method_62_code 36 = .ok (.iconst 0, 1) := by decide +kernel
theorem d15_62_37 : decode prog_15_method_62_code 37 = .ok (.putfield 108, 3) := by decide +kernel
theorem d15_62_40 : decode prog_15_method_62_code 40 = .ok (.aload_n 0, 1) := by decide +kernel
theorem d15_62_41 : decode prog_15_method_62_code 41 = .ok (.getfield 111, 3) := by decide +kernel
theorem d15_62_44 : decode prog_15_method_62_code 44 = .ok (.ifCond .lt 11, 3) := by decide +kernel
theorem d15_62_55 : decode prog_15_method_62_code 55 = .ok (.aload_n 0, 1) := by decide +kernel
theorem d15_62_56 : decode prog_15_method_62_code 56 = .ok (.iload_n 1, 1) := by decide +kernel
theorem d15_62_57 : decode prog_15_method_62_code 57 = .ok (.bipush 80, 2) := by decide +kernel
theorem d15_59_0 : decode prog_15_method_59_code 0 = .ok (.aload_n 0, 1) := by decide +kernel
theorem d15_59_1 : decode prog_15_method_59_code 1 = .ok (.getfield 77, 3) := by decide +kernel
theorem d15_59_4 : decode prog_15_method_59_code 4 = .ok (.aload_n 0, 1) := by decide +kernel
theorem d15_52_0 : decode prog_15_method_52_code 0 = .ok (.aload_n 0, 1) := by decide +kernel
theorem d15_52_1 : decode prog_15_method_52_code 1 = .ok (.getfield 80, 3) := by decide +kernel
theorem d15_52_4 : decode prog_15_method_52_code 4 = .ok (.iconst 1, 1) := by decide +kernel
theorem d15_52_5 : decode prog_15_method_52_code 5 = .ok (.iaload, 1) := by decide +kernel
theorem d15_52_6 : decode prog_15_method_52_code 6 = .ok (.aload_n 0, 1) := by decide +kernel
theorem d15_52_7 : decode prog_15_method_52_code 7 = .ok (.getfield 80, 3) := by decide +kernel
theorem d15_52_10 : decode prog_15_method_52_code 10 = .ok (.iconst 0, 1) := by decide +kernel
theorem d15_52_11 : decode prog_15_method_52_code 11 = .ok (.iaload, 1) := by decide +kernel
theorem d15_52_12 : decode prog_15_method_52_code 12 = .ok (.if_icmp .le 7, 3) := by decide +kernel
theorem d15_52_19 : decode prog_15_method_52_code 19 = .ok (.iconst 0, 1) := by decide +kernel
theorem d15_52_15 : decode prog_15_method_52_code 15 = .ok (.iconst 1, 1) := by decide +kernel
theorem d15_52_16 : decode prog_15_method_52_code 16 = .ok (.goto 4, 3) := by decide +kernel
theorem d15_52_20 : decode prog_15_method_52_code 20 = .ok (.ireturn, 1) := by decide +kernel
def y15_52 : MethodName := { cls := "PagedValuesModel", name := "current", desc := "()I" }
theorem k1396 : (Jvm.Cond.code ({ cls := "PagedValuesModel", name := "current", desc := "()I" } : Jvm.MethodName) prog_15_method_52_code (1 : Nat) (Option.some Jvm.ClassFile.FieldType.int)) ∈ TB := tk_6 196 rfl rfl
theorem k1393 : (Jvm.Cond.methodLink "PagedValuesModel" (312 : Nat) ({ cls := "PagedValuesModel", name := "current", desc := "()I" } : Jvm.MethodName)) ∈ TB := tk_6 193 rfl rfl
theorem k1395 : (Jvm.Cond.instanceMethod ({ cls := "PagedValuesModel", name := "current", desc := "()I" } : Jvm.MethodName)) ∈ TB := tk_6 195 rfl rfl
theorem ks57 : Cond.selects y15_52.cls y15_52 y15_52 ∈ TB := List.mem_filter.mpr ⟨List.mem_append_left _ (List.mem_of_getElem? (i := 57) (by decide +kernel)), rfl⟩
theorem d15_59_5 : decode prog_15_method_59_code 5 = .ok (.invokevirtual 312, 3) := by decide +kernel
theorem d15_59_8 : decode prog_15_method_59_code 8 = .ok (.iaload, 1) := by decide +kernel
theorem d15_59_9 : decode prog_15_method_59_code 9 = .ok (.istore_n 3, 1) := by decide +kernel
theorem d15_59_10 : decode prog_15_method_59_code 10 = .ok (.iload_n 1, 1) := by decide +kernel
theorem d15_59_11 : decode prog_15_method_59_code 11 = .ok (.iconst 4, 1) := by decide +kernel
theorem d15_59_12 : decode prog_15_method_59_code 12 = .ok (.idiv, 1) := by decide +kernel
theorem d15_59_13 : decode prog_15_method_59_code 13 = .ok (.istore 4, 2) := by decide +kernel
theorem d15_59_15 : decode prog_15_method_59_code 15 = .ok (.iconst 0, 1) := by decide +kernel
theorem d15_59_16 : decode prog_15_method_59_code 16 = .ok (.istore 5, 2) := by decide +kernel
theorem d15_59_18 : decode prog_15_method_59_code 18 = .ok (.iconst 0, 1) := by decide +kernel
theorem d15_59_19 : decode prog_15_method_59_code 19 = .ok (.istore 6, 2) := by decide +kernel
theorem d15_59_21 : decode prog_15_method_59_code 21 = .ok (.iconst 0, 1) := by decide +kernel
theorem d15_59_22 : decode prog_15_method_59_code 22 = .ok (.istore 7, 2) := by decide +kernel
theorem d15_59_122 : decode prog_15_method_59_code 122 = .ok (.iload 5, 2) := by decide +kernel
theorem d15_59_124 : decode prog_15_method_59_code 124 = .ok (.ifCond .le 11, 3) := by decide +kernel
theorem d15_59_135 : decode prog_15_method_59_code 135 = .ok (.iconst (-1), 1) := by decide +kernel
theorem d15_59_127 : decode prog_15_method_59_code 127 = .ok (.aload_n 0, 1) := by decide +kernel
theorem d15_59_128 : decode prog_15_method_59_code 128 = .ok (.iconst (-1), 1) := by decide +kernel
theorem d15_55_0 : decode prog_15_method_55_code 0 = .ok (.iconst 0, 1) := by decide +kernel
theorem d15_55_1 : decode prog_15_method_55_code 1 = .ok (.istore_n 2, 1) := by decide +kernel
theorem d15_55_29 : decode prog_15_method_55_code 29 = .ok (.iconst (-1), 1) := by decide +kernel
theorem d15_55_30 : decode prog_15_method_55_code 30 = .ok (.ireturn, 1) := by decide +kernel
theorem d15_55_2 : decode prog_15_method_55_code 2 = .ok (.iload_n 2, 1) := by decide +kernel
theorem d15_55_3 : decode prog_15_method_55_code 3 = .ok (.bipush 12, 2) := by decide +kernel
theorem d15_55_5 : decode prog_15_method_55_code 5 = .ok (.if_icmp .ge 24, 3) := by decide +kernel
theorem d15_55_8 : decode prog_15_method_55_code 8 = .ok (.iload_n 2, 1) := by decide +kernel
theorem d15_55_9 : decode prog_15_method_55_code 9 = .ok (.iload_n 1, 1) := by decide +kernel
theorem d15_55_10 : decode prog_15_method_55_code 10 = .ok (.if_icmp .eq 13, 3) := by decide +kernel
theorem d15_55_23 : decode prog_15_method_55_code 23 = .ok (.iinc 2 1, 3) := by decide +kernel
theorem d15_55_26 : decode prog_15_method_55_code 26 = .ok (.goto (-24), 3) := by decide +kernel
theorem d15_55_13 : decode prog_15_method_55_code 13 = .ok (.aload_n 0, 1) := by decide +kernel
theorem d15_55_14 : decode prog_15_method_55_code 14 = .ok (.iload_n 2, 1) := by decide +kernel
theorem d15_54_0 : decode prog_15_method_54_code 0 = .ok (.aload_n 0, 1) := by decide +kernel
theorem d15_54_1 : decode prog_15_method_54_code 1 = .ok (.aload_n 0, 1) := by decide +kernel
theorem d15_54_2 : decode prog_15_method_54_code 2 = .ok (.getfield 77, 3) := by decide +kernel
theorem d15_54_5 : decode prog_15_method_54_code 5 = .ok (.iconst 0, 1) := by decide +kernel
theorem d15_54_6 : decode prog_15_method_54_code 6 = .ok (.iaload, 1) := by decide +kernel
theorem d15_54_7 : decode prog_15_method_54_code 7 = .ok (.iload_n 1, 1) := by decide +kernel
theorem d15_53_0 : decode prog_15_method_53_code 0 = .ok (.iload_n 1, 1) := by decide +kernel
theorem d15_53_1 : decode prog_15_method_53_code 1 = .ok (.ifCond .lt 38, 3) := by decide +kernel
theorem d15_53_39 : decode prog_15_method_53_code 39 = .ok (.iconst 0, 1) := by decide +kernel
theorem d15_53_4 : decode prog_15_method_53_code 4 = .ok (.iload_n 1, 1) := by decide +kernel
theorem d15_53_5 : decode prog_15_method_53_code 5 = .ok (.iload_n 2, 1) := by decide +kernel
theorem d15_53_6 : decode prog_15_method_53_code 6 = .ok (.if_icmp .eq 29, 3) := by decide +kernel
theorem d15_53_35 : decode prog_15_method_53_code 35 = .ok (.iconst 1, 1) := by decide +kernel
theorem d15_53_36 : decode prog_15_method_53_code 36 = .ok (.goto 4, 3) := by decide +kernel
theorem d15_53_9 : decode prog_15_method_53_code 9 = .ok (.aload_n 0, 1) := by decide +kernel
theorem d15_53_10 : decode prog_15_method_53_code 10 = .ok (.getfield 71, 3) := by decide +kernel
theorem d15_53_13 : decode prog_15_method_53_code 13 = .ok (.iconst 2, 1) := by decide +kernel
theorem d15_53_14 : decode prog_15_method_53_code 14 = .ok (.iload_n 1, 1) := by decide +kernel
theorem d15_53_15 : decode prog_15_method_53_code 15 = .ok (.imul, 1) := by decide +kernel
theorem d15_53_16 : decode prog_15_method_53_code 16 = .ok (.iaload, 1) := by decide +kernel
theorem d15_53_17 : decode prog_15_method_53_code 17 = .ok (.iload_n 2, 1) := by decide +kernel
theorem d15_53_18 : decode prog_15_method_53_code 18 = .ok (.if_icmp .eq 17, 3) := by decide +kernel
theorem d15_53_21 : decode prog_15_method_53_code 21 = .ok (.aload_n 0, 1) := by decide +kernel
theorem d15_53_22 : decode prog_15_method_53_code 22 = .ok (.getfield 71, 3) := by decide +kernel
theorem d15_53_25 : decode prog_15_method_53_code 25 = .ok (.iconst 2, 1) := by decide +kernel
theorem d15_53_26 : decode prog_15_method_53_code 26 = .ok (.iload_n 1, 1) := by decide +kernel
theorem d15_53_27 : decode prog_15_method_53_code 27 = .ok (.imul, 1) := by decide +kernel
theorem d15_53_28 : decode prog_15_method_53_code 28 = .ok (.iconst 1, 1) := by decide +kernel
theorem d15_53_29 : decode prog_15_method_53_code 29 = .ok (.iadd, 1) := by decide +kernel
theorem d15_53_30 : decode prog_15_method_53_code 30 = .ok (.iaload, 1) := by decide +kernel
theorem d15_53_31 : decode prog_15_method_53_code 31 = .ok (.iload_n 2, 1) := by decide +kernel
theorem d15_53_32 : decode prog_15_method_53_code 32 = .ok (.if_icmp .ne 7, 3) := by decide +kernel
theorem d15_53_40 : decode prog_15_method_53_code 40 = .ok (.ireturn, 1) := by decide +kernel
def y15_53 : MethodName := { cls := "PagedValuesModel", name := "reaches", desc := "(II)Z" }
theorem k1412 : (Jvm.Cond.code ({ cls := "PagedValuesModel", name := "reaches", desc := "(II)Z" } : Jvm.MethodName) prog_15_method_53_code (3 : Nat) (Option.some Jvm.ClassFile.FieldType.boolean)) ∈ TB := tk_6 212 rfl rfl
theorem k1409 : (Jvm.Cond.methodLink "PagedValuesModel" (292 : Nat) ({ cls := "PagedValuesModel", name := "reaches", desc := "(II)Z" } : Jvm.MethodName)) ∈ TB := tk_6 209 rfl rfl
theorem k1411 : (Jvm.Cond.instanceMethod ({ cls := "PagedValuesModel", name := "reaches", desc := "(II)Z" } : Jvm.MethodName)) ∈ TB := tk_6 211 rfl rfl
theorem ks61 : Cond.selects y15_53.cls y15_53 y15_53 ∈ TB := List.mem_filter.mpr ⟨List.mem_append_left _ (List.mem_of_getElem? (i := 61) (by decide +kernel)), rfl⟩
theorem d15_54_8 : decode prog_15_method_54_code 8 = .ok (.invokevirtual 292, 3) := by decide +kernel
theorem d15_54_11 : decode prog_15_method_54_code 11 = .ok (.ifCond .ne 17, 3) := by decide +kernel
theorem d15_54_28 : decode prog_15_method_54_code 28 = .ok (.iconst 1, 1) := by decide +kernel
theorem d15_54_29 : decode prog_15_method_54_code 29 = .ok (.goto 4, 3) := by decide +kernel
theorem d15_54_14 : decode prog_15_method_54_code 14 = .ok (.aload_n 0, 1) := by decide +kernel
theorem d15_54_15 : decode prog_15_method_54_code 15 = .ok (.aload_n 0, 1) := by decide +kernel
theorem d15_54_16 : decode prog_15_method_54_code 16 = .ok (.getfield 77, 3) := by decide +kernel
theorem d15_54_19 : decode prog_15_method_54_code 19 = .ok (.iconst 1, 1) := by decide +kernel
theorem d15_54_20 : decode prog_15_method_54_code 20 = .ok (.iaload, 1) := by decide +kernel
theorem d15_54_21 : decode prog_15_method_54_code 21 = .ok (.iload_n 1, 1) := by decide +kernel
theorem d15_54_22 : decode prog_15_method_54_code 22 = .ok (.invokevirtual 292, 3) := by decide +kernel
theorem d15_54_25 : decode prog_15_method_54_code 25 = .ok (.ifCond .eq 7, 3) := by decide +kernel
theorem d15_54_32 : decode prog_15_method_54_code 32 = .ok (.iconst 0, 1) := by decide +kernel
theorem d15_54_33 : decode prog_15_method_54_code 33 = .ok (.istore_n 2, 1) := by decide +kernel
theorem d15_54_34 : decode prog_15_method_54_code 34 = .ok (.iconst 0, 1) := by decide +kernel
theorem d15_54_35 : decode prog_15_method_54_code 35 = .ok (.istore_n 3, 1) := by decide +kernel
theorem d15_54_80 : decode prog_15_method_54_code 80 = .ok (.iload_n 2, 1) := by decide +kernel
theorem d15_54_81 : decode prog_15_method_54_code 81 = .ok (.ifCond .ne 7, 3) := by decide +kernel
theorem d15_54_88 : decode prog_15_method_54_code 88 = .ok (.iconst 0, 1) := by decide +kernel
theorem d15_54_84 : decode prog_15_method_54_code 84 = .ok (.iconst 1, 1) := by decide +kernel
theorem d15_54_85 : decode prog_15_method_54_code 85 = .ok (.goto 4, 3) := by decide +kernel
theorem d15_54_89 : decode prog_15_method_54_code 89 = .ok (.ireturn, 1) := by decide +kernel
theorem d15_54_36 : decode prog_15_method_54_code 36 = .ok (.iload_n 3, 1) := by decide +kernel
theorem d15_54_37 : decode prog_15_method_54_code 37 = .ok (.iconst 3, 1) := by decide +kernel
theorem d15_54_38 : decode prog_15_method_54_code 38 = .ok (.if_icmp .ge 42, 3) := by decide +kernel
theorem d15_54_41 : decode prog_15_method_54_code 41 = .ok (.iload_n 2, 1) := by decide +kernel
theorem d15_54_42 : decode prog_15_method_54_code 42 = .ok (.ifCond .ne 26, 3) := by decide +kernel
theorem d15_54_68 : decode prog_15_method_54_code 68 = .ok (.iconst 1, 1) := by decide +kernel
theorem d15_54_69 : decode prog_15_method_54_code 69 = .ok (.goto 4, 3) := by decide +kernel
theorem d15_54_45 : decode prog_15_method_54_code 45 = .ok (.aload_n 0, 1) := by decide +kernel
theorem d15_54_46 : decode prog_15_method_54_code 46 = .ok (.getfield 83, 3) := by decide +kernel
theorem d15_54_49 : decode prog_15_method_54_code 49 = .ok (.iload_n 3, 1) := by decide +kernel
theorem d15_54_50 : decode prog_15_method_54_code 50 = .ok (.baload, 1) := by decide +kernel
theorem d15_54_51 : decode prog_15_method_54_code 51 = .ok (.ifCond .eq 21, 3) := by decide +kernel
theorem d15_54_72 : decode prog_15_method_54_code 72 = .ok (.iconst 0, 1) := by decide +kernel
theorem d15_54_54 : decode prog_15_method_54_code 54 = .ok (.aload_n 0, 1) := by decide +kernel
theorem d15_54_55 : decode prog_15_method_54_code 55 = .ok (.aload_n 0, 1) := by decide +kernel
theorem d15_54_56 : decode prog_15_method_54_code 56 = .ok (.getfield 86, 3) := by decide +kernel
theorem d15_54_59 : decode prog_15_method_54_code 59 = .ok (.iload_n 3, 1) := by decide +kernel
theorem d15_54_60 : decode prog_15_method_54_code 60 = .ok (.iaload, 1) := by decide +kernel
theorem d15_54_61 : decode prog_15_method_54_code 61 = .ok (.iload_n 1, 1) := by decide +kernel
theorem d15_54_62 : decode prog_15_method_54_code 62 = .ok (.invokevirtual 292, 3) := by decide +kernel
theorem d15_54_65 : decode prog_15_method_54_code 65 = .ok (.ifCond .eq 7, 3) := by decide +kernel
theorem d15_54_73 : decode prog_15_method_54_code 73 = .ok (.istore_n 2, 1) := by decide +kernel
theorem d15_54_74 : decode prog_15_method_54_code 74 = .ok (.iinc 3 1, 3) := by decide +kernel
theorem d15_54_77 : decode prog_15_method_54_code 77 = .ok (.goto (-41), 3) := by decide +kernel
def y15_54 : MethodName := { cls := "PagedValuesModel", name := "isFree", desc := "(I)Z" }
theorem k1408 : (Jvm.Cond.code ({ cls := "PagedValuesModel", name := "isFree", desc := "(I)Z" } : Jvm.MethodName) prog_15_method_54_code (4 : Nat) (Option.some Jvm.ClassFile.FieldType.boolean)) ∈ TB := tk_6 208 rfl rfl
theorem k1405 : (Jvm.Cond.methodLink "PagedValuesModel" (296 : Nat) ({ cls := "PagedValuesModel", name := "isFree", desc := "(I)Z" } : Jvm.MethodName)) ∈ TB := tk_6 205 rfl rfl
theorem k1407 : (Jvm.Cond.instanceMethod ({ cls := "PagedValuesModel", name := "isFree", desc := "(I)Z" } : Jvm.MethodName)) ∈ TB := tk_6 207 rfl rfl
theorem ks60 : Cond.selects y15_54.cls y15_54 y15_54 ∈ TB := List.mem_filter.mpr ⟨List.mem_append_left _ (List.mem_of_getElem? (i := 60) (by decide +kernel)), rfl⟩
theorem d15_55_15 : decode prog_15_method_55_code 15 = .ok (.invokevirtual 296, 3) := by decide +kernel
theorem d15_55_18 : decode prog_15_method_55_code 18 = .ok (.ifCond .eq 5, 3) := by decide +kernel
theorem d15_55_21 : decode prog_15_method_55_code 21 = .ok (.iload_n 2, 1) := by decide +kernel
theorem d15_55_22 : decode prog_15_method_55_code 22 = .ok (.ireturn, 1) := by decide +kernel
def y15_55 : MethodName := { cls := "PagedValuesModel", name := "freePage", desc := "(I)I" }
theorem k1404 : (Jvm.Cond.code ({ cls := "PagedValuesModel", name := "freePage", desc := "(I)I" } : Jvm.MethodName) prog_15_method_55_code (3 : Nat) (Option.some Jvm.ClassFile.FieldType.int)) ∈ TB := tk_6 204 rfl rfl
theorem k1401 : (Jvm.Cond.methodLink "PagedValuesModel" (315 : Nat) ({ cls := "PagedValuesModel", name := "freePage", desc := "(I)I" } : Jvm.MethodName)) ∈ TB := tk_6 201 rfl rfl
theorem k1403 : (Jvm.Cond.instanceMethod ({ cls := "PagedValuesModel", name := "freePage", desc := "(I)I" } : Jvm.MethodName)) ∈ TB := tk_6 203 rfl rfl
theorem ks59 : Cond.selects y15_55.cls y15_55 y15_55 ∈ TB := List.mem_filter.mpr ⟨List.mem_append_left _ (List.mem_of_getElem? (i := 59) (by decide +kernel)), rfl⟩
theorem d15_59_129 : decode prog_15_method_59_code 129 = .ok (.invokevirtual 315, 3) := by decide +kernel
theorem d15_59_132 : decode prog_15_method_59_code 132 = .ok (.goto 4, 3) := by decide +kernel
theorem d15_59_136 : decode prog_15_method_59_code 136 = .ok (.istore 7, 2) := by decide +kernel
theorem d15_59_138 : decode prog_15_method_59_code 138 = .ok (.iload 5, 2) := by decide +kernel
theorem d15_59_140 : decode prog_15_method_59_code 140 = .ok (.iload 6, 2) := by decide +kernel
theorem d15_59_142 : decode prog_15_method_59_code 142 = .ok (.iadd, 1) := by decide +kernel
theorem d15_59_143 : decode prog_15_method_59_code 143 = .ok (.ifCond .le 12, 3) := by decide +kernel
theorem d15_59_155 : decode prog_15_method_59_code 155 = .ok (.iconst (-1), 1) := by decide +kernel
theorem d15_59_146 : decode prog_15_method_59_code 146 = .ok (.aload_n 0, 1) := by decide +kernel
theorem d15_59_147 : decode prog_15_method_59_code 147 = .ok (.iload 7, 2) := by decide +kernel
theorem d15_59_149 : decode prog_15_method_59_code 149 = .ok (.invokevirtual 315, 3) := by decide +kernel
theorem d15_59_152 : decode prog_15_method_59_code 152 = .ok (.goto 4, 3) := by decide +kernel
theorem d15_59_156 : decode prog_15_method_59_code 156 = .ok (.istore 8, 2) := by decide +kernel
theorem d15_59_158 : decode prog_15_method_59_code 158 = .ok (.iload 5, 2) := by decide +kernel
theorem d15_59_160 : decode prog_15_method_59_code 160 = .ok (.ifCond .le 8, 3) := by decide +kernel
theorem d15_59_168 : decode prog_15_method_59_code 168 = .ok (.iload 5, 2) := by decide +kernel
theorem d15_59_170 : decode prog_15_method_59_code 170 = .ok (.iload 6, 2) := by decide +kernel
theorem d15_59_172 : decode prog_15_method_59_code 172 = .ok (.iadd, 1) := by decide +kernel
theorem d15_59_173 : decode prog_15_method_59_code 173 = .ok (.ifCond .le 11, 3) := by decide +kernel
theorem d15_59_184 : decode prog_15_method_59_code 184 = .ok (.iload 5, 2) := by decide +kernel
theorem d15_59_186 : decode prog_15_method_59_code 186 = .ok (.ifCond .le 24, 3) := by decide +kernel
theorem d15_59_210 : decode prog_15_method_59_code 210 = .ok (.iload 8, 2) := by decide +kernel
theorem d15_59_212 : decode prog_15_method_59_code 212 = .ok (.ifCond .lt 70, 3) := by decide +kernel
theorem d15_59_282 : decode prog_15_method_59_code 282 = .ok (.iconst 1, 1) := by decide +kernel
theorem d15_59_283 : decode prog_15_method_59_code 283 = .ok (.aload_n 0, 1) := by decide +kernel
theorem d15_59_284 : decode prog_15_method_59_code 284 = .ok (.invokevirtual 312, 3) := by decide +kernel
theorem d15_59_287 : decode prog_15_method_59_code 287 = .ok (.isub, 1) := by decide +kernel
theorem d15_59_288 : decode prog_15_method_59_code 288 = .ok (.istore 9, 2) := by decide +kernel
theorem d15_59_290 : decode prog_15_method_59_code 290 = .ok (.aload_n 0, 1) := by decide +kernel
theorem d15_59_291 : decode prog_15_method_59_code 291 = .ok (.getfield 80, 3) := by decide +kernel
theorem d15_59_294 : decode prog_15_method_59_code 294 = .ok (.iload 9, 2) := by decide +kernel
theorem d15_59_296 : decode prog_15_method_59_code 296 = .ok (.aload_n 0, 1) := by decide +kernel
theorem d15_59_297 : decode prog_15_method_59_code 297 = .ok (.getfield 80, 3) := by decide +kernel
theorem d15_59_300 : decode prog_15_method_59_code 300 = .ok (.iconst 1, 1) := by decide +kernel
theorem d15_59_301 : decode prog_15_method_59_code 301 = .ok (.iload 9, 2) := by decide +kernel
theorem d15_59_303 : decode prog_15_method_59_code 303 = .ok (.isub, 1) := by decide +kernel
theorem d15_59_304 : decode prog_15_method_59_code 304 = .ok (.iaload, 1) := by decide +kernel
theorem d15_59_305 : decode prog_15_method_59_code 305 = .ok (.iconst 1, 1) := by decide +kernel
theorem d15_59_306 : decode prog_15_method_59_code 306 = .ok (.iadd, 1) := by decide +kernel
theorem d15_59_307 : decode prog_15_method_59_code 307 = .ok (.iastore, 1) := by decide +kernel
theorem d15_59_308 : decode prog_15_method_59_code 308 = .ok (.aload_n 0, 1) := by decide +kernel
theorem d15_59_309 : decode prog_15_method_59_code 309 = .ok (.getfield 77, 3) := by decide +kernel
theorem d15_59_312 : decode prog_15_method_59_code 312 = .ok (.iload 9, 2) := by decide +kernel
theorem d15_59_314 : decode prog_15_method_59_code 314 = .ok (.iload 8, 2) := by decide +kernel
theorem d15_59_316 : decode prog_15_method_59_code 316 = .ok (.iastore, 1) := by decide +kernel
theorem d15_59_317 : decode prog_15_method_59_code 317 = .ok (.aload_n 0, 1) := by decide +kernel
theorem d15_58_0 : decode prog_15_method_58_code 0 = .ok (.aload_n 0, 1) := by decide +kernel
theorem d15_58_1 : decode prog_15_method_58_code 1 = .ok (.dup, 1) := by decide +kernel
theorem d15_58_2 : decode prog_15_method_58_code 2 = .ok (.getfield 302, 3) := by decide +kernel
theorem k1192 : (Jvm.Cond.fieldLink "PagedValuesModel" (302 : Nat) "PagedValuesModel" "written" "I") ∈ TB := tk_5 232 rfl rfl
theorem d15_58_5 : decode prog_15_method_58_code 5 = .ok (.iconst 1, 1) := by decide +kernel
theorem d15_58_6 : decode prog_15_method_58_code 6 = .ok (.iadd, 1) := by decide +kernel
theorem d15_58_7 : decode prog_15_method_58_code 7 = .ok (.putfield 302, 3) := by decide +kernel
theorem d15_58_10 : decode prog_15_method_58_code 10 = .ok (.aload_n 0, 1) := by decide +kernel
theorem d15_58_11 : decode prog_15_method_58_code 11 = .ok (.aload_n 0, 1) := by decide +kernel
theorem d15_58_12 : decode prog_15_method_58_code 12 = .ok (.getfield 305, 3) := by decide +kernel
theorem k1190 : (Jvm.Cond.fieldLink "PagedValuesModel" (305 : Nat) "PagedValuesModel" "fuse" "I") ∈ TB := tk_5 230 rfl rfl
theorem d15_58_15 : decode prog_15_method_58_code 15 = .ok (.ifCond .le 12, 3) := by decide +kernel
theorem d15_58_27 : decode prog_15_method_58_code 27 = .ok (.iconst (-1), 1) := by decide +kernel
theorem d15_58_18 : decode prog_15_method_58_code 18 = .ok (.aload_n 0, 1) := by decide +kernel
theorem d15_58_19 : decode prog_15_method_58_code 19 = .ok (.getfield 305, 3) := by decide +kernel
theorem d15_58_22 : decode prog_15_method_58_code 22 = .ok (.iconst 1, 1) := by decide +kernel
theorem d15_58_23 : decode prog_15_method_58_code 23 = .ok (.isub, 1) := by decide +kernel
theorem d15_58_24 : decode prog_15_method_58_code 24 = .ok (.goto 4, 3) := by decide +kernel
theorem d15_58_28 : decode prog_15_method_58_code 28 = .ok (.putfield 305, 3) := by decide +kernel
theorem d15_58_31 : decode prog_15_method_58_code 31 = .ok (.aload_n 0, 1) := by decide +kernel
theorem d15_58_32 : decode prog_15_method_58_code 32 = .ok (.getfield 305, 3) := by decide +kernel
theorem d15_58_35 : decode prog_15_method_58_code 35 = .ok (.ifCond .ne 7, 3) := by decide +kernel
theorem d15_58_42 : decode prog_15_method_58_code 42 = .ok (.iconst 0, 1) := by decide +kernel
theorem d15_58_38 : decode prog_15_method_58_code 38 = .ok (.iconst 1, 1) := by decide +kernel
theorem d15_58_39 : decode prog_15_method_58_code 39 = .ok (.goto 4, 3) := by decide +kernel
theorem d15_58_43 : decode prog_15_method_58_code 43 = .ok (.istore_n 1, 1) := by decide +kernel
theorem d15_58_44 : decode prog_15_method_58_code 44 = .ok (.aload_n 0, 1) := by decide +kernel
theorem d15_58_45 : decode prog_15_method_58_code 45 = .ok (.aload_n 0, 1) := by decide +kernel
theorem d15_58_46 : decode prog_15_method_58_code 46 = .ok (.getfield 305, 3) := by decide +kernel
theorem d15_58_49 : decode prog_15_method_58_code 49 = .ok (.ifCond .ge 7, 3) := by decide +kernel
theorem d15_58_56 : decode prog_15_method_58_code 56 = .ok (.aload_n 0, 1) := by decide +kernel
theorem d15_58_57 : decode prog_15_method_58_code 57 = .ok (.getfield 305, 3) := by decide +kernel
theorem d15_58_52 : decode prog_15_method_58_code 52 = .ok (.iconst 0, 1) := by decide +kernel
theorem d15_58_53 : decode prog_15_method_58_code 53 = .ok (.goto 7, 3) := by decide +kernel
theorem d15_58_60 : decode prog_15_method_58_code 60 = .ok (.putfield 305, 3) := by decide +kernel
theorem d15_58_63 : decode prog_15_method_58_code 63 = .ok (.iload_n 1, 1) := by decide +kernel
theorem d15_58_64 : decode prog_15_method_58_code 64 = .ok (.ifCond .eq 33, 3) := by decide +kernel
theorem d15_58_67 : decode prog_15_method_58_code 67 = .ok (.aload_n 0, 1) := by decide +kernel
theorem d15_58_68 : decode prog_15_method_58_code 68 = .ok (.iconst 1, 1) := by decide +kernel
theorem d15_58_69 : decode prog_15_method_58_code 69 = .ok (.putfield 308, 3) := by decide +kernel
theorem d15_58_72 : decode prog_15_method_58_code 72 = .ok (.aload_n 0, 1) := by decide +kernel
theorem d15_58_73 : decode prog_15_method_58_code 73 = .ok (.iconst 0, 1) := by decide +kernel
theorem d15_58_74 : decode prog_15_method_58_code 74 = .ok (.putfield 108, 3) := by decide +kernel
theorem d15_58_77 : decode prog_15_method_58_code 77 = .ok (.iconst 0, 1) := by decide +kernel
theorem d15_58_78 : decode prog_15_method_58_code 78 = .ok (.istore_n 2, 1) := by decide +kernel
theorem d15_58_79 : decode prog_15_method_58_code 79 = .ok (.iload_n 2, 1) := by decide +kernel
theorem d15_58_80 : decode prog_15_method_58_code 80 = .ok (.iconst 3, 1) := by decide +kernel
theorem d15_58_81 : decode prog_15_method_58_code 81 = .ok (.if_icmp .ge 16, 3) := by decide +kernel
theorem d15_58_84 : decode prog_15_method_58_code 84 = .ok (.aload_n 0, 1) := by decide +kernel
theorem d15_58_85 : decode prog_15_method_58_code 85 = .ok (.getfield 83, 3) := by decide +kernel
theorem d15_58_88 : decode prog_15_method_58_code 88 = .ok (.iload_n 2, 1) := by decide +kernel
theorem d15_58_89 : decode prog_15_method_58_code 89 = .ok (.iconst 0, 1) := by decide +kernel
theorem d15_58_90 : decode prog_15_method_58_code 90 = .ok (.bastore, 1) := by decide +kernel
theorem d15_58_91 : decode prog_15_method_58_code 91 = .ok (.iinc 2 1, 3) := by decide +kernel
theorem d15_58_94 : decode prog_15_method_58_code 94 = .ok (.goto (-15), 3) := by decide +kernel
theorem d15_58_97 : decode prog_15_method_58_code 97 = .ok (.iload_n 1, 1) := by decide +kernel
theorem d15_58_98 : decode prog_15_method_58_code 98 = .ok (.ifCond .ne 7, 3) := by decide +kernel
theorem d15_58_105 : decode prog_15_method_58_code 105 = .ok (.iconst 0, 1) := by decide +kernel
theorem d15_58_101 : decode prog_15_method_58_code 101 = .ok (.iconst 1, 1) := by decide +kernel
theorem d15_58_102 : decode prog_15_method_58_code 102 = .ok (.goto 4, 3) := by decide +kernel
theorem d15_58_106 : decode prog_15_method_58_code 106 = .ok (.ireturn, 1) := by decide +kernel
def y15_58 : MethodName := { cls := "PagedValuesModel", name := "block", desc := "()Z" }
theorem k1428 : (Jvm.Cond.code ({ cls := "PagedValuesModel", name := "block", desc := "()Z" } : Jvm.MethodName) prog_15_method_58_code (3 : Nat) (Option.some Jvm.ClassFile.FieldType.boolean)) ∈ TB := tk_6 228 rfl rfl
theorem k1425 : (Jvm.Cond.methodLink "PagedValuesModel" (322 : Nat) ({ cls := "PagedValuesModel", name := "block", desc := "()Z" } : Jvm.MethodName)) ∈ TB := tk_6 225 rfl rfl
theorem k1427 : (Jvm.Cond.instanceMethod ({ cls := "PagedValuesModel", name := "block", desc := "()Z" } : Jvm.MethodName)) ∈ TB := tk_6 227 rfl rfl
theorem ks65 : Cond.selects y15_58.cls y15_58 y15_58 ∈ TB := List.mem_filter.mpr ⟨List.mem_append_left _ (List.mem_of_getElem? (i := 65) (by decide +kernel)), rfl⟩
theorem d15_59_318 : decode prog_15_method_59_code 318 = .ok (.invokevirtual 322, 3) := by decide +kernel
theorem d15_59_321 : decode prog_15_method_59_code 321 = .ok (.ifCond .eq 7, 3) := by decide +kernel
theorem d15_59_328 : decode prog_15_method_59_code 328 = .ok (.bipush (-9), 2) := by decide +kernel
theorem d15_59_324 : decode prog_15_method_59_code 324 = .ok (.iconst 0, 1) := by decide +kernel
theorem d15_59_325 : decode prog_15_method_59_code 325 = .ok (.goto 5, 3) := by decide +kernel
theorem d15_59_330 : decode prog_15_method_59_code 330 = .ok (.ireturn, 1) := by decide +kernel
theorem d15_59_215 : decode prog_15_method_59_code 215 = .ok (.aload_n 0, 1) := by decide +kernel
theorem d15_59_216 : decode prog_15_method_59_code 216 = .ok (.getfield 68, 3) := by decide +kernel
theorem d15_59_219 : decode prog_15_method_59_code 219 = .ok (.iload 8, 2) := by decide +kernel
theorem d15_59_221 : decode prog_15_method_59_code 221 = .ok (.iconst 1, 1) := by decide +kernel
theorem d15_59_222 : decode prog_15_method_59_code 222 = .ok (.iastore, 1) := by decide +kernel
theorem d15_59_223 : decode prog_15_method_59_code 223 = .ok (.aload_n 0, 1) := by decide +kernel
theorem d15_59_224 : decode prog_15_method_59_code 224 = .ok (.getfield 71, 3) := by decide +kernel
theorem d15_59_227 : decode prog_15_method_59_code 227 = .ok (.iconst 2, 1) := by decide +kernel
theorem d15_59_228 : decode prog_15_method_59_code 228 = .ok (.iload 8, 2) := by decide +kernel
theorem d15_59_230 : decode prog_15_method_59_code 230 = .ok (.imul, 1) := by decide +kernel
theorem d15_59_231 : decode prog_15_method_59_code 231 = .ok (.iload 4, 2) := by decide +kernel
theorem d15_59_233 : decode prog_15_method_59_code 233 = .ok (.iadd, 1) := by decide +kernel
theorem d15_59_234 : decode prog_15_method_59_code 234 = .ok (.iload 7, 2) := by decide +kernel
theorem d15_59_236 : decode prog_15_method_59_code 236 = .ok (.iastore, 1) := by decide +kernel
theorem d15_59_237 : decode prog_15_method_59_code 237 = .ok (.aload_n 0, 1) := by decide +kernel
theorem d15_59_238 : decode prog_15_method_59_code 238 = .ok (.getfield 71, 3) := by decide +kernel
theorem d15_59_241 : decode prog_15_method_59_code 241 = .ok (.iconst 2, 1) := by decide +kernel
theorem d15_59_242 : decode prog_15_method_59_code 242 = .ok (.iload 8, 2) := by decide +kernel
theorem d15_59_244 : decode prog_15_method_59_code 244 = .ok (.imul, 1) := by decide +kernel
theorem d15_59_245 : decode prog_15_method_59_code 245 = .ok (.iconst 1, 1) := by decide +kernel
theorem d15_59_246 : decode prog_15_method_59_code 246 = .ok (.iadd, 1) := by decide +kernel
theorem d15_59_247 : decode prog_15_method_59_code 247 = .ok (.iload 4, 2) := by decide +kernel
theorem d15_59_249 : decode prog_15_method_59_code 249 = .ok (.isub, 1) := by decide +kernel
theorem d15_59_250 : decode prog_15_method_59_code 250 = .ok (.iload_n 3, 1) := by decide +kernel
theorem d15_59_251 : decode prog_15_method_59_code 251 = .ok (.ifCond .ge 7, 3) := by decide +kernel
theorem d15_59_258 : decode prog_15_method_59_code 258 = .ok (.aload_n 0, 1) := by decide +kernel
theorem d15_59_259 : decode prog_15_method_59_code 259 = .ok (.getfield 71, 3) := by decide +kernel
theorem d15_59_262 : decode prog_15_method_59_code 262 = .ok (.iconst 2, 1) := by decide +kernel
theorem d15_59_263 : decode prog_15_method_59_code 263 = .ok (.iload_n 3, 1) := by decide +kernel
theorem d15_59_264 : decode prog_15_method_59_code 264 = .ok (.imul, 1) := by decide +kernel
theorem d15_59_265 : decode prog_15_method_59_code 265 = .ok (.iconst 1, 1) := by decide +kernel
theorem d15_59_266 : decode prog_15_method_59_code 266 = .ok (.iadd, 1) := by decide +kernel
theorem d15_59_267 : decode prog_15_method_59_code 267 = .ok (.iload 4, 2) := by decide +kernel
theorem d15_59_269 : decode prog_15_method_59_code 269 = .ok (.isub, 1) := by decide +kernel
theorem d15_59_270 : decode prog_15_method_59_code 270 = .ok (.iaload, 1) := by decide +kernel
theorem d15_59_254 : decode prog_15_method_59_code 254 = .ok (.iconst (-1), 1) := by decide +kernel
theorem d15_59_255 : decode prog_15_method_59_code 255 = .ok (.goto 16, 3) := by decide +kernel
theorem d15_59_271 : decode prog_15_method_59_code 271 = .ok (.iastore, 1) := by decide +kernel
theorem d15_59_272 : decode prog_15_method_59_code 272 = .ok (.aload_n 0, 1) := by decide +kernel
theorem d15_59_273 : decode prog_15_method_59_code 273 = .ok (.invokevirtual 322, 3) := by decide +kernel
theorem d15_59_276 : decode prog_15_method_59_code 276 = .ok (.ifCond .ne 6, 3) := by decide +kernel
theorem d15_59_279 : decode prog_15_method_59_code 279 = .ok (.bipush (-9), 2) := by decide +kernel
theorem d15_59_281 : decode prog_15_method_59_code 281 = .ok (.ireturn, 1) := by decide +kernel
theorem d15_59_189 : decode prog_15_method_59_code 189 = .ok (.aload_n 0, 1) := by decide +kernel
theorem d15_59_190 : decode prog_15_method_59_code 190 = .ok (.iload 7, 2) := by decide +kernel
theorem d15_59_192 : decode prog_15_method_59_code 192 = .ok (.iload_n 3, 1) := by decide +kernel
theorem d15_59_193 : decode prog_15_method_59_code 193 = .ok (.iload 4, 2) := by decide +kernel
theorem d15_59_195 : decode prog_15_method_59_code 195 = .ok (.iload_n 1, 1) := by decide +kernel
theorem d15_59_196 : decode prog_15_method_59_code 196 = .ok (.iload_n 2, 1) := by decide +kernel
theorem d15_60_0 : decode prog_15_method_60_code 0 = .ok (.aload_n 0, 1) := by decide +kernel
theorem d15_60_1 : decode prog_15_method_60_code 1 = .ok (.getfield 68, 3) := by decide +kernel
theorem d15_60_4 : decode prog_15_method_60_code 4 = .ok (.iload_n 1, 1) := by decide +kernel
theorem d15_60_5 : decode prog_15_method_60_code 5 = .ok (.iconst 2, 1) := by decide +kernel
theorem d15_60_6 : decode prog_15_method_60_code 6 = .ok (.iastore, 1) := by decide +kernel
theorem d15_60_7 : decode prog_15_method_60_code 7 = .ok (.iconst 4, 1) := by decide +kernel
theorem d15_60_8 : decode prog_15_method_60_code 8 = .ok (.iload_n 3, 1) := by decide +kernel
theorem d15_60_9 : decode prog_15_method_60_code 9 = .ok (.imul, 1) := by decide +kernel
theorem d15_60_10 : decode prog_15_method_60_code 10 = .ok (.istore 6, 2) := by decide +kernel
theorem d15_60_91 : decode prog_15_method_60_code 91 = .ok (.return_, 1) := by decide +kernel
theorem d15_60_12 : decode prog_15_method_60_code 12 = .ok (.iload 6, 2) := by decide +kernel
theorem d15_60_14 : decode prog_15_method_60_code 14 = .ok (.iconst 4, 1) := by decide +kernel
theorem d15_60_15 : decode prog_15_method_60_code 15 = .ok (.iload_n 3, 1) := by decide +kernel
theorem d15_60_16 : decode prog_15_method_60_code 16 = .ok (.imul, 1) := by decide +kernel
theorem d15_60_17 : decode prog_15_method_60_code 17 = .ok (.iconst 4, 1) := by decide +kernel
theorem d15_60_18 : decode prog_15_method_60_code 18 = .ok (.iadd, 1) := by decide +kernel
theorem d15_60_19 : decode prog_15_method_60_code 19 = .ok (.if_icmp .ge 72, 3) := by decide +kernel
theorem d15_60_22 : decode prog_15_method_60_code 22 = .ok (.iload 6, 2) := by decide +kernel
theorem d15_60_24 : decode prog_15_method_60_code 24 = .ok (.iload 4, 2) := by decide +kernel
theorem d15_60_26 : decode prog_15_method_60_code 26 = .ok (.if_icmp .ne 8, 3) := by decide +kernel
theorem d15_60_34 : decode prog_15_method_60_code 34 = .ok (.aload_n 0, 1) := by decide +kernel
theorem d15_60_35 : decode prog_15_method_60_code 35 = .ok (.iload_n 2, 1) := by decide +kernel
theorem d15_60_36 : decode prog_15_method_60_code 36 = .ok (.iload 6, 2) := by decide +kernel
theorem d15_56_0 : decode prog_15_method_56_code 0 = .ok (.iload_n 1, 1) := by decide +kernel
theorem d15_56_1 : decode prog_15_method_56_code 1 = .ok (.ifCond .lt 13, 3) := by decide +kernel
theorem d15_56_14 : decode prog_15_method_56_code 14 = .ok (.iconst (-1), 1) := by decide +kernel
theorem d15_56_15 : decode prog_15_method_56_code 15 = .ok (.goto 15, 3) := by decide +kernel
theorem d15_56_4 : decode prog_15_method_56_code 4 = .ok (.iload_n 2, 1) := by decide +kernel
theorem d15_56_5 : decode prog_15_method_56_code 5 = .ok (.iconst 0, 1) := by decide +kernel
theorem d15_56_6 : decode prog_15_method_56_code 6 = .ok (.bipush 7, 2) := by decide +kernel
theorem d15_56_8 : decode prog_15_method_56_code 8 = .ok (.invokestatic 260, 3) := by decide +kernel
theorem d15_56_11 : decode prog_15_method_56_code 11 = .ok (.ifCond .ne 7, 3) := by decide +kernel
theorem d15_56_18 : decode prog_15_method_56_code 18 = .ok (.aload_n 0, 1) := by decide +kernel
theorem d15_56_19 : decode prog_15_method_56_code 19 = .ok (.getfield 71, 3) := by decide +kernel
theorem d15_56_22 : decode prog_15_method_56_code 22 = .ok (.iconst 2, 1) := by decide +kernel
theorem d15_56_23 : decode prog_15_method_56_code 23 = .ok (.iload_n 1, 1) := by decide +kernel
theorem d15_56_24 : decode prog_15_method_56_code 24 = .ok (.imul, 1) := by decide +kernel
theorem d15_56_25 : decode prog_15_method_56_code 25 = .ok (.iload_n 2, 1) := by decide +kernel
theorem d15_56_26 : decode prog_15_method_56_code 26 = .ok (.iconst 4, 1) := by decide +kernel
theorem d15_56_27 : decode prog_15_method_56_code 27 = .ok (.idiv, 1) := by decide +kernel
theorem d15_56_28 : decode prog_15_method_56_code 28 = .ok (.iadd, 1) := by decide +kernel
theorem d15_56_29 : decode prog_15_method_56_code 29 = .ok (.iaload, 1) := by decide +kernel
theorem d15_56_30 : decode prog_15_method_56_code 30 = .ok (.istore_n 3, 1) := by decide +kernel
theorem d15_56_31 : decode prog_15_method_56_code 31 = .ok (.iload_n 3, 1) := by decide +kernel
theorem d15_56_32 : decode prog_15_method_56_code 32 = .ok (.ifCond .lt 28, 3) := by decide +kernel
theorem d15_56_60 : decode prog_15_method_56_code 60 = .ok (.iconst (-1), 1) := by decide +kernel
theorem d15_56_35 : decode prog_15_method_56_code 35 = .ok (.aload_n 0, 1) := by decide +kernel
theorem d15_56_36 : decode prog_15_method_56_code 36 = .ok (.getfield 74, 3) := by decide +kernel
theorem d15_56_39 : decode prog_15_method_56_code 39 = .ok (.iconst 4, 1) := by decide +kernel
theorem d15_56_40 : decode prog_15_method_56_code 40 = .ok (.iload_n 3, 1) := by decide +kernel
theorem d15_56_41 : decode prog_15_method_56_code 41 = .ok (.imul, 1) := by decide +kernel
theorem d15_56_42 : decode prog_15_method_56_code 42 = .ok (.iload_n 2, 1) := by decide +kernel
theorem d15_56_43 : decode prog_15_method_56_code 43 = .ok (.iconst 4, 1) := by decide +kernel
theorem d15_56_44 : decode prog_15_method_56_code 44 = .ok (.irem, 1) := by decide +kernel
theorem d15_56_45 : decode prog_15_method_56_code 45 = .ok (.iadd, 1) := by decide +kernel
theorem d15_56_46 : decode prog_15_method_56_code 46 = .ok (.baload, 1) := by decide +kernel
theorem d15_56_47 : decode prog_15_method_56_code 47 = .ok (.ifCond .eq 13, 3) := by decide +kernel
theorem d15_56_50 : decode prog_15_method_56_code 50 = .ok (.iconst 4, 1) := by decide +kernel
theorem d15_56_51 : decode prog_15_method_56_code 51 = .ok (.iload_n 3, 1) := by decide +kernel
theorem d15_56_52 : decode prog_15_method_56_code 52 = .ok (.imul, 1) := by decide +kernel
theorem d15_56_53 : decode prog_15_method_56_code 53 = .ok (.iload_n 2, 1) := by decide +kernel
theorem d15_56_54 : decode prog_15_method_56_code 54 = .ok (.iconst 4, 1) := by decide +kernel
theorem d15_56_55 : decode prog_15_method_56_code 55 = .ok (.irem, 1) := by decide +kernel
theorem d15_56_56 : decode prog_15_method_56_code 56 = .ok (.iadd, 1) := by decide +kernel
theorem d15_56_57 : decode prog_15_method_56_code 57 = .ok (.goto 4, 3) := by decide +kernel
theorem d15_56_61 : decode prog_15_method_56_code 61 = .ok (.ireturn, 1) := by decide +kernel
def y15_56 : MethodName := { cls := "PagedValuesModel", name := "rowOf", desc := "(II)I" }
theorem k1400 : (Jvm.Cond.code ({ cls := "PagedValuesModel", name := "rowOf", desc := "(II)I" } : Jvm.MethodName) prog_15_method_56_code (4 : Nat) (Option.some Jvm.ClassFile.FieldType.int)) ∈ TB := tk_6 200 rfl rfl
theorem k1397 : (Jvm.Cond.methodLink "PagedValuesModel" (299 : Nat) ({ cls := "PagedValuesModel", name := "rowOf", desc := "(II)I" } : Jvm.MethodName)) ∈ TB := tk_6 197 rfl rfl
theorem k1399 : (Jvm.Cond.instanceMethod ({ cls := "PagedValuesModel", name := "rowOf", desc := "(II)I" } : Jvm.MethodName)) ∈ TB := tk_6 199 rfl rfl
theorem ks58 : Cond.selects y15_56.cls y15_56 y15_56 ∈ TB := List.mem_filter.mpr ⟨List.mem_append_left _ (List.mem_of_getElem? (i := 58) (by decide +kernel)), rfl⟩
theorem d15_60_38 : decode prog_15_method_60_code 38 = .ok (.invokevirtual 299, 3) := by decide +kernel
theorem d15_60_29 : decode prog_15_method_60_code 29 = .ok (.iload 5, 2) := by decide +kernel
theorem d15_60_31 : decode prog_15_method_60_code 31 = .ok (.goto 10, 3) := by decide +kernel
theorem d15_60_41 : decode prog_15_method_60_code 41 = .ok (.istore 7, 2) := by decide +kernel
theorem d15_60_43 : decode prog_15_method_60_code 43 = .ok (.aload_n 0, 1) := by decide +kernel
theorem d15_60_44 : decode prog_15_method_60_code 44 = .ok (.getfield 74, 3) := by decide +kernel
theorem d15_60_47 : decode prog_15_method_60_code 47 = .ok (.iconst 4, 1) := by decide +kernel
theorem d15_60_48 : decode prog_15_method_60_code 48 = .ok (.iload_n 1, 1) := by decide +kernel
theorem d15_60_49 : decode prog_15_method_60_code 49 = .ok (.imul, 1) := by decide +kernel
theorem d15_60_50 : decode prog_15_method_60_code 50 = .ok (.iload 6, 2) := by decide +kernel
theorem d15_60_52 : decode prog_15_method_60_code 52 = .ok (.iconst 4, 1) := by decide +kernel
theorem d15_60_53 : decode prog_15_method_60_code 53 = .ok (.irem, 1) := by decide +kernel
theorem d15_60_54 : decode prog_15_method_60_code 54 = .ok (.iadd, 1) := by decide +kernel
theorem d15_60_55 : decode prog_15_method_60_code 55 = .ok (.iload 7, 2) := by decide +kernel
theorem d15_60_57 : decode prog_15_method_60_code 57 = .ok (.ifCond .lt 7, 3) := by decide +kernel
theorem d15_60_64 : decode prog_15_method_60_code 64 = .ok (.iconst 0, 1) := by decide +kernel
theorem d15_60_60 : decode prog_15_method_60_code 60 = .ok (.iconst 1, 1) := by decide +kernel
theorem d15_60_61 : decode prog_15_method_60_code 61 = .ok (.goto 4, 3) := by decide +kernel
theorem d15_60_65 : decode prog_15_method_60_code 65 = .ok (.bastore, 1) := by decide +kernel
theorem d15_60_66 : decode prog_15_method_60_code 66 = .ok (.iload 7, 2) := by decide +kernel
theorem d15_60_68 : decode prog_15_method_60_code 68 = .ok (.ifCond .lt 17, 3) := by decide +kernel
theorem d15_60_71 : decode prog_15_method_60_code 71 = .ok (.aload_n 0, 1) := by decide +kernel
theorem d15_60_72 : decode prog_15_method_60_code 72 = .ok (.iload 7, 2) := by decide +kernel
theorem d15_60_74 : decode prog_15_method_60_code 74 = .ok (.iconst 4, 1) := by decide +kernel
theorem d15_60_75 : decode prog_15_method_60_code 75 = .ok (.iload_n 1, 1) := by decide +kernel
theorem d15_60_76 : decode prog_15_method_60_code 76 = .ok (.imul, 1) := by decide +kernel
theorem d15_60_77 : decode prog_15_method_60_code 77 = .ok (.iload 6, 2) := by decide +kernel
theorem d15_60_79 : decode prog_15_method_60_code 79 = .ok (.iconst 4, 1) := by decide +kernel
theorem d15_60_80 : decode prog_15_method_60_code 80 = .ok (.irem, 1) := by decide +kernel
theorem d15_60_81 : decode prog_15_method_60_code 81 = .ok (.iadd, 1) := by decide +kernel
theorem d15_30_0 : decode prog_15_method_30_code 0 = .ok (.aload_n 0, 1) := by decide +kernel
theorem d15_30_1 : decode prog_15_method_30_code 1 = .ok (.iload_n 1, 1) := by decide +kernel
theorem d15_30_2 : decode prog_15_method_30_code 2 = .ok (.invokestatic 159, 3) := by decide +kernel
theorem d15_30_5 : decode prog_15_method_30_code 5 = .ok (.iload_n 2, 1) := by decide +kernel
theorem d15_30_6 : decode prog_15_method_30_code 6 = .ok (.invokestatic 159, 3) := by decide +kernel
theorem d15_30_9 : decode prog_15_method_30_code 9 = .ok (.aload_n 0, 1) := by decide +kernel
theorem d15_30_10 : decode prog_15_method_30_code 10 = .ok (.getfield 17, 3) := by decide +kernel
theorem d15_30_13 : decode prog_15_method_30_code 13 = .ok (.iload_n 1, 1) := by decide +kernel
theorem d15_30_14 : decode prog_15_method_30_code 14 = .ok (.invokestatic 159, 3) := by decide +kernel
theorem d15_30_17 : decode prog_15_method_30_code 17 = .ok (.baload, 1) := by decide +kernel
theorem d15_29_0 : decode prog_15_method_29_code 0 = .ok (.iconst 0, 1) := by decide +kernel
theorem d15_29_1 : decode prog_15_method_29_code 1 = .ok (.istore 4, 2) := by decide +kernel
theorem d15_29_123 : decode prog_15_method_29_code 123 = .ok (.return_, 1) := by decide +kernel
theorem d15_29_3 : decode prog_15_method_29_code 3 = .ok (.iload 4, 2) := by decide +kernel
theorem d15_29_5 : decode prog_15_method_29_code 5 = .ok (.iload_n 3, 1) := by decide +kernel
theorem d15_29_6 : decode prog_15_method_29_code 6 = .ok (.if_icmp .ge 117, 3) := by decide +kernel
theorem d15_29_9 : decode prog_15_method_29_code 9 = .ok (.aload_n 0, 1) := by decide +kernel
theorem d15_29_10 : decode prog_15_method_29_code 10 = .ok (.getfield 13, 3) := by decide +kernel
theorem d15_29_13 : decode prog_15_method_29_code 13 = .ok (.iload_n 2, 1) := by decide +kernel
theorem d15_29_14 : decode prog_15_method_29_code 14 = .ok (.iload 4, 2) := by decide +kernel
theorem d15_29_16 : decode prog_15_method_29_code 16 = .ok (.iadd, 1) := by decide +kernel
theorem d15_29_17 : decode prog_15_method_29_code 17 = .ok (.aload_n 0, 1) := by decide +kernel
theorem d15_29_18 : decode prog_15_method_29_code 18 = .ok (.getfield 13, 3) := by decide +kernel
theorem d15_29_21 : decode prog_15_method_29_code 21 = .ok (.iload_n 1, 1) := by decide +kernel
theorem d15_29_22 : decode prog_15_method_29_code 22 = .ok (.iload 4, 2) := by decide +kernel
theorem d15_29_24 : decode prog_15_method_29_code 24 = .ok (.iadd, 1) := by decide +kernel
theorem d15_29_25 : decode prog_15_method_29_code 25 = .ok (.baload, 1) := by decide +kernel
theorem d15_29_26 : decode prog_15_method_29_code 26 = .ok (.bastore, 1) := by decide +kernel
theorem d15_29_27 : decode prog_15_method_29_code 27 = .ok (.aload_n 0, 1) := by decide +kernel
theorem d15_29_28 : decode prog_15_method_29_code 28 = .ok (.getfield 17, 3) := by decide +kernel
theorem d15_29_31 : decode prog_15_method_29_code 31 = .ok (.iload_n 2, 1) := by decide +kernel
theorem d15_29_32 : decode prog_15_method_29_code 32 = .ok (.iload 4, 2) := by decide +kernel
theorem d15_29_34 : decode prog_15_method_29_code 34 = .ok (.iadd, 1) := by decide +kernel
theorem d15_29_35 : decode prog_15_method_29_code 35 = .ok (.aload_n 0, 1) := by decide +kernel
theorem d15_29_36 : decode prog_15_method_29_code 36 = .ok (.getfield 17, 3) := by decide +kernel
theorem d15_29_39 : decode prog_15_method_29_code 39 = .ok (.iload_n 1, 1) := by decide +kernel
theorem d15_29_40 : decode prog_15_method_29_code 40 = .ok (.iload 4, 2) := by decide +kernel
theorem d15_29_42 : decode prog_15_method_29_code 42 = .ok (.iadd, 1) := by decide +kernel
theorem d15_29_43 : decode prog_15_method_29_code 43 = .ok (.baload, 1) := by decide +kernel
theorem d15_29_44 : decode prog_15_method_29_code 44 = .ok (.bastore, 1) := by decide +kernel
theorem d15_29_45 : decode prog_15_method_29_code 45 = .ok (.aload_n 0, 1) := by decide +kernel
theorem d15_29_46 : decode prog_15_method_29_code 46 = .ok (.getfield 20, 3) := by decide +kernel
theorem d15_29_49 : decode prog_15_method_29_code 49 = .ok (.iload_n 2, 1) := by decide +kernel
theorem d15_29_50 : decode prog_15_method_29_code 50 = .ok (.iload 4, 2) := by decide +kernel
theorem d15_29_52 : decode prog_15_method_29_code 52 = .ok (.iadd, 1) := by decide +kernel
theorem d15_29_53 : decode prog_15_method_29_code 53 = .ok (.aload_n 0, 1) := by decide +kernel
theorem d15_29_54 : decode prog_15_method_29_code 54 = .ok (.getfield 20, 3) := by decide +kernel
theorem d15_29_57 : decode prog_15_method_29_code 57 = .ok (.iload_n 1, 1) := by decide +kernel
theorem d15_29_58 : decode prog_15_method_29_code 58 = .ok (.iload 4, 2) := by decide +kernel
theorem d15_29_60 : decode prog_15_method_29_code 60 = .ok (.iadd, 1) := by decide +kernel
theorem d15_29_61 : decode prog_15_method_29_code 61 = .ok (.laload, 1) := by decide +kernel
theorem d15_29_62 : decode prog_15_method_29_code 62 = .ok (.lastore, 1) := by decide +kernel
theorem d15_29_63 : decode prog_15_method_29_code 63 = .ok (.aload_n 0, 1) := by decide +kernel
theorem d15_29_64 : decode prog_15_method_29_code 64 = .ok (.getfield 24, 3) := by decide +kernel
theorem d15_29_67 : decode prog_15_method_29_code 67 = .ok (.iload_n 2, 1) := by decide +kernel
theorem d15_29_68 : decode prog_15_method_29_code 68 = .ok (.iload 4, 2) := by decide +kernel
theorem d15_29_70 : decode prog_15_method_29_code 70 = .ok (.iadd, 1) := by decide +kernel
theorem d15_29_71 : decode prog_15_method_29_code 71 = .ok (.aload_n 0, 1) := by decide +kernel
theorem d15_29_72 : decode prog_15_method_29_code 72 = .ok (.getfield 24, 3) := by decide +kernel
theorem d15_29_75 : decode prog_15_method_29_code 75 = .ok (.iload_n 1, 1) := by decide +kernel
theorem d15_29_76 : decode prog_15_method_29_code 76 = .ok (.iload 4, 2) := by decide +kernel
theorem d15_29_78 : decode prog_15_method_29_code 78 = .ok (.iadd, 1) := by decide +kernel
theorem d15_29_79 : decode prog_15_method_29_code 79 = .ok (.laload, 1) := by decide +kernel
theorem d15_29_80 : decode prog_15_method_29_code 80 = .ok (.lastore, 1) := by decide +kernel
theorem d15_29_81 : decode prog_15_method_29_code 81 = .ok (.aload_n 0, 1) := by decide +kernel
theorem d15_29_82 : decode prog_15_method_29_code 82 = .ok (.getfield 27, 3) := by decide +kernel
theorem d15_29_85 : decode prog_15_method_29_code 85 = .ok (.iload_n 2, 1) := by decide +kernel
theorem d15_29_86 : decode prog_15_method_29_code 86 = .ok (.iload 4, 2) := by decide +kernel
theorem d15_29_88 : decode prog_15_method_29_code 88 = .ok (.iadd, 1) := by decide +kernel
theorem d15_29_89 : decode prog_15_method_29_code 89 = .ok (.aload_n 0, 1) := by decide +kernel
theorem d15_29_90 : decode prog_15_method_29_code 90 = .ok (.getfield 27, 3) := by decide +kernel
theorem d15_29_93 : decode prog_15_method_29_code 93 = .ok (.iload_n 1, 1) := by decide +kernel
theorem d15_29_94 : decode prog_15_method_29_code 94 = .ok (.iload 4, 2) := by decide +kernel
theorem d15_29_96 : decode prog_15_method_29_code 96 = .ok (.iadd, 1) := by decide +kernel
theorem d15_29_97 : decode prog_15_method_29_code 97 = .ok (.laload, 1) := by decide +kernel
theorem d15_29_98 : decode prog_15_method_29_code 98 = .ok (.lastore, 1) := by decide +kernel
theorem d15_29_99 : decode prog_15_method_29_code 99 = .ok (.aload_n 0, 1) := by decide +kernel
theorem d15_29_100 : decode prog_15_method_29_code 100 = .ok (.getfield 30, 3) := by decide +kernel
theorem d15_29_103 : decode prog_15_method_29_code 103 = .ok (.iload_n 2, 1) := by decide +kernel
theorem d15_29_104 : decode prog_15_method_29_code 104 = .ok (.iload 4, 2) := by decide +kernel
theorem d15_29_106 : decode prog_15_method_29_code 106 = .ok (.iadd, 1) := by decide +kernel
theorem d15_29_107 : decode prog_15_method_29_code 107 = .ok (.aload_n 0, 1) := by decide +kernel
theorem d15_29_108 : decode prog_15_method_29_code 108 = .ok (.getfield 30, 3) := by decide +kernel
theorem d15_29_111 : decode prog_15_method_29_code 111 = .ok (.iload_n 1, 1) := by decide +kernel
theorem d15_29_112 : decode prog_15_method_29_code 112 = .ok (.iload 4, 2) := by decide +kernel
theorem d15_29_114 : decode prog_15_method_29_code 114 = .ok (.iadd, 1) := by decide +kernel
theorem d15_29_115 : decode prog_15_method_29_code 115 = .ok (.laload, 1) := by decide +kernel
theorem d15_29_116 : decode prog_15_method_29_code 116 = .ok (.lastore, 1) := by decide +kernel
theorem d15_29_117 : decode prog_15_method_29_code 117 = .ok (.iinc 4 1, 3) := by decide +kernel
theorem d15_29_120 : decode prog_15_method_29_code 120 = .ok (.goto (-117), 3) := by decide +kernel
def y15_29 : MethodName := { cls := "PagedValuesModel", name := "copy", desc := "(III)V" }
theorem k1424 : (Jvm.Cond.code ({ cls := "PagedValuesModel", name := "copy", desc := "(III)V" } : Jvm.MethodName) prog_15_method_29_code (5 : Nat) (Option.none : Option Jvm.ClassFile.FieldType)) ∈ TB := tk_6 224 rfl rfl
theorem k1421 : (Jvm.Cond.methodLink "PagedValuesModel" (199 : Nat) ({ cls := "PagedValuesModel", name := "copy", desc := "(III)V" } : Jvm.MethodName)) ∈ TB := tk_6 221 rfl rfl
theorem k1423 : (Jvm.Cond.instanceMethod ({ cls := "PagedValuesModel", name := "copy", desc := "(III)V" } : Jvm.MethodName)) ∈ TB := tk_6 223 rfl rfl
theorem ks64 : Cond.selects y15_29.cls y15_29 y15_29 ∈ TB := List.mem_filter.mpr ⟨List.mem_append_left _ (List.mem_of_getElem? (i := 64) (by decide +kernel)), rfl⟩
theorem d15_30_18 : decode prog_15_method_30_code 18 = .ok (.invokevirtual 199, 3) := by decide +kernel
theorem d15_30_21 : decode prog_15_method_30_code 21 = .ok (.return_, 1) := by decide +kernel
def y15_30 : MethodName := { cls := "PagedValuesModel", name := "copyRow", desc := "(II)V" }
theorem k1420 : (Jvm.Cond.code ({ cls := "PagedValuesModel", name := "copyRow", desc := "(II)V" } : Jvm.MethodName) prog_15_method_30_code (3 : Nat) (Option.none : Option Jvm.ClassFile.FieldType)) ∈ TB := tk_6 220 rfl rfl
theorem k1417 : (Jvm.Cond.methodLink "PagedValuesModel" (325 : Nat) ({ cls := "PagedValuesModel", name := "copyRow", desc := "(II)V" } : Jvm.MethodName)) ∈ TB := tk_6 217 rfl rfl
theorem k1419 : (Jvm.Cond.instanceMethod ({ cls := "PagedValuesModel", name := "copyRow", desc := "(II)V" } : Jvm.MethodName)) ∈ TB := tk_6 219 rfl rfl
theorem ks63 : Cond.selects y15_30.cls y15_30 y15_30 ∈ TB := List.mem_filter.mpr ⟨List.mem_append_left _ (List.mem_of_getElem? (i := 63) (by decide +kernel)), rfl⟩
theorem d15_60_82 : decode prog_15_method_60_code 82 = .ok (.invokevirtual 325, 3) := by decide +kernel
theorem d15_60_85 : decode prog_15_method_60_code 85 = .ok (.iinc 6 1, 3) := by decide +kernel
theorem d15_60_88 : decode prog_15_method_60_code 88 = .ok (.goto (-76), 3) := by decide +kernel
def y15_60 : MethodName := { cls := "PagedValuesModel", name := "writeLeaf", desc := "(IIIII)V" }
theorem k1416 : (Jvm.Cond.code ({ cls := "PagedValuesModel", name := "writeLeaf", desc := "(IIIII)V" } : Jvm.MethodName) prog_15_method_60_code (8 : Nat) (Option.none : Option Jvm.ClassFile.FieldType)) ∈ TB := tk_6 216 rfl rfl
theorem k1413 : (Jvm.Cond.methodLink "PagedValuesModel" (318 : Nat) ({ cls := "PagedValuesModel", name := "writeLeaf", desc := "(IIIII)V" } : Jvm.MethodName)) ∈ TB := tk_6 213 rfl rfl
theorem k1415 : (Jvm.Cond.instanceMethod ({ cls := "PagedValuesModel", name := "writeLeaf", desc := "(IIIII)V" } : Jvm.MethodName)) ∈ TB := tk_6 215 rfl rfl
theorem ks62 : Cond.selects y15_60.cls y15_60 y15_60 ∈ TB := List.mem_filter.mpr ⟨List.mem_append_left _ (List.mem_of_getElem? (i := 62) (by decide +kernel)), rfl⟩
theorem d15_59_197 : decode prog_15_method_59_code 197 = .ok (.invokevirtual 318, 3) := by decide +kernel
theorem d15_59_200 : decode prog_15_method_59_code 200 = .ok (.aload_n 0, 1) := by decide +kernel
theorem d15_59_201 : decode prog_15_method_59_code 201 = .ok (.invokevirtual 322, 3) := by decide +kernel
theorem d15_59_204 : decode prog_15_method_59_code 204 = .ok (.ifCond .ne 6, 3) := by decide +kernel
theorem d15_59_207 : decode prog_15_method_59_code 207 = .ok (.bipush (-9), 2) := by decide +kernel
theorem d15_59_209 : decode prog_15_method_59_code 209 = .ok (.ireturn, 1) := by decide +kernel
theorem d15_59_176 : decode prog_15_method_59_code 176 = .ok (.iload 8, 2) := by decide +kernel
theorem d15_59_178 : decode prog_15_method_59_code 178 = .ok (.ifCond .ge 6, 3) := by decide +kernel
theorem d15_59_181 : decode prog_15_method_59_code 181 = .ok (.bipush (-2), 2) := by decide +kernel
theorem d15_59_183 : decode prog_15_method_59_code 183 = .ok (.ireturn, 1) := by decide +kernel
theorem d15_59_163 : decode prog_15_method_59_code 163 = .ok (.iload 7, 2) := by decide +kernel
theorem d15_59_165 : decode prog_15_method_59_code 165 = .ok (.ifCond .lt 16, 3) := by decide +kernel
theorem d15_59_24 : decode prog_15_method_59_code 24 = .ok (.iload 7, 2) := by decide +kernel
theorem d15_59_26 : decode prog_15_method_59_code 26 = .ok (.bipush 8, 2) := by decide +kernel
theorem d15_59_28 : decode prog_15_method_59_code 28 = .ok (.if_icmp .ge 94, 3) := by decide +kernel
theorem d15_59_31 : decode prog_15_method_59_code 31 = .ok (.iload 7, 2) := by decide +kernel
theorem d15_59_33 : decode prog_15_method_59_code 33 = .ok (.iload_n 1, 1) := by decide +kernel
theorem d15_59_34 : decode prog_15_method_59_code 34 = .ok (.if_icmp .ne 15, 3) := by decide +kernel
theorem d15_59_49 : decode prog_15_method_59_code 49 = .ok (.aload_n 0, 1) := by decide +kernel
theorem d15_59_50 : decode prog_15_method_59_code 50 = .ok (.iload_n 3, 1) := by decide +kernel
theorem d15_59_51 : decode prog_15_method_59_code 51 = .ok (.iload 7, 2) := by decide +kernel
theorem d15_59_53 : decode prog_15_method_59_code 53 = .ok (.invokevirtual 299, 3) := by decide +kernel
theorem d15_59_56 : decode prog_15_method_59_code 56 = .ok (.ifCond .lt 7, 3) := by decide +kernel
theorem d15_59_63 : decode prog_15_method_59_code 63 = .ok (.iconst 0, 1) := by decide +kernel
theorem d15_59_59 : decode prog_15_method_59_code 59 = .ok (.iconst 1, 1) := by decide +kernel
theorem d15_59_60 : decode prog_15_method_59_code 60 = .ok (.goto 4, 3) := by decide +kernel
theorem d15_59_37 : decode prog_15_method_59_code 37 = .ok (.iload_n 2, 1) := by decide +kernel
theorem d15_59_38 : decode prog_15_method_59_code 38 = .ok (.ifCond .lt 7, 3) := by decide +kernel
theorem d15_59_45 : decode prog_15_method_59_code 45 = .ok (.iconst 0, 1) := by decide +kernel
theorem d15_59_46 : decode prog_15_method_59_code 46 = .ok (.goto 18, 3) := by decide +kernel
theorem d15_59_41 : decode prog_15_method_59_code 41 = .ok (.iconst 1, 1) := by decide +kernel
theorem d15_59_42 : decode prog_15_method_59_code 42 = .ok (.goto 22, 3) := by decide +kernel
theorem d15_59_64 : decode prog_15_method_59_code 64 = .ok (.istore 8, 2) := by decide +kernel
theorem d15_59_66 : decode prog_15_method_59_code 66 = .ok (.iload 8, 2) := by decide +kernel
theorem d15_59_68 : decode prog_15_method_59_code 68 = .ok (.ifCond .eq 19, 3) := by decide +kernel
theorem d15_59_87 : decode prog_15_method_59_code 87 = .ok (.iload 5, 2) := by decide +kernel
theorem d15_59_71 : decode prog_15_method_59_code 71 = .ok (.iload 7, 2) := by decide +kernel
theorem d15_59_73 : decode prog_15_method_59_code 73 = .ok (.iconst 4, 1) := by decide +kernel
theorem d15_59_74 : decode prog_15_method_59_code 74 = .ok (.idiv, 1) := by decide +kernel
theorem d15_59_75 : decode prog_15_method_59_code 75 = .ok (.iload 4, 2) := by decide +kernel
theorem d15_59_77 : decode prog_15_method_59_code 77 = .ok (.if_icmp .ne 10, 3) := by decide +kernel
theorem d15_59_80 : decode prog_15_method_59_code 80 = .ok (.iload 5, 2) := by decide +kernel
theorem d15_59_82 : decode prog_15_method_59_code 82 = .ok (.iconst 1, 1) := by decide +kernel
theorem d15_59_83 : decode prog_15_method_59_code 83 = .ok (.iadd, 1) := by decide +kernel
theorem d15_59_84 : decode prog_15_method_59_code 84 = .ok (.goto 5, 3) := by decide +kernel
theorem d15_59_89 : decode prog_15_method_59_code 89 = .ok (.istore 5, 2) := by decide +kernel
theorem d15_59_91 : decode prog_15_method_59_code 91 = .ok (.iload 8, 2) := by decide +kernel
theorem d15_59_93 : decode prog_15_method_59_code 93 = .ok (.ifCond .eq 19, 3) := by decide +kernel
theorem d15_59_112 : decode prog_15_method_59_code 112 = .ok (.iload 6, 2) := by decide +kernel
theorem d15_59_96 : decode prog_15_method_59_code 96 = .ok (.iload 7, 2) := by decide +kernel
theorem d15_59_98 : decode prog_15_method_59_code 98 = .ok (.iconst 4, 1) := by decide +kernel
theorem d15_59_99 : decode prog_15_method_59_code 99 = .ok (.idiv, 1) := by decide +kernel
theorem d15_59_100 : decode prog_15_method_59_code 100 = .ok (.iload 4, 2) := by decide +kernel
theorem d15_59_102 : decode prog_15_method_59_code 102 = .ok (.if_icmp .eq 10, 3) := by decide +kernel
theorem d15_59_105 : decode prog_15_method_59_code 105 = .ok (.iload 6, 2) := by decide +kernel
theorem d15_59_107 : decode prog_15_method_59_code 107 = .ok (.iconst 1, 1) := by decide +kernel
theorem d15_59_108 : decode prog_15_method_59_code 108 = .ok (.iadd, 1) := by decide +kernel
theorem d15_59_109 : decode prog_15_method_59_code 109 = .ok (.goto 5, 3) := by decide +kernel
theorem d15_59_114 : decode prog_15_method_59_code 114 = .ok (.istore 6, 2) := by decide +kernel
theorem d15_59_116 : decode prog_15_method_59_code 116 = .ok (.iinc 7 1, 3) := by decide +kernel
theorem d15_59_119 : decode prog_15_method_59_code 119 = .ok (.goto (-95), 3) := by decide +kernel
def y15_59 : MethodName := { cls := "PagedValuesModel", name := "change", desc := "(II)I" }
theorem k1392 : (Jvm.Cond.code ({ cls := "PagedValuesModel", name := "change", desc := "(II)I" } : Jvm.MethodName) prog_15_method_59_code (10 : Nat) (Option.some Jvm.ClassFile.FieldType.int)) ∈ TB := tk_6 192 rfl rfl
theorem k1389 : (Jvm.Cond.methodLink "PagedValuesModel" (332 : Nat) ({ cls := "PagedValuesModel", name := "change", desc := "(II)I" } : Jvm.MethodName)) ∈ TB := tk_6 189 rfl rfl
theorem k1391 : (Jvm.Cond.instanceMethod ({ cls := "PagedValuesModel", name := "change", desc := "(II)I" } : Jvm.MethodName)) ∈ TB := tk_6 191 rfl rfl
theorem ks56 : Cond.selects y15_59.cls y15_59 y15_59 ∈ TB := List.mem_filter.mpr ⟨List.mem_append_left _ (List.mem_of_getElem? (i := 56) (by decide +kernel)), rfl⟩
theorem d15_62_59 : decode prog_15_method_62_code 59 = .ok (.invokevirtual 332, 3) := by decide +kernel
theorem d15_62_62 : decode prog_15_method_62_code 62 = .ok (.istore_n 2, 1) := by decide +kernel
theorem d15_62_63 : decode prog_15_method_62_code 63 = .ok (.iload_n 2, 1) := by decide +kernel
theorem d15_62_64 : decode prog_15_method_62_code 64 = .ok (.ifCond .eq 7, 3) := by decide +kernel
theorem d15_62_71 : decode prog_15_method_62_code 71 = .ok (.aload_n 0, 1) := by decide +kernel
theorem d15_62_72 : decode prog_15_method_62_code 72 = .ok (.getfield 17, 3) := by decide +kernel
theorem d15_62_75 : decode prog_15_method_62_code 75 = .ok (.bipush 80, 2) := by decide +kernel
theorem d15_62_77 : decode prog_15_method_62_code 77 = .ok (.invokestatic 159, 3) := by decide +kernel
theorem d15_62_80 : decode prog_15_method_62_code 80 = .ok (.baload, 1) := by decide +kernel
theorem d15_62_67 : decode prog_15_method_62_code 67 = .ok (.iload_n 2, 1) := by decide +kernel
theorem d15_62_68 : decode prog_15_method_62_code 68 = .ok (.goto 13, 3) := by decide +kernel
theorem d15_62_81 : decode prog_15_method_62_code 81 = .ok (.ireturn, 1) := by decide +kernel
theorem d15_62_47 : decode prog_15_method_62_code 47 = .ok (.bipush (-100), 2) := by decide +kernel
theorem d15_62_49 : decode prog_15_method_62_code 49 = .ok (.aload_n 0, 1) := by decide +kernel
theorem d15_62_50 : decode prog_15_method_62_code 50 = .ok (.getfield 111, 3) := by decide +kernel
theorem d15_62_53 : decode prog_15_method_62_code 53 = .ok (.isub, 1) := by decide +kernel
theorem d15_62_54 : decode prog_15_method_62_code 54 = .ok (.ireturn, 1) := by decide +kernel
def y15_62 : MethodName := { cls := "PagedValuesModel", name := "put", desc := "(I)I" }
def m_within (a0 : Int32) (a1 : Int32) (a2 : Int32) : Option (Int32) := (if a0 < a1 then (some (0 : Int32)) else (if a2 < a0 then (some (0 : Int32)) else (some (1 : Int32)))).bind fun e2 => (bz e2).bind fun _ => some e2
set_option maxHeartbeats 4000000 in
set_option maxRecDepth 100000 in
theorem cm_within (l : Launch) (G : Gk) (Zd : Nat → Nat) (w0 : va_W) (a0 : Int32) (a1 : Int32) (a2 : Int32) (r0 : Int32) (hm : m_within a0 a1 a2 = some r0) (sz : Nat) : Met l y15_2 (Cond.code y15_2 prog_15_method_2_code 3 (some .boolean) :: TB) (rmD 0 0 0) (va_Pc [.int a0, .int a1, .int a2] (pcW G Zd w0 sz)) (qI G (fun rr (_ : Unit) => rr = r0) (fun _ => w0) (va_A w0 sz)) 0 0 (va_A w0 sz) := by
  refine go (y := y15_2) (cc := prog_15_method_2_code) (maxL := 3) (ret := (some .boolean)) (av := [.int a0, .int a1, .int a2]) (Qc := qI G (fun rr (_ : Unit) => rr = r0) (fun _ => w0)) "PagedValuesModel" rfl (by decide) (Nat.le_of_ble_eq_true rfl) ?_
  intro p e s m below meth c ls A hx hb hr hlk hml hown hts hin hl hP hD hK hS hA hZ
  have hl : lv_has ls 3 [(0, .int a0), (1, .int a1), (2, .int a2)] := hl
  have h := hm
  clear hm
  refine lv_iload_n hx hb d15_2_0 rfl (lv_at hl 0 rfl) ?_
  refine lv_iload_n hx hb d15_2_1 rfl (lv_at hl 1 rfl) ?_
  obtain ⟨e2, hX, h⟩ := ob h
  have hj : ∀ (H : Heap) (locs : List Loc) (ls : Array Slot), lv_has ls 3 [(0, .int a0), (1, .int a1), (2, .int a2)] → va_P G.1 vwCl w0 H → va_D A w0 → va_S A s.heap H locs → W p l e (rmD 0 0 0) s m ([.int a0, .int a1, .int a2] : List Value).toArray below meth c H locs 0 0 (MQ below (qI G (fun rr (_ : Unit) => rr = r0) (fun _ => w0) A) ([.int a0, .int a1, .int a2] : List Value).toArray s 0 0 A) (F0 m 15 ls [.int e2]) := by
    intro H locs ls hl hP hD hS
    obtain ⟨u9, hr9, h⟩ := ob h
    have hi := bz_some hr9
    clear hr9 u9
    cases h
    exact fin_z hx hb hr hlk (nar01 hi) hS () rfl hP hD (Nat.le_of_ble_eq_true rfl) (Nat.le_of_ble_eq_true rfl) d15_2_15
  clear h
  refine lv_icmp_lt (tgt := 14) hx hb d15_2_2 rfl (fun c1 => ?_) (fun c1 => ?_)
  ·
    replace h := (if_pos c1).symm.trans hX
    refine lv_iconst (v := 0) hx hb d15_2_14 (by decide) ?_
    have e9 := Option.some.inj h
    subst e2
    have hl := lv_sub hl (l' := [(0, .int a0), (1, .int a1), (2, .int a2)]) [0, 1, 2] rfl
    exact hj _ _ _ hl hP hD hS
  ·
    replace h := (if_neg c1).symm.trans hX
    refine lv_iload_n hx hb d15_2_5 rfl (lv_at hl 0 rfl) ?_
    refine lv_iload_n hx hb d15_2_6 rfl (lv_at hl 2 rfl) ?_
    refine lv_icmp_gt (tgt := 14) hx hb d15_2_7 rfl (fun c4 => ?_) (fun c4 => ?_)
    ·
      replace h := (if_pos c4).symm.trans h
      refine lv_iconst (v := 0) hx hb d15_2_14 (by decide) ?_
      have e9 := Option.some.inj h
      subst e2
      have hl := lv_sub hl (l' := [(0, .int a0), (1, .int a1), (2, .int a2)]) [0, 1, 2] rfl
      exact hj _ _ _ hl hP hD hS
    ·
      replace h := (if_neg c4).symm.trans h
      refine lv_iconst (v := 1) hx hb d15_2_10 (by decide) ?_
      refine lv_goto (tgt := 15) hx hb d15_2_11 rfl ?_
      have e9 := Option.some.inj h
      subst e2
      have hl := lv_sub hl (l' := [(0, .int a0), (1, .int a1), (2, .int a2)]) [0, 1, 2] rfl
      exact hj _ _ _ hl hP hD hS
def m_here (st : MS) : Option (Int32) := (if (st.1 0) ≤ (st.1 1) then (some ((-1) : Int32)) else ((rd (st.2.2.1 0) 80 (st.1 1)).bind fun x4 => some x4)).bind fun e2 => some e2
set_option maxHeartbeats 4000000 in
set_option maxRecDepth 100000 in
theorem cm_here (l : Launch) (G : Gk) (Zd : Nat → Nat) (q : Nat → Nat) (st : MS) (r0 : Int32) (hm : m_here st = some r0) (sz : Nat) : Met l y15_7 (Cond.code y15_7 prog_15_method_7_code 1 (some .int) :: TB) (rmD 0 0 0) (va_Pc [.ref (q 0)] (pcW G Zd (wMs q G.2 st) sz)) (qI G (fun rr (_ : Unit) => rr = r0) (fun _ => (wMs q G.2 st)) (va_A (wMs q G.2 st) sz)) 0 0 (va_A (wMs q G.2 st) sz) := by
  refine go (y := y15_7) (cc := prog_15_method_7_code) (maxL := 1) (ret := (some .int)) (av := [.ref (q 0)]) (Qc := qI G (fun rr (_ : Unit) => rr = r0) (fun _ => (wMs q G.2 st))) "PagedValuesModel" rfl (by decide) (Nat.le_of_ble_eq_true rfl) ?_
  intro p e s m below meth c ls A hx hb hr hlk hml hown hts hin hl hP hD hK hS hA hZ
  have hl : lv_has ls 1 [(0, .ref (q 0))] := hl
  have h := hm
  clear hm
  refine lv_aload_n hx hb d15_7_0 rfl (lv_at hl 0 rfl) ?_
  refine va_get (D := G.1) (ci := 13) (v := .int (st.1 1)) (C := r_13) (T := f_13) (N := 42) (ref := "PagedValuesModel") hx hb hts (fun w h => List.mem_cons_of_mem _ (ly_13 w h)) hown hK hP 0 rfl rfl 2 (by decide) (hts _ (List.mem_cons_of_mem _ k1153)) (fun _ h9 => h9) rfl d15_7_1 ?_
  refine lv_aload_n hx hb d15_7_4 rfl (lv_at hl 0 rfl) ?_
  refine va_get (D := G.1) (ci := 13) (v := .int (st.1 0)) (C := r_13) (T := f_13) (N := 42) (ref := "PagedValuesModel") hx hb hts (fun w h => List.mem_cons_of_mem _ (ly_13 w h)) hown hK hP 0 rfl rfl 1 (by decide) (hts _ (List.mem_cons_of_mem _ k1152)) (fun _ h9 => h9) rfl d15_7_5 ?_
  obtain ⟨e2, hX, h⟩ := ob h
  have hj : ∀ (H : Heap) (locs : List Loc) (ls : Array Slot), lv_has ls 1 [(0, .ref (q 0))] → va_P G.1 vwCl (wMs q G.2 st) H → va_D A (wMs q G.2 st) → va_S A s.heap H locs → W p l e (rmD 0 0 0) s m ([.ref (q 0)] : List Value).toArray below meth c H locs 0 0 (MQ below (qI G (fun rr (_ : Unit) => rr = r0) (fun _ => (wMs q G.2 st)) A) ([.ref (q 0)] : List Value).toArray s 0 0 A) (F0 m 24 ls [.int e2]) := by
    intro H locs ls hl hP hD hS
    cases h
    exact fin_i hx hb hr hlk hS () rfl hP hD (Nat.le_of_ble_eq_true rfl) (Nat.le_of_ble_eq_true rfl) d15_7_24
  clear h
  refine lv_icmp_ge (tgt := 23) hx hb d15_7_8 rfl (fun c1 => ?_) (fun c1 => ?_)
  ·
    replace h := (if_pos c1).symm.trans hX
    refine lv_iconst (v := (-1)) hx hb d15_7_23 (by decide) ?_
    have e9 := Option.some.inj h
    subst e2
    have hl := lv_sub hl (l' := [(0, .ref (q 0))]) [0] rfl
    exact hj _ _ _ hl hP hD hS
  ·
    replace h := (if_neg c1).symm.trans hX
    refine lv_aload_n hx hb d15_7_11 rfl (lv_at hl 0 rfl) ?_
    refine va_get (D := G.1) (ci := 13) (v := .ref (q 1)) (C := r_13) (T := f_13) (N := 42) (ref := "PagedValuesModel") hx hb hts (fun w h => List.mem_cons_of_mem _ (ly_13 w h)) hown hK hP 0 rfl rfl 0 (by decide) (hts _ (List.mem_cons_of_mem _ k1151)) (fun _ h9 => h9) rfl d15_7_12 ?_
    refine lv_aload_n hx hb d15_7_15 rfl (lv_at hl 0 rfl) ?_
    refine va_get (D := G.1) (ci := 13) (v := .int (st.1 1)) (C := r_13) (T := f_13) (N := 42) (ref := "PagedValuesModel") hx hb hts (fun w h => List.mem_cons_of_mem _ (ly_13 w h)) hown hK hP 0 rfl rfl 2 (by decide) (hts _ (List.mem_cons_of_mem _ k1153)) (fun _ h9 => h9) rfl d15_7_16 ?_
    obtain ⟨x4, hr, h⟩ := ob h
    obtain ⟨hi, hv⟩ := rd_some hr
    refine va_cald (D := G.1) hx hb hK hP 1 0 rfl rfl (i := st.1 1) hi d15_7_19 ?_
    refine lv_topi (fun y9 ey => ?_)
    have e9 := ey.trans hv
    clear ey
    subst y9
    clear hv hi hr
    refine lv_goto (tgt := 24) hx hb d15_7_20 rfl ?_
    have e9 := Option.some.inj h
    subst e2
    have hl := lv_sub hl (l' := [(0, .ref (q 0))]) [0] rfl
    exact hj _ _ _ hl hP hD hS
def m_sees (a0 : Int32) (st : MS) : Option (Int32) := (if (0 : Int32) ≤ (st.1 2) then (some (0 : Int32)) else ((m_here st).bind fun x4 => if x4 = a0 then (some (1 : Int32)) else (some (0 : Int32)))).bind fun e2 => (bz e2).bind fun _ => some e2
set_option maxHeartbeats 4000000 in
set_option maxRecDepth 100000 in
theorem cm_sees (l : Launch) (G : Gk) (Zd : Nat → Nat) (q : Nat → Nat) (a0 : Int32) (st : MS) (r0 : Int32) (hm : m_sees a0 st = some r0) (sz : Nat) : Met l y15_10 (Cond.code y15_10 prog_15_method_10_code 2 (some .boolean) :: TB) (rmD 1 0 0) (va_Pc [.ref (q 0), .int a0] (pcW G Zd (wMs q G.2 st) sz)) (qI G (fun rr (_ : Unit) => rr = r0) (fun _ => (wMs q G.2 st)) (va_A (wMs q G.2 st) sz)) 0 0 (va_A (wMs q G.2 st) sz) := by
  refine go (y := y15_10) (cc := prog_15_method_10_code) (maxL := 2) (ret := (some .boolean)) (av := [.ref (q 0), .int a0]) (Qc := qI G (fun rr (_ : Unit) => rr = r0) (fun _ => (wMs q G.2 st))) "PagedValuesModel" rfl (by decide) (Nat.le_of_ble_eq_true rfl) ?_
  intro p e s m below meth c ls A hx hb hr hlk hml hown hts hin hl hP hD hK hS hA hZ
  have hl : lv_has ls 2 [(0, .ref (q 0)), (1, .int a0)] := hl
  have h := hm
  clear hm
  refine lv_aload_n hx hb d15_10_0 rfl (lv_at hl 0 rfl) ?_
  refine va_get (D := G.1) (ci := 13) (v := .int (st.1 2)) (C := r_13) (T := f_13) (N := 42) (ref := "PagedValuesModel") hx hb hts (fun w h => List.mem_cons_of_mem _ (ly_13 w h)) hown hK hP 0 rfl rfl 3 (by decide) (hts _ (List.mem_cons_of_mem _ k1154)) (fun _ h9 => h9) rfl d15_10_1 ?_
  obtain ⟨e2, hX, h⟩ := ob h
  have hj : ∀ (H : Heap) (locs : List Loc) (ls : Array Slot), lv_has ls 2 [(0, .ref (q 0)), (1, .int a0)] → va_P G.1 vwCl (wMs q G.2 st) H → va_D A (wMs q G.2 st) → va_S A s.heap H locs → W p l e (rmD 1 0 0) s m ([.ref (q 0), .int a0] : List Value).toArray below meth c H locs 0 0 (MQ below (qI G (fun rr (_ : Unit) => rr = r0) (fun _ => (wMs q G.2 st)) A) ([.ref (q 0), .int a0] : List Value).toArray s 0 0 A) (F0 m 20 ls [.int e2]) := by
    intro H locs ls hl hP hD hS
    obtain ⟨u9, hr9, h⟩ := ob h
    have hi := bz_some hr9
    clear hr9 u9
    cases h
    exact fin_z hx hb hr hlk (nar01 hi) hS () rfl hP hD (Nat.le_of_ble_eq_true rfl) (Nat.le_of_ble_eq_true rfl) d15_10_20
  clear h
  refine lv_if_ge (tgt := 19) hx hb d15_10_4 rfl (fun c1 => ?_) (fun c1 => ?_)
  ·
    replace h := (if_pos c1).symm.trans hX
    refine lv_iconst (v := 0) hx hb d15_10_19 (by decide) ?_
    have e9 := Option.some.inj h
    subst e2
    have hl := lv_sub hl (l' := [(0, .ref (q 0)), (1, .int a0)]) [0, 1] rfl
    exact hj _ _ _ hl hP hD hS
  ·
    replace h := (if_neg c1).symm.trans hX
    refine lv_aload_n hx hb d15_10_7 rfl (lv_at hl 0 rfl) ?_
    obtain ⟨x4, hc, h⟩ := ob h
    refine sV_i (As := []) (rest := []) ⟨hx, hb, hml, hown, hts⟩ (cm_here l G Zd q st x4 hc _) (kw_V (n := 0) hts k1305 k1302 k15 k1304 ks37 (by decide +kernel) ⟨Nat.le_of_ble_eq_true rfl, Nat.le_of_ble_eq_true rfl⟩) hP hD hK hS hA hZ (va_recv (ci := 13) (q0 := 0) hK hP rfl rfl) rfl hl.1 rfl (Nat.le_of_ble_eq_true rfl) d15_10_8 ⟨Nat.le_of_ble_eq_true rfl, Nat.le_of_ble_eq_true rfl⟩ (fun rr u9 H locs hp hP hD hS => ?_)
    clear u9
    subst rr
    clear hc
    refine W.eq (g2 := F0 m 11 ls [.int x4]) rfl ?_
    have hP : va_P G.1 vwCl (wMs q G.2 st) H := hP
    have hD : va_D A (wMs q G.2 st) := hD
    refine lv_iload_n hx hb d15_10_11 rfl (lv_at hl 1 rfl) ?_
    refine lv_icmp_ne (tgt := 19) hx hb d15_10_12 rfl (fun c7 => ?_) (fun c7 => ?_)
    ·
      replace h := (if_neg c7).symm.trans h
      refine lv_iconst (v := 0) hx hb d15_10_19 (by decide) ?_
      have e9 := Option.some.inj h
      subst e2
      have hl := lv_sub hl (l' := [(0, .ref (q 0)), (1, .int a0)]) [0, 1] rfl
      exact hj _ _ _ hl hP hD hS
    ·
      replace h := (if_pos c7).symm.trans h
      refine lv_iconst (v := 1) hx hb d15_10_15 (by decide) ?_
      refine lv_goto (tgt := 20) hx hb d15_10_16 rfl ?_
      have e9 := Option.some.inj h
      subst e2
      have hl := lv_sub hl (l' := [(0, .ref (q 0)), (1, .int a0)]) [0, 1] rfl
      exact hj _ _ _ hl hP hD hS
def m_blanks_l1  : Nat → (MS) → Option (MS)
  | 0, _ => none
  | n9 + 1, e9 => (m_sees (32 : Int32) e9).bind fun x5 => if x5 = (0 : Int32) then ((m_sees (9 : Int32) e9).bind fun x10 => if x10 = (0 : Int32) then ((m_sees (10 : Int32) e9).bind fun x15 => if x15 = (0 : Int32) then ((m_sees (13 : Int32) e9).bind fun x20 => if x20 = (0 : Int32) then (some e9) else ((some ((e9.1 1) + 1)).bind fun y24 => m_blanks_l1  n9 (upd e9.1 1 y24, e9.2.1, e9.2.2.1, e9.2.2.2))) else ((some ((e9.1 1) + 1)).bind fun y19 => m_blanks_l1  n9 (upd e9.1 1 y19, e9.2.1, e9.2.2.1, e9.2.2.2))) else ((some ((e9.1 1) + 1)).bind fun y14 => m_blanks_l1  n9 (upd e9.1 1 y14, e9.2.1, e9.2.2.1, e9.2.2.2))) else ((some ((e9.1 1) + 1)).bind fun y9 => m_blanks_l1  n9 (upd e9.1 1 y9, e9.2.1, e9.2.2.1, e9.2.2.2))
theorem m_blanks_l1_s  (n9 : Nat) (e9 : MS) : m_blanks_l1  (n9 + 1) e9 = ((m_sees (32 : Int32) e9).bind fun x5 => if x5 = (0 : Int32) then ((m_sees (9 : Int32) e9).bind fun x10 => if x10 = (0 : Int32) then ((m_sees (10 : Int32) e9).bind fun x15 => if x15 = (0 : Int32) then ((m_sees (13 : Int32) e9).bind fun x20 => if x20 = (0 : Int32) then (some e9) else ((some ((e9.1 1) + 1)).bind fun y24 => m_blanks_l1  n9 (upd e9.1 1 y24, e9.2.1, e9.2.2.1, e9.2.2.2))) else ((some ((e9.1 1) + 1)).bind fun y19 => m_blanks_l1  n9 (upd e9.1 1 y19, e9.2.1, e9.2.2.1, e9.2.2.2))) else ((some ((e9.1 1) + 1)).bind fun y14 => m_blanks_l1  n9 (upd e9.1 1 y14, e9.2.1, e9.2.2.1, e9.2.2.2))) else ((some ((e9.1 1) + 1)).bind fun y9 => m_blanks_l1  n9 (upd e9.1 1 y9, e9.2.1, e9.2.2.1, e9.2.2.2))) := rfl
def m_blanks (st : MS) : Option (MS) := (m_blanks_l1  4096 st).bind fun e1 => some e1
set_option maxHeartbeats 4000000 in
set_option maxRecDepth 100000 in
theorem cm_blanks (l : Launch) (G : Gk) (Zd : Nat → Nat) (q : Nat → Nat) (st : MS) (st0 : MS) (hm : m_blanks st = some st0) (sz : Nat) : Met l y15_13 (Cond.code y15_13 prog_15_method_13_code 1 none :: TB) (rmD 2 0 0) (va_Pc [.ref (q 0)] (pcW G Zd (wMs q G.2 st) sz)) (qV G (fun (_ : Unit) => True) (fun _ => (wMs q G.2 st0)) (va_A (wMs q G.2 st) sz)) 0 0 (va_A (wMs q G.2 st) sz) := by
  refine go (y := y15_13) (cc := prog_15_method_13_code) (maxL := 1) (ret := none) (av := [.ref (q 0)]) (Qc := qV G (fun (_ : Unit) => True) (fun _ => (wMs q G.2 st0))) "PagedValuesModel" rfl (by decide) (Nat.le_of_ble_eq_true rfl) ?_
  intro p e s m below meth c ls A hx hb hr hlk hml hown hts hin hl hP hD hK hS hA hZ
  have hl : lv_has ls 1 [(0, .ref (q 0))] := hl
  have h := hm
  clear hm
  obtain ⟨e1, hX, hrest⟩ := ob h
  clear h
  have hj : ∀ (v4 : MS), e1 = (v4) → ∀ (H : Heap) (locs : List Loc) (ls : Array Slot), lv_has ls 1 [(0, .ref (q 0))] → va_P G.1 vwCl (wMs q G.2 v4) H → va_D A (wMs q G.2 v4) → va_S A s.heap H locs → W p l e (rmD 2 0 0) s m ([.ref (q 0)] : List Value).toArray below meth c H locs 0 0 (MQ below (qV G (fun (_ : Unit) => True) (fun _ => (wMs q G.2 st0)) A) ([.ref (q 0)] : List Value).toArray s 0 0 A) (F0 m 49 ls []) := by
    intro v4 he H locs ls hl hP hD hS
    subst e1
    have h := hrest
    cases h
    exact fin_v hx hb hr hlk hS () trivial hP hD (Nat.le_of_ble_eq_true rfl) (Nat.le_of_ble_eq_true rfl) d15_13_49
  have hloop : ∀ (n9 : Nat) (v2 : MS), m_blanks_l1  n9 (v2) = some e1 → ∀ (H : Heap) (locs : List Loc) (ls : Array Slot), lv_has ls 1 [(0, .ref (q 0))] → va_P G.1 vwCl (wMs q G.2 v2) H → va_D A (wMs q G.2 v2) → va_S A s.heap H locs → W p l e (rmD 2 0 0) s m ([.ref (q 0)] : List Value).toArray below meth c H locs 0 0 (MQ below (qV G (fun (_ : Unit) => True) (fun _ => (wMs q G.2 st0)) A) ([.ref (q 0)] : List Value).toArray s 0 0 A) (F0 m 0 ls []) := by
    intro n9
    induction n9 with
    | zero =>
      intro v2 h
      cases h
    | succ n9 ih =>
      intro v2 h H locs ls hl hP hD hS
      replace h := (m_blanks_l1_s  n9 (v2)).symm.trans h
      refine lv_aload_n hx hb d15_13_0 rfl (lv_at hl 0 rfl) ?_
      refine lv_bipush (v := 32) hx hb d15_13_1 (by decide) ?_
      obtain ⟨x5, hc, h⟩ := ob h
      refine sV_i (As := [.int 32]) (rest := []) ⟨hx, hb, hml, hown, hts⟩ (cm_sees l G Zd q (32 : Int32) v2 x5 hc _) (kw_V (n := 1) hts k1301 k1298 k15 k1300 ks36 (by decide +kernel) ⟨Nat.le_of_ble_eq_true rfl, Nat.le_of_ble_eq_true rfl⟩) hP hD hK hS hA hZ (va_recv (ci := 13) (q0 := 0) hK hP rfl rfl) rfl hl.1 rfl (Nat.le_of_ble_eq_true rfl) d15_13_3 ⟨Nat.le_of_ble_eq_true rfl, Nat.le_of_ble_eq_true rfl⟩ (fun rr u9 H locs hp hP hD hS => ?_)
      clear u9
      subst rr
      clear hc
      refine W.eq (g2 := F0 m 6 ls [.int x5]) rfl ?_
      have hP : va_P G.1 vwCl (wMs q G.2 v2) H := hP
      have hD : va_D A (wMs q G.2 v2) := hD
      refine lv_if_ne (tgt := 36) hx hb d15_13_6 rfl (fun c8 => ?_) (fun c8 => ?_)
      ·
        replace h := (if_neg c8).symm.trans h
        refine lv_aload_n hx hb d15_13_36 rfl (lv_at hl 0 rfl) ?_
        refine lv_dup hx hb d15_13_37 rfl ?_
        refine va_get (D := G.1) (ci := 13) (v := .int (v2.1 1)) (C := r_13) (T := f_13) (N := 42) (ref := "PagedValuesModel") hx hb hts (fun w h => List.mem_cons_of_mem _ (ly_13 w h)) hown hK hP 0 rfl rfl 2 (by decide) (hts _ (List.mem_cons_of_mem _ k1153)) (fun _ h9 => h9) rfl d15_13_38 ?_
        refine lv_iconst (v := 1) hx hb d15_13_41 (by decide) ?_
        refine lv_iadd hx hb d15_13_42 ?_
        obtain ⟨y9, hr, h⟩ := ob h
        refine lv_topi (fun y9 ey => ?_)
        have e9 := ey.trans (Option.some.inj hr)
        clear ey
        subst y9
        clear hr
        refine va_put (D := G.1) (ci := 13) (v := .int y9) (ty := .int) (C := r_13) (T := f_13) (N := 42) (ref := "PagedValuesModel") hx hb hts (fun w h => List.mem_cons_of_mem _ (ly_13 w h)) ft_13 ft_13_ok nm_13 hown hK hP hD hS 0 rfl rfl 2 (by decide) (hts _ (List.mem_cons_of_mem _ k1153)) (fun _ h9 => h9) rfl (by decide +kernel) rfl rfl (Nat.le_of_ble_eq_true rfl) d15_13_43 (fun H locs hP hD hS => ?_)
        have hP : va_P G.1 vwCl (wMs q G.2 (upd v2.1 1 y9, v2.2.1, v2.2.2.1, v2.2.2.2)) H := hP
        have hD : va_D A (wMs q G.2 (upd v2.1 1 y9, v2.2.1, v2.2.2.1, v2.2.2.2)) := hD
        refine lv_goto (tgt := 0) hx hb d15_13_46 rfl ?_
        have hl := lv_sub hl (l' := [(0, .ref (q 0))]) [0] rfl
        exact ih _ h _ _ _ hl hP hD hS
      ·
        replace h := (if_pos c8).symm.trans h
        refine lv_aload_n hx hb d15_13_9 rfl (lv_at hl 0 rfl) ?_
        refine lv_bipush (v := 9) hx hb d15_13_10 (by decide) ?_
        obtain ⟨x10, hc, h⟩ := ob h
        refine sV_i (As := [.int 9]) (rest := []) ⟨hx, hb, hml, hown, hts⟩ (cm_sees l G Zd q (9 : Int32) v2 x10 hc _) (kw_V (n := 1) hts k1301 k1298 k15 k1300 ks36 (by decide +kernel) ⟨Nat.le_of_ble_eq_true rfl, Nat.le_of_ble_eq_true rfl⟩) hP hD hK hS hA hZ (va_recv (ci := 13) (q0 := 0) hK hP rfl rfl) rfl hl.1 rfl (Nat.le_of_ble_eq_true rfl) d15_13_12 ⟨Nat.le_of_ble_eq_true rfl, Nat.le_of_ble_eq_true rfl⟩ (fun rr u9 H locs hp hP hD hS => ?_)
        clear u9
        subst rr
        clear hc
        refine W.eq (g2 := F0 m 15 ls [.int x10]) rfl ?_
        have hP : va_P G.1 vwCl (wMs q G.2 v2) H := hP
        have hD : va_D A (wMs q G.2 v2) := hD
        refine lv_if_ne (tgt := 36) hx hb d15_13_15 rfl (fun c13 => ?_) (fun c13 => ?_)
        ·
          replace h := (if_neg c13).symm.trans h
          refine lv_aload_n hx hb d15_13_36 rfl (lv_at hl 0 rfl) ?_
          refine lv_dup hx hb d15_13_37 rfl ?_
          refine va_get (D := G.1) (ci := 13) (v := .int (v2.1 1)) (C := r_13) (T := f_13) (N := 42) (ref := "PagedValuesModel") hx hb hts (fun w h => List.mem_cons_of_mem _ (ly_13 w h)) hown hK hP 0 rfl rfl 2 (by decide) (hts _ (List.mem_cons_of_mem _ k1153)) (fun _ h9 => h9) rfl d15_13_38 ?_
          refine lv_iconst (v := 1) hx hb d15_13_41 (by decide) ?_
          refine lv_iadd hx hb d15_13_42 ?_
          obtain ⟨y14, hr, h⟩ := ob h
          refine lv_topi (fun y9 ey => ?_)
          have e9 := ey.trans (Option.some.inj hr)
          clear ey
          subst y9
          clear hr
          refine va_put (D := G.1) (ci := 13) (v := .int y14) (ty := .int) (C := r_13) (T := f_13) (N := 42) (ref := "PagedValuesModel") hx hb hts (fun w h => List.mem_cons_of_mem _ (ly_13 w h)) ft_13 ft_13_ok nm_13 hown hK hP hD hS 0 rfl rfl 2 (by decide) (hts _ (List.mem_cons_of_mem _ k1153)) (fun _ h9 => h9) rfl (by decide +kernel) rfl rfl (Nat.le_of_ble_eq_true rfl) d15_13_43 (fun H locs hP hD hS => ?_)
          have hP : va_P G.1 vwCl (wMs q G.2 (upd v2.1 1 y14, v2.2.1, v2.2.2.1, v2.2.2.2)) H := hP
          have hD : va_D A (wMs q G.2 (upd v2.1 1 y14, v2.2.1, v2.2.2.1, v2.2.2.2)) := hD
          refine lv_goto (tgt := 0) hx hb d15_13_46 rfl ?_
          have hl := lv_sub hl (l' := [(0, .ref (q 0))]) [0] rfl
          exact ih _ h _ _ _ hl hP hD hS
        ·
          replace h := (if_pos c13).symm.trans h
          refine lv_aload_n hx hb d15_13_18 rfl (lv_at hl 0 rfl) ?_
          refine lv_bipush (v := 10) hx hb d15_13_19 (by decide) ?_
          obtain ⟨x15, hc, h⟩ := ob h
          refine sV_i (As := [.int 10]) (rest := []) ⟨hx, hb, hml, hown, hts⟩ (cm_sees l G Zd q (10 : Int32) v2 x15 hc _) (kw_V (n := 1) hts k1301 k1298 k15 k1300 ks36 (by decide +kernel) ⟨Nat.le_of_ble_eq_true rfl, Nat.le_of_ble_eq_true rfl⟩) hP hD hK hS hA hZ (va_recv (ci := 13) (q0 := 0) hK hP rfl rfl) rfl hl.1 rfl (Nat.le_of_ble_eq_true rfl) d15_13_21 ⟨Nat.le_of_ble_eq_true rfl, Nat.le_of_ble_eq_true rfl⟩ (fun rr u9 H locs hp hP hD hS => ?_)
          clear u9
          subst rr
          clear hc
          refine W.eq (g2 := F0 m 24 ls [.int x15]) rfl ?_
          have hP : va_P G.1 vwCl (wMs q G.2 v2) H := hP
          have hD : va_D A (wMs q G.2 v2) := hD
          refine lv_if_ne (tgt := 36) hx hb d15_13_24 rfl (fun c18 => ?_) (fun c18 => ?_)
          ·
            replace h := (if_neg c18).symm.trans h
            refine lv_aload_n hx hb d15_13_36 rfl (lv_at hl 0 rfl) ?_
            refine lv_dup hx hb d15_13_37 rfl ?_
            refine va_get (D := G.1) (ci := 13) (v := .int (v2.1 1)) (C := r_13) (T := f_13) (N := 42) (ref := "PagedValuesModel") hx hb hts (fun w h => List.mem_cons_of_mem _ (ly_13 w h)) hown hK hP 0 rfl rfl 2 (by decide) (hts _ (List.mem_cons_of_mem _ k1153)) (fun _ h9 => h9) rfl d15_13_38 ?_
            refine lv_iconst (v := 1) hx hb d15_13_41 (by decide) ?_
            refine lv_iadd hx hb d15_13_42 ?_
            obtain ⟨y19, hr, h⟩ := ob h
            refine lv_topi (fun y9 ey => ?_)
            have e9 := ey.trans (Option.some.inj hr)
            clear ey
            subst y9
            clear hr
            refine va_put (D := G.1) (ci := 13) (v := .int y19) (ty := .int) (C := r_13) (T := f_13) (N := 42) (ref := "PagedValuesModel") hx hb hts (fun w h => List.mem_cons_of_mem _ (ly_13 w h)) ft_13 ft_13_ok nm_13 hown hK hP hD hS 0 rfl rfl 2 (by decide) (hts _ (List.mem_cons_of_mem _ k1153)) (fun _ h9 => h9) rfl (by decide +kernel) rfl rfl (Nat.le_of_ble_eq_true rfl) d15_13_43 (fun H locs hP hD hS => ?_)
            have hP : va_P G.1 vwCl (wMs q G.2 (upd v2.1 1 y19, v2.2.1, v2.2.2.1, v2.2.2.2)) H := hP
            have hD : va_D A (wMs q G.2 (upd v2.1 1 y19, v2.2.1, v2.2.2.1, v2.2.2.2)) := hD
            refine lv_goto (tgt := 0) hx hb d15_13_46 rfl ?_
            have hl := lv_sub hl (l' := [(0, .ref (q 0))]) [0] rfl
            exact ih _ h _ _ _ hl hP hD hS
          ·
            replace h := (if_pos c18).symm.trans h
            refine lv_aload_n hx hb d15_13_27 rfl (lv_at hl 0 rfl) ?_
            refine lv_bipush (v := 13) hx hb d15_13_28 (by decide) ?_
            obtain ⟨x20, hc, h⟩ := ob h
            refine sV_i (As := [.int 13]) (rest := []) ⟨hx, hb, hml, hown, hts⟩ (cm_sees l G Zd q (13 : Int32) v2 x20 hc _) (kw_V (n := 1) hts k1301 k1298 k15 k1300 ks36 (by decide +kernel) ⟨Nat.le_of_ble_eq_true rfl, Nat.le_of_ble_eq_true rfl⟩) hP hD hK hS hA hZ (va_recv (ci := 13) (q0 := 0) hK hP rfl rfl) rfl hl.1 rfl (Nat.le_of_ble_eq_true rfl) d15_13_30 ⟨Nat.le_of_ble_eq_true rfl, Nat.le_of_ble_eq_true rfl⟩ (fun rr u9 H locs hp hP hD hS => ?_)
            clear u9
            subst rr
            clear hc
            refine W.eq (g2 := F0 m 33 ls [.int x20]) rfl ?_
            have hP : va_P G.1 vwCl (wMs q G.2 v2) H := hP
            have hD : va_D A (wMs q G.2 v2) := hD
            refine lv_if_eq (tgt := 49) hx hb d15_13_33 rfl (fun c23 => ?_) (fun c23 => ?_)
            ·
              replace h := (if_pos c23).symm.trans h
              have e9 := Option.some.inj h
              subst e1
              have hl := lv_sub hl (l' := [(0, .ref (q 0))]) [0] rfl
              exact hj _ rfl _ _ _ hl hP hD hS
            ·
              replace h := (if_neg c23).symm.trans h
              refine lv_aload_n hx hb d15_13_36 rfl (lv_at hl 0 rfl) ?_
              refine lv_dup hx hb d15_13_37 rfl ?_
              refine va_get (D := G.1) (ci := 13) (v := .int (v2.1 1)) (C := r_13) (T := f_13) (N := 42) (ref := "PagedValuesModel") hx hb hts (fun w h => List.mem_cons_of_mem _ (ly_13 w h)) hown hK hP 0 rfl rfl 2 (by decide) (hts _ (List.mem_cons_of_mem _ k1153)) (fun _ h9 => h9) rfl d15_13_38 ?_
              refine lv_iconst (v := 1) hx hb d15_13_41 (by decide) ?_
              refine lv_iadd hx hb d15_13_42 ?_
              obtain ⟨y24, hr, h⟩ := ob h
              refine lv_topi (fun y9 ey => ?_)
              have e9 := ey.trans (Option.some.inj hr)
              clear ey
              subst y9
              clear hr
              refine va_put (D := G.1) (ci := 13) (v := .int y24) (ty := .int) (C := r_13) (T := f_13) (N := 42) (ref := "PagedValuesModel") hx hb hts (fun w h => List.mem_cons_of_mem _ (ly_13 w h)) ft_13 ft_13_ok nm_13 hown hK hP hD hS 0 rfl rfl 2 (by decide) (hts _ (List.mem_cons_of_mem _ k1153)) (fun _ h9 => h9) rfl (by decide +kernel) rfl rfl (Nat.le_of_ble_eq_true rfl) d15_13_43 (fun H locs hP hD hS => ?_)
              have hP : va_P G.1 vwCl (wMs q G.2 (upd v2.1 1 y24, v2.2.1, v2.2.2.1, v2.2.2.2)) H := hP
              have hD : va_D A (wMs q G.2 (upd v2.1 1 y24, v2.2.1, v2.2.2.1, v2.2.2.2)) := hD
              refine lv_goto (tgt := 0) hx hb d15_13_46 rfl ?_
              have hl := lv_sub hl (l' := [(0, .ref (q 0))]) [0] rfl
              exact ih _ h _ _ _ hl hP hD hS
  exact hloop _ _ hX _ _ _ hl hP hD hS
