theorem k0 : (Jvm.Cond.initialized "PagedValuesLaw") ∈ TB := tk_1 0 rfl rfl
theorem k27 : (Jvm.Cond.classLink "PagedValuesLaw" (7 : Nat) "PagedValues") ∈ TB := tk_1 27 rfl rfl
theorem k28 : (Jvm.Cond.instantiable "PagedValues" (7 : Nat)) ∈ TB := tk_1 28 rfl rfl
theorem dlaw_0 : decode code 0 = .ok (.new 7, 3) := by decide +kernel
theorem dlaw_3 : decode code 3 = .ok (.dup, 1) := by decide +kernel
theorem k31 : (Jvm.Cond.code ({ cls := "PagedValues", name := "<init>", desc := "()V" } : Jvm.MethodName) prog_1_method_1_code (1 : Nat) (Option.none : Option Jvm.ClassFile.FieldType)) ∈ TB := tk_1 31 rfl rfl
theorem k29 : (Jvm.Cond.methodLink "PagedValuesLaw" (9 : Nat) ({ cls := "PagedValues", name := "<init>", desc := "()V" } : Jvm.MethodName)) ∈ TB := tk_1 29 rfl rfl
theorem k30 : (Jvm.Cond.instanceMethod ({ cls := "PagedValues", name := "<init>", desc := "()V" } : Jvm.MethodName)) ∈ TB := tk_1 30 rfl rfl
theorem dlaw_4 : decode code 4 = .ok (.invokespecial 9, 3) := by decide +kernel
theorem dlaw_7 : decode code 7 = .ok (.astore_n 1, 1) := by decide +kernel
theorem k1145 : (Jvm.Cond.classLink "PagedValuesLaw" (10 : Nat) "PagedValuesModel") ∈ TB := tk_5 185 rfl rfl
theorem k1146 : (Jvm.Cond.instantiable "PagedValuesModel" (42 : Nat)) ∈ TB := tk_5 186 rfl rfl
theorem dlaw_8 : decode code 8 = .ok (.new 10, 3) := by decide +kernel
theorem dlaw_11 : decode code 11 = .ok (.dup, 1) := by decide +kernel
theorem k1149 : (Jvm.Cond.code ({ cls := "PagedValuesModel", name := "<init>", desc := "()V" } : Jvm.MethodName) prog_15_method_1_code (1 : Nat) (Option.none : Option Jvm.ClassFile.FieldType)) ∈ TB := tk_5 189 rfl rfl
theorem k1147 : (Jvm.Cond.methodLink "PagedValuesLaw" (12 : Nat) ({ cls := "PagedValuesModel", name := "<init>", desc := "()V" } : Jvm.MethodName)) ∈ TB := tk_5 187 rfl rfl
theorem k1148 : (Jvm.Cond.instanceMethod ({ cls := "PagedValuesModel", name := "<init>", desc := "()V" } : Jvm.MethodName)) ∈ TB := tk_5 188 rfl rfl
theorem dlaw_12 : decode code 12 = .ok (.invokespecial 12, 3) := by decide +kernel
theorem dlaw_15 : decode code 15 = .ok (.astore_n 2, 1) := by decide +kernel
theorem dlaw_16 : decode code 16 = .ok (.iconst 0, 1) := by decide +kernel
theorem dlaw_17 : decode code 17 = .ok (.istore_n 3, 1) := by decide +kernel
set_option maxHeartbeats 16000000 in
set_option maxRecDepth 100000 in
theorem whole_start {p : Program} {e : Env} {s : State} {m : MethodId} {below : List Frame} {meth : Method} {c : Code} (l : Launch) {b L : Nat} {xs : Nat → Int32} (hL : L ≤ 1536) (C0 : lw_At p s m meth c b L xs) : W p l e room_1 s m #[Value.ref b] below meth c s.heap [] 0 0 (lw_Z below #[Value.ref b] s) (entryFrame m ([Value.ref b] : List Value).toArray 4) := by
  obtain ⟨G, Zo, hK, hZo⟩ := law_init C0
  obtain ⟨A, hAe⟩ : ∃ A : Nat → Prop, A = fun q => s.heap.size ≤ q := ⟨_, rfl⟩
  rw [← hAe] at hZo
  have hA : ∀ q, s.heap.size ≤ q → A q := fun q h => by rw [hAe]; exact h
  have hAf : ∀ q, A q → s.heap.size ≤ q := fun q h => by rw [hAe] at h; exact h
  clear hAe
  obtain ⟨ad, av, kd, t1, t2, t3, f4, f5, hy, hSt, T1, T2, T3, hkd⟩ := law_c C0 (s.heap.size + 600000) (tot s.heap + 7302250) (fun a h h2 => absurd (hAf a h2) (Nat.not_le.mpr h)) hZo
  obtain ⟨K, hR, hkc, hkt, hkz, hkA⟩ := law_k (f4 := f4) (f5 := f5) (n6 := s.heap.size + 600000) (n7 := tot s.heap + 7302250) hK hSt T1 T2 T3 hkd
  have h6 : zMk ad t1 t2 t3 f4 f5 (s.heap.size + 600000) (tot s.heap + 7302250) kd 6 = s.heap.size + 600000 := rfl
  have h7 : zMk ad t1 t2 t3 f4 f5 (s.heap.size + 600000) (tot s.heap + 7302250) kd 7 = tot s.heap + 7302250 := rfl
  generalize zMk ad t1 t2 t3 f4 f5 (s.heap.size + 600000) (tot s.heap + 7302250) kd = Zd at hy hkc hkt h6 h7
  clear hSt T1 T2 T3 hkd hZo
  have hE : cxH G Zd K A room_1 s := ⟨hK, hA, hy, hR, by rw [h6]; show 600000 = _; omega, by rw [h7]; show 7302250 = _; omega⟩
  have hZ := hy.1
  obtain ⟨hx, hb, hr, hml, hown, hts0, hX, hbl, hlk, -⟩ := C0
  have hown : s.vm.findClass "PagedValuesLaw" = some m.cls := hown
  have hts : ∀ w ∈ (Cond.initialized "PagedValuesLaw" :: TB), w.before #[Value.ref b] s = true := fun w h => by
    rcases List.mem_cons.mp h with h | h
    · rw [h]; exact hts0 _ (List.mem_filter.mp k0).1
    · exact hts0 w (List.mem_filter.mp h).1
  clear hts0
  have hbA : ¬ A b := fun h => absurd (hAf b h) (Nat.not_le.mpr hbl)
  have C : LG p s m c b L xs G Zd K A := ⟨hx, hb, hml, hown, hts, hX, hbl, hbA, hE, hkc, hkt, hL⟩
  have hS : va_S A s.heap s.heap [] := va_S.rf
  have hP : va_P G.1 vwCl [] s.heap := fun k q h => by simp at h
  have hD : va_D A [] := ⟨fun i j x y h => by simp at h, fun k q h => by simp at h⟩
  rw [lg_entry_eq]
  have hl := lv_entry [Value.ref b] (n := 4) (Nat.le_of_ble_eq_true rfl)
  generalize (lg_sl [Value.ref b] ++ List.replicate (4 - (lg_sl [Value.ref b]).length) Slot.unset).toArray = ls at hl ⊢
  have hl : lv_has ls 4 [(0, .ref b)] := hl
  refine va_new (D := G.1) (ci := 0) (fs := [.null, .null, .null, .null, .null, .null, .null]) (C := r_0) (T := f_0) (N := 7) hx hb hts (fun w h => List.mem_cons_of_mem _ (ly_0 w h)) ft_0 ft_0_ok hown (hts _ (List.mem_cons_of_mem _ k27)) (hts _ (List.mem_cons_of_mem _ k28)) (hts _ (List.mem_cons_of_mem _ k1)) hK hP hD hS hA rfl (fun j hj => by rcases (show j = 0 ∨ j = 1 ∨ j = 2 ∨ j = 3 ∨ j = 4 ∨ j = 5 ∨ j = 6 by omega) with rfl | rfl | rfl | rfl | rfl | rfl | rfl <;> rfl) (Nat.le_of_ble_eq_true rfl) (Nat.le_of_ble_eq_true rfl) dlaw_0 (fun q1 H hP hD hS => ?_)
  refine lv_dup hx hb dlaw_3 rfl ?_
  have hP : va_P G.1 vwCl ([(q1, .inr (0, [.null, .null, .null, .null, .null, .null, .null]))] ++ []) H := hP
  have hD : va_D A ([(q1, .inr (0, [.null, .null, .null, .null, .null, .null, .null]))] ++ []) := hD
  refine xI_v (As := []) (rest := [.ref q1]) (pl := []) ⟨hx, hb, hml, hown, hts⟩ (ko_pv l G Zd q1 _) (kw_I (n := 0) hts k31 k29 k1 k30 rfl (by decide +kernel) ⟨Nat.le_of_ble_eq_true rfl, Nat.le_of_ble_eq_true rfl⟩) hP hD hK hS hA hZ rfl hl.1 rfl (Nat.le_of_ble_eq_true rfl) dlaw_4 ⟨Nat.le_of_ble_eq_true rfl, Nat.le_of_ble_eq_true rfl⟩ (fun u1 H locs hp hP hD hS => ?_)
  have hP := pv_P (spl_P hP)
  have hD := pv_D (spl_D hD)
  refine W.eq (g2 := F0 m 7 ls [.ref q1]) rfl ?_
  obtain ⟨wc, hwc⟩ : ∃ wc : va_W, wc = (wC (pvq q1 u1) G.2 16 cI0 cA0 (fun _ => none) (pvQ u1) (pvl G Zd u1)) := ⟨_, rfl⟩
  rw [← hwc] at hP hD
  refine lv_astore_n (lv' := [(1, .ref q1), (0, .ref b)]) hx hb dlaw_7 rfl hl (by decide) rfl (fun ls hl => ?_)
  refine va_new (D := G.1) (ci := 13) (fs := [.null, .int 0, .int 0, .int 0, .null, .null, .null, .null, .null, .null, .int 0, .long 0, .long 0, .int 0, .null, .int 0, .null, .null, .int 0, .null, .null, .null, .null, .int 0, .null, .int 0, .null, .int 0, .int 0, .null, .int 0, .null, .null, .null, .null, .null, .null, .null, .null, .int 0, .int 0, .int 0]) (C := r_13) (T := f_13) (N := 42) hx hb hts (fun w h => List.mem_cons_of_mem _ (ly_13 w h)) ft_13 ft_13_ok hown (hts _ (List.mem_cons_of_mem _ k1145)) (hts _ (List.mem_cons_of_mem _ k1146)) (hts _ (List.mem_cons_of_mem _ k15)) hK hP hD hS hA rfl (fun j hj => by rcases (show j = 0 ∨ j = 1 ∨ j = 2 ∨ j = 3 ∨ j = 4 ∨ j = 5 ∨ j = 6 ∨ j = 7 ∨ j = 8 ∨ j = 9 ∨ j = 10 ∨ j = 11 ∨ j = 12 ∨ j = 13 ∨ j = 14 ∨ j = 15 ∨ j = 16 ∨ j = 17 ∨ j = 18 ∨ j = 19 ∨ j = 20 ∨ j = 21 ∨ j = 22 ∨ j = 23 ∨ j = 24 ∨ j = 25 ∨ j = 26 ∨ j = 27 ∨ j = 28 ∨ j = 29 ∨ j = 30 ∨ j = 31 ∨ j = 32 ∨ j = 33 ∨ j = 34 ∨ j = 35 ∨ j = 36 ∨ j = 37 ∨ j = 38 ∨ j = 39 ∨ j = 40 ∨ j = 41 by omega) with rfl | rfl | rfl | rfl | rfl | rfl | rfl | rfl | rfl | rfl | rfl | rfl | rfl | rfl | rfl | rfl | rfl | rfl | rfl | rfl | rfl | rfl | rfl | rfl | rfl | rfl | rfl | rfl | rfl | rfl | rfl | rfl | rfl | rfl | rfl | rfl | rfl | rfl | rfl | rfl | rfl | rfl <;> rfl) (Nat.le_of_ble_eq_true rfl) (Nat.le_of_ble_eq_true rfl) dlaw_8 (fun q2 H hP hD hS => ?_)
  have hP : va_P G.1 vwCl ([(q2, .inr (13, [.null, .int 0, .int 0, .int 0, .null, .null, .null, .null, .null, .null, .int 0, .long 0, .long 0, .int 0, .null, .int 0, .null, .null, .int 0, .null, .null, .null, .null, .int 0, .null, .int 0, .null, .int 0, .int 0, .null, .int 0, .null, .null, .null, .null, .null, .null, .null, .null, .int 0, .int 0, .int 0]))] ++ wc) H := sw_P hP
  have hD : va_D A ([(q2, .inr (13, [.null, .int 0, .int 0, .int 0, .null, .null, .null, .null, .null, .null, .int 0, .long 0, .long 0, .int 0, .null, .int 0, .null, .null, .int 0, .null, .null, .null, .null, .int 0, .null, .int 0, .null, .int 0, .int 0, .null, .int 0, .null, .null, .null, .null, .null, .null, .null, .null, .int 0, .int 0, .int 0]))] ++ wc) := sw_D hD
  refine lv_dup hx hb dlaw_11 rfl ?_
  refine xI_v (As := []) (rest := [.ref q2]) (pl := wc) ⟨hx, hb, hml, hown, hts⟩ (ko_model l G Zd q2 _) (kw_I (n := 0) hts k1149 k1147 k15 k1148 rfl (by decide +kernel) ⟨Nat.le_of_ble_eq_true rfl, Nat.le_of_ble_eq_true rfl⟩) hP hD hK hS hA hZ rfl hl.1 rfl (Nat.le_of_ble_eq_true rfl) dlaw_12 ⟨Nat.le_of_ble_eq_true rfl, Nat.le_of_ble_eq_true rfl⟩ (fun u2 H locs hp hP hD hS => ?_)
  have hP : va_P G.1 vwCl (wc ++ (wM (mdq q2 u2) G.2 mI0 mJ0 mA0 mB0)) H := sw_P hP
  have hD : va_D A (wc ++ (wM (mdq q2 u2) G.2 mI0 mJ0 mA0 mB0)) := sw_D hD
  rw [hwc] at hP hD
  refine W.eq (g2 := F0 m 15 ls [.ref q2]) rfl ?_
  refine lv_astore_n (lv' := [(2, .ref q2), (1, .ref q1), (0, .ref b)]) hx hb dlaw_15 rfl hl (by decide) rfl (fun ls hl => ?_)
  refine lv_iconst (v := 0) hx hb dlaw_16 (by decide) ?_
  refine lv_istore_n (lv' := [(3, .int 0), (2, .ref q2), (1, .ref q1), (0, .ref b)]) hx hb dlaw_17 rfl hl (by decide) rfl (fun ls hl => ?_)
  refine W.sz (fun y1 y2 y3 y4 => ?_)
  obtain ⟨st, hw, hs, hRv⟩ := law_rv (K := K) (s := s) (Zd := Zd) (spl_P hP) (spl_D hD) hS.1 hkA hkz
  rw [← hw] at hP hD
  have z1 : st.1.1 = H.size := by rw [hs]
  have z2 : st.1.2 = tot H := by rw [hs]
  refine lp_loop C hAf h6 h7 hr hlk 512 0 rfl st (mI0, mJ0, mA0, mB0) H locs _ _ ls (qm := mdq q2 u2) (a1 := q1) hl ⟨⟨z1.symm, z2.symm, by omega, by omega⟩, hP, hD, hS, q0 q1 u1, 16, cI0, cA0, R0 Zd, pvQ u1, hRv, rfl, by decide, by omega, by omega⟩
