/-! Queries: the class's selectors. -/
section SEL
variable {Zd : Nat → Nat} {K : KE} {st : CS} {q : Nat → Nat} {cw : Nat} {I I' : Nat → Int32} {A : Nat → Nat → Int32} {R R' : Nat → Option Nat} {Q : Nat → Nat → Option Nat}
theorem Lx_congr (h : ∀ k, k < 18 → I' k = I k) (hR : R' 0 = R 0) : Lx q cw I' A R' Q = Lx q cw I A R Q := by
  unfold Lx
  rw [h 0 (by decide), h 1 (by decide), h 2 (by decide), h 3 (by decide), h 4 (by decide), h 5 (by decide), h 6 (by decide), h 7 (by decide), h 8 (by decide), h 9 (by decide), h 10 (by decide), h 11 (by decide), h 12 (by decide), h 13 (by decide), h 14 (by decide), h 15 (by decide), h 16 (by decide), h 17 (by decide), hR]
theorem Fx.sl (h : Fx st q cw I A R Q) {j : Nat} (hj : j < 8) : ob1 st (q (200 + j)) 7 [.int (I (100 + 4 * j)), .int (I (101 + 4 * j)), .int (I (102 + 4 * j)), va_rf (R (10 + j)), .int (I (103 + 4 * j))] := (h.2.2.1 j hj).2
/-- a selector gets another content -/
theorem Fx.putS (h : Fx st q cw I A R Q) {j : Nat} (hj : j < 8) (h18 : ∀ k, k < 18 → I' k = I k) (hR : R' 0 = R 0) (ho : ∀ i, i < 8 → i ≠ j → R' (10 + i) = R (10 + i) ∧ I' (100 + 4 * i) = I (100 + 4 * i) ∧ I' (101 + 4 * i) = I (101 + 4 * i) ∧ I' (102 + 4 * i) = I (102 + 4 * i) ∧ I' (103 + 4 * i) = I (103 + 4 * i)) : Fx (uC st (q (200 + j)) (.inr (.inr (7, [.int (I' (100 + 4 * j)), .int (I' (101 + 4 * j)), .int (I' (102 + 4 * j)), va_rf (R' (10 + j)), .int (I' (103 + 4 * j))])))) q cw I' A R' Q := by
  obtain ⟨hF, hp, hs, hq⟩ := h
  have hne : ∀ i, us i = true → i ≠ 200 + j → q i ≠ q (200 + j) := fun i hi hij e => hij (hq i (200 + j) hi (us_s hj) e)
  refine ⟨?_, fun i hi => ?_, fun i hi => ?_, hq⟩
  · rw [Lx_congr h18 hR]
    intro p hp1
    obtain ⟨k, hk⟩ := List.mem_iff_getElem?.mp hp1
    obtain ⟨hk26, hpk⟩ := Lx_at hk
    obtain ⟨g1, g2⟩ := hF p hp1
    refine ⟨g1, ?_⟩
    rw [uC_ne (by rw [hpk]; exact hne k (us_f hk26) (by omega))]
    exact g2
  · obtain ⟨a1, ⟨a2, a3⟩, ⟨a4, a5⟩, a6, a7⟩ := hp i hi
    obtain ⟨u1, u2, u3⟩ := us_p hi
    exact ⟨a1, ⟨a2, by rw [uC_ne (hne _ u1 (by omega))]; exact a3⟩, ⟨a4, by rw [uC_ne (hne _ u2 (by omega))]; exact a5⟩, a6, by rw [uC_ne (hne _ u3 (by omega))]; exact a7⟩
  · obtain ⟨a1, a2, a3⟩ := hs i hi
    by_cases e : i = j
    · subst e
      exact ⟨a1, a2, uC_self⟩
    · obtain ⟨b2, b3, b4, b5, b6⟩ := ho i hi e
      exact ⟨a1, a2, by rw [uC_ne (hne _ (us_s hi) (by omega)), b2, b3, b4, b5, b6]; exact a3⟩
theorem Cx.putS (h : Cx K st q cw I A R Q) {j : Nat} (hj : j < 8) {fs : List Value} (hF : Fx (uC st (q (200 + j)) (.inr (.inr (7, fs)))) q cw I' A R' Q) : Cx K (uC st (q (200 + j)) (.inr (.inr (7, fs)))) q cw I' A R' Q ∧ stp K st (uC st (q (200 + j)) (.inr (.inr (7, fs)))) := by
  obtain ⟨h1, h2, h3⟩ := h
  have hs := h1.sl hj
  exact ⟨⟨hF, h2, nb_Rz h3 hs.1 hs.2 rfl rfl⟩, nb_le h3 hs.1 hs.2 rfl, rfl⟩
theorem sel_int (h : Cx K st q cw I A R Q) {j o : Nat} (hj : j < 8) (ho : o = 0 ∨ o = 1 ∨ o = 2) (x : Int32) : ∃ st1, sF st (q (200 + j)) 7 o (.int x) = some st1 ∧ Cx K st1 q cw (upd I (100 + o + 4 * j) x) A R Q ∧ stp K st st1 := by
  have hs := h.1.sl hj
  have h18 : ∀ k, k < 18 → upd I (100 + o + 4 * j) x k = I k := fun k hk => upd_ne (by omega)
  have hF := h.1.putS (I' := upd I (100 + o + 4 * j) x) (R' := R) hj h18 rfl (fun i hi hij => ⟨rfl, upd_ne (by omega), upd_ne (by omega), upd_ne (by omega), upd_ne (by omega)⟩)
  obtain ⟨g1, g2⟩ := h.putS hj hF
  refine ⟨_, ?_, g1, g2⟩
  rcases ho with rfl | rfl | rfl
  · rw [sF_ob (k := 0) hs (Nat.le_of_ble_eq_true rfl), show 100 + 0 + 4 * j = 100 + 4 * j by omega, upd_self, upd_ne (show 101 + 4 * j ≠ 100 + 4 * j by omega), upd_ne (show 102 + 4 * j ≠ 100 + 4 * j by omega), upd_ne (show 103 + 4 * j ≠ 100 + 4 * j by omega)]
    rfl
  · rw [sF_ob (k := 1) hs (Nat.le_of_ble_eq_true rfl), show 100 + 1 + 4 * j = 101 + 4 * j by omega, upd_self, upd_ne (show 100 + 4 * j ≠ 101 + 4 * j by omega), upd_ne (show 102 + 4 * j ≠ 101 + 4 * j by omega), upd_ne (show 103 + 4 * j ≠ 101 + 4 * j by omega)]
    rfl
  · rw [sF_ob (k := 2) hs (Nat.le_of_ble_eq_true rfl), show 100 + 2 + 4 * j = 102 + 4 * j by omega, upd_self, upd_ne (show 100 + 4 * j ≠ 102 + 4 * j by omega), upd_ne (show 101 + 4 * j ≠ 102 + 4 * j by omega), upd_ne (show 103 + 4 * j ≠ 102 + 4 * j by omega)]
    rfl
theorem sel_num (h : Cx K st q cw I A R Q) {j : Nat} (hj : j < 8) (x : Int32) : ∃ st1, sF st (q (200 + j)) 7 4 (.int x) = some st1 ∧ Cx K st1 q cw (upd I (103 + 4 * j) x) A R Q ∧ stp K st st1 := by
  have hs := h.1.sl hj
  have h18 : ∀ k, k < 18 → upd I (103 + 4 * j) x k = I k := fun k hk => upd_ne (by omega)
  have hF := h.1.putS (I' := upd I (103 + 4 * j) x) (R' := R) hj h18 rfl (fun i hi hij => ⟨rfl, upd_ne (by omega), upd_ne (by omega), upd_ne (by omega), upd_ne (by omega)⟩)
  obtain ⟨g1, g2⟩ := h.putS hj hF
  refine ⟨_, ?_, g1, g2⟩
  rw [sF_ob (k := 4) hs (Nat.le_of_ble_eq_true rfl), upd_self, upd_ne (show 100 + 4 * j ≠ 103 + 4 * j by omega), upd_ne (show 101 + 4 * j ≠ 103 + 4 * j by omega), upd_ne (show 102 + 4 * j ≠ 103 + 4 * j by omega)]
  rfl
theorem sel_name (h : Cx K st q cw I A R Q) {j : Nat} (hj : j < 8) (x : Option Nat) : ∃ st1, sF st (q (200 + j)) 7 3 (va_rf x) = some st1 ∧ Cx K st1 q cw I A (va_up R (10 + j) x) Q ∧ stp K st st1 := by
  have hs := h.1.sl hj
  have hF := h.1.putS (I' := I) (R' := va_up R (10 + j) x) hj (fun k hk => rfl) (va_up_ne _ _ (by omega)) (fun i hi hij => ⟨va_up_ne _ _ (by omega), rfl, rfl, rfl, rfl⟩)
  obtain ⟨g1, g2⟩ := h.putS hj hF
  refine ⟨_, ?_, g1, g2⟩
  rw [sF_ob (k := 3) hs (Nat.le_of_ble_eq_true rfl), va_up_self]
  rfl
/-- the next selector -/
theorem next_sel (h : Cx K st q cw I A R Q) {n : Nat} (hn : (I 4).toInt = n) (h8 : n < 8) {op dp : Int32} (ho : op = 0 ∨ op = 1) (hd : dp = 0 ∨ dp = 1) : ∃ st1, c_Query_nextSelector Zd K (q 4) op dp st = some (some (q (200 + n)), st1) ∧ Cx K st1 q cw (upd (upd (upd I 4 (I 4 + 1)) (100 + 4 * n) op) (101 + 4 * n) dp) A R Q ∧ stp K st st1 := by
  have N := nums
  have hin : vp_in (I 4) 8 := vp_of (by omega) (by omega)
  have tn : (I 4).toNatClampNeg = n := by rw [tnn]; omega
  obtain ⟨st1, e1, e2, hF1⟩ := fw_4_1 h.1 (I 4 + 1)
  have hm := h.1.fl (i := 4) rfl
  have c1 : Cx K st1 q cw (upd I 4 (I 4 + 1)) A R Q := ⟨hF1, by rw [e2]; exact h.2.1, by rw [e2]; exact nb_Rz h.2.2 hm.1 hm.2 rfl rfl⟩
  have t1 : stp K st st1 := ⟨by rw [e2]; exact nb_le h.2.2 hm.1 hm.2 rfl, by rw [e2]; rfl⟩
  obtain ⟨st2, f1, f2, f3⟩ := sel_int c1 h8 (o := 0) (Or.inl rfl) op
  obtain ⟨st3, g1, g2, g3⟩ := sel_int f2 h8 (o := 1) (Or.inr (Or.inl rfl)) dp
  rw [show 100 + 0 + 4 * n = 100 + 4 * n by omega] at g2
  rw [show 100 + 1 + 4 * n = 101 + 4 * n by omega] at g2
  have hq := (h.1.2.2.1 n h8).1
  have bo : bz op = some () := by unfold bz; rw [if_pos ho]
  have bd : bz dp = some () := by unfold bz; rw [if_pos hd]
  refine ⟨st3, ?_, g2, t1.tr (f3.tr g3)⟩
  simp only [c_Query_nextSelector, fg_4_0 h.1, fg_4_1 h.1, Option.bind_some, fr_11 h.1 hin, tn, hq, e1, bo, f1, bd, g1]
end SEL
