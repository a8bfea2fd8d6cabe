/-! The class's fixed cells: read and written. -/
def Lx (q : Nat → Nat) (cw : Nat) (I : Nat → Int32) (A : Nat → Nat → Int32) (R : Nat → Option Nat) (Q : Nat → Nat → Option Nat) : List (Nat × CE) := [(q 0, .inr (.inr (0, [.ref (q 1), .ref (q 2), .ref (q 3), .ref (q 4), .ref (q 5), .ref (q 6), .ref (q 7)]))), (q 1, .inr (.inr (1, [.ref (q 8), .ref (q 9), .int (I 0), .int (I 1), .int (I 2)]))), (q 2, .inr (.inr (3, [.int (I 3)]))), (q 3, .inr (.inr (4, [.ref (q 10), va_rf (R 0)]))), (q 4, .inr (.inr (6, [.ref (q 11), .int (I 4)]))), (q 5, .inr (.inr (8, [.ref (q 12), .ref (q 13), .ref (q 14), .ref (q 15), .int (I 5), .int (I 6), .int (I 7), .int (I 8)]))), (q 6, .inr (.inr (9, [.ref (q 16), .ref (q 17), .ref (q 18), .ref (q 19), .ref (q 20), .ref (q 21), .int (I 9), .int (I 10), .int (I 11)]))), (q 7, .inr (.inr (2, [.ref (q 22), .int 0, .int (I 12), .int (I 13)]))), (q 8, .inl (0, 80, A 0)), (q 9, .inr (.inr (2, [.ref (q 23), .int 0, .int (I 14), .int (I 15)]))), (q 10, .inr (.inr (5, [.ref (q 24)]))), (q 11, .inr (.inl (7, 8, Q 0))), (q 12, .inr (.inl (5, 32, Q 1))), (q 13, .inl (1, 32, A 1)), (q 14, .inr (.inl (5, 32, Q 2))), (q 15, .inr (.inl (5, 32, Q 3))), (q 16, .inr (.inl (6, 12, Q 4))), (q 17, .inl (1, 2, A 2)), (q 18, .inl (1, 2, A 3)), (q 19, .inl (3, 3, A 4)), (q 20, .inl (1, 3, A 5)), (q 21, .inr (.inl (5, 4, Q 5))), (q 22, .inl (2, cw, A 6)), (q 23, .inl (2, 16, A 7)), (q 24, .inr (.inr (2, [.ref (q 25), .int 0, .int (I 16), .int (I 17)]))), (q 25, .inl (2, 16, A 8))]
def Fl (st : CS) (L : List (Nat × CE)) : Prop := ∀ p ∈ L, p.1 ∈ st.2.1 ∧ st.2.2 p.1 = p.2
def us (i : Nat) : Bool := Nat.blt i 26 || (Nat.ble 100 i && Nat.blt i 136) || (Nat.ble 200 i && Nat.blt i 208)
def pgx (st : CS) (q : Nat → Nat) (A : Nat → Nat → Int32) (Q : Nat → Nat → Option Nat) (j : Nat) : Prop := Q 4 j = some (q (100 + 3 * j)) ∧ ob1 st (q (100 + 3 * j)) 10 [.ref (q (101 + 3 * j)), .ref (q (102 + 3 * j))] ∧ ar1q st (q (101 + 3 * j)) 5 4 (Q (10 + j)) ∧ ar1i st (q (102 + 3 * j)) 1 2 (A (10 + j))
def slx (st : CS) (q : Nat → Nat) (I : Nat → Int32) (R : Nat → Option Nat) (Q : Nat → Nat → Option Nat) (j : Nat) : Prop := Q 0 j = some (q (200 + j)) ∧ ob1 st (q (200 + j)) 7 [.int (I (100 + 4 * j)), .int (I (101 + 4 * j)), .int (I (102 + 4 * j)), va_rf (R (10 + j)), .int (I (103 + 4 * j))]
/-- the fixed cells, the pages, the selectors: where they are and what they hold -/
def Fx (st : CS) (q : Nat → Nat) (cw : Nat) (I : Nat → Int32) (A : Nat → Nat → Int32) (R : Nat → Option Nat) (Q : Nat → Nat → Option Nat) : Prop := Fl st (Lx q cw I A R Q) ∧ (∀ j, j < 12 → pgx st q A Q j) ∧ (∀ j, j < 8 → slx st q I R Q j) ∧ ∀ i j, us i = true → us j = true → q i = q j → i = j
theorem us_p {j : Nat} (h : j < 12) : us (100 + 3 * j) = true ∧ us (101 + 3 * j) = true ∧ us (102 + 3 * j) = true := by
  have h1 : ∀ j, j < 12 → us (100 + 3 * j) = true ∧ us (101 + 3 * j) = true ∧ us (102 + 3 * j) = true := by decide
  exact h1 j h
theorem us_s {j : Nat} (h : j < 8) : us (200 + j) = true := by
  have h1 : ∀ j, j < 8 → us (200 + j) = true := by decide
  exact h1 j h
theorem us_f {j : Nat} (h : j < 26) : us j = true := by
  have h1 : ∀ j, j < 26 → us j = true := by decide
  exact h1 j h
theorem Lx_at {q : Nat → Nat} {cw : Nat} {I : Nat → Int32} {A : Nat → Nat → Int32} {R : Nat → Option Nat} {Q : Nat → Nat → Option Nat} {i : Nat} {p : Nat × CE} (h : (Lx q cw I A R Q)[i]? = some p) : i < 26 ∧ p.1 = q i := by
  have hl : i < 26 := by
    have h1 : i < (Lx q cw I A R Q).length := by
      rcases Nat.lt_or_ge i (Lx q cw I A R Q).length with h2 | h2
      · exact h2
      · rw [List.getElem?_eq_none h2] at h; cases h
    exact h1
  refine ⟨hl, ?_⟩
  have h2 : (Lx q cw I A R Q)[i]?.map (fun p => p.1) = some p.1 := by rw [h]; rfl
  have h3 : ∀ i, i < 26 → (Lx q cw I A R Q)[i]?.map (fun p => p.1) = some (q i) := by
    intro i hi
    match i, hi with
    | 0, _ => rfl
    | 1, _ => rfl
    | 2, _ => rfl
    | 3, _ => rfl
    | 4, _ => rfl
    | 5, _ => rfl
    | 6, _ => rfl
    | 7, _ => rfl
    | 8, _ => rfl
    | 9, _ => rfl
    | 10, _ => rfl
    | 11, _ => rfl
    | 12, _ => rfl
    | 13, _ => rfl
    | 14, _ => rfl
    | 15, _ => rfl
    | 16, _ => rfl
    | 17, _ => rfl
    | 18, _ => rfl
    | 19, _ => rfl
    | 20, _ => rfl
    | 21, _ => rfl
    | 22, _ => rfl
    | 23, _ => rfl
    | 24, _ => rfl
    | 25, _ => rfl
    | n + 26, hi => omega
  exact Option.some.inj (h2.symm.trans (h3 i hl))
section FX
variable {K : KE} {st : CS} {q : Nat → Nat} {cw : Nat} {I I' : Nat → Int32} {A A' : Nat → Nat → Int32} {R R' : Nat → Option Nat} {Q Q' : Nat → Nat → Option Nat}
theorem Fx.fl (h : Fx st q cw I A R Q) {i : Nat} {a : Nat} {e : CE} (hi : (Lx q cw I A R Q)[i]? = some (a, e)) : a ∈ st.2.1 ∧ st.2.2 a = e := h.1 _ (List.mem_of_getElem? hi)
theorem Fx.gI (h : Fx st q cw I A R Q) {i a ci k : Nat} {fs : List Value} {v : Int32} (hi : (Lx q cw I A R Q)[i]? = some (a, .inr (.inr (ci, fs)))) (hk : fs[k]? = some (.int v)) : gI K st a ci k = some v := gI_ob ⟨(h.fl hi).1, (h.fl hi).2⟩ hk
theorem Fx.gQ (h : Fx st q cw I A R Q) {i a ci k : Nat} {fs : List Value} {r : Option Nat} (hi : (Lx q cw I A R Q)[i]? = some (a, .inr (.inr (ci, fs)))) (hk : fs[k]? = some (va_rf r)) : gQ K st a ci k = some r := gQ_ob ⟨(h.fl hi).1, (h.fl hi).2⟩ hk
theorem Fx.isO (h : Fx st q cw I A R Q) {i a ci : Nat} {fs : List Value} (hi : (Lx q cw I A R Q)[i]? = some (a, .inr (.inr (ci, fs)))) : isO K st a ci = some () := isO_ob ⟨(h.fl hi).1, (h.fl hi).2⟩
/-- a fixed cell gets another content -/
theorem Fx.put (h : Fx st q cw I A R Q) {i : Nat} {e0 e : CE} (hi : (Lx q cw I A R Q)[i]? = some (q i, e0)) (hL : Lx q cw I' A' R' Q' = (Lx q cw I A R Q).set i (q i, e)) (h4 : ∀ j, j < 12 → Q' 4 j = Q 4 j ∧ Q' (10 + j) = Q (10 + j) ∧ A' (10 + j) = A (10 + j)) (h8 : ∀ j, j < 8 → Q' 0 j = Q 0 j ∧ R' (10 + j) = R (10 + j) ∧ I' (100 + 4 * j) = I (100 + 4 * j) ∧ I' (101 + 4 * j) = I (101 + 4 * j) ∧ I' (102 + 4 * j) = I (102 + 4 * j) ∧ I' (103 + 4 * j) = I (103 + 4 * j)) : Fx (uC st (q i) e) q cw I' A' R' Q' := by
  obtain ⟨hF, hp, hs, hq⟩ := h
  obtain ⟨hi26, -⟩ := Lx_at hi
  have hne : ∀ j, us j = true → j ≠ i → q j ≠ q i := fun j hj hji e => hji (hq j i hj (us_f hi26) e)
  refine ⟨?_, fun j hj => ?_, fun j hj => ?_, hq⟩
  · rw [hL]
    intro p hp1
    obtain ⟨k, hk⟩ := List.mem_iff_getElem?.mp hp1
    rw [List.getElem?_set] at hk
    by_cases hki : i = k
    · subst hki
      have hlen : i < (Lx q cw I A R Q).length := hi26
      rw [if_pos rfl, if_pos hlen] at hk
      cases hk
      exact ⟨(hF _ (List.mem_of_getElem? hi)).1, uC_self⟩
    · rw [if_neg hki] at hk
      obtain ⟨hk26, hpk⟩ := Lx_at hk
      obtain ⟨h1, h2⟩ := hF _ (List.mem_of_getElem? hk)
      refine ⟨h1, ?_⟩
      rw [uC_ne (by rw [hpk]; exact hne k (us_f hk26) (fun e => hki e.symm))]
      exact h2
  · obtain ⟨a1, ⟨a2, a3⟩, ⟨a4, a5⟩, a6, a7⟩ := hp j hj
    obtain ⟨b1, b2, b3⟩ := h4 j hj
    obtain ⟨u1, u2, u3⟩ := us_p hj
    exact ⟨by rw [b1]; exact a1, ⟨a2, by rw [uC_ne (hne _ u1 (by omega))]; exact a3⟩, ⟨a4, by rw [uC_ne (hne _ u2 (by omega)), b2]; exact a5⟩, a6, by rw [uC_ne (hne _ u3 (by omega)), b3]; exact a7⟩
  · obtain ⟨a1, a2, a3⟩ := hs j hj
    obtain ⟨b1, b2, b3, b4, b5, b6⟩ := h8 j hj
    exact ⟨by rw [b1]; exact a1, a2, by rw [uC_ne (hne _ (us_s hj) (by omega)), b2, b3, b4, b5, b6]; exact a3⟩
theorem wQ_ar {a t n ci : Nat} {g : Nat → Option Nat} {i : Int32} {r : Option Nat} (h : ar1q st a t n g) (hi : vp_in i n) (hr : ∀ b, r = some b → ∃ fs, ob1 st b ci fs) : wQ st a t ci i r = some (uC st a (.inr (.inl (t, n, va_up g i.toNatClampNeg r)))) := by
  unfold wQ
  rw [if_pos h.1, h.2]
  simp only [if_true]
  cases r with
  | none =>
    simp only [ix]
    rw [if_neg hi]
    rfl
  | some b =>
    obtain ⟨fs, hb1, hb2⟩ := hr b rfl
    simp only [hb1, if_true, hb2, ix]
    rw [if_neg hi]
    rfl
theorem upd_ne {f : Nat → Int32} {k j : Nat} {x : Int32} (h : j ≠ k) : upd f k x j = f j := by
  unfold upd
  rw [if_neg h]

theorem fg_0_0 (h : Fx st q cw I A R Q) : gQ K st (q 0) 0 0 = some (some (q 1)) := h.gQ (i := 0) rfl rfl
theorem fg_0_1 (h : Fx st q cw I A R Q) : gQ K st (q 0) 0 1 = some (some (q 2)) := h.gQ (i := 0) rfl rfl
theorem fg_0_2 (h : Fx st q cw I A R Q) : gQ K st (q 0) 0 2 = some (some (q 3)) := h.gQ (i := 0) rfl rfl
theorem fg_0_3 (h : Fx st q cw I A R Q) : gQ K st (q 0) 0 3 = some (some (q 4)) := h.gQ (i := 0) rfl rfl
theorem fg_0_4 (h : Fx st q cw I A R Q) : gQ K st (q 0) 0 4 = some (some (q 5)) := h.gQ (i := 0) rfl rfl
theorem fg_0_5 (h : Fx st q cw I A R Q) : gQ K st (q 0) 0 5 = some (some (q 6)) := h.gQ (i := 0) rfl rfl
theorem fg_0_6 (h : Fx st q cw I A R Q) : gQ K st (q 0) 0 6 = some (some (q 7)) := h.gQ (i := 0) rfl rfl
theorem fo_0 (h : Fx st q cw I A R Q) : isO K st (q 0) 0 = some () := h.isO (i := 0) rfl
theorem fg_1_0 (h : Fx st q cw I A R Q) : gQ K st (q 1) 1 0 = some (some (q 8)) := h.gQ (i := 1) rfl rfl
theorem fg_1_1 (h : Fx st q cw I A R Q) : gQ K st (q 1) 1 1 = some (some (q 9)) := h.gQ (i := 1) rfl rfl
theorem fg_1_2 (h : Fx st q cw I A R Q) : gI K st (q 1) 1 2 = some (I 0) := h.gI (i := 1) rfl rfl
theorem fw_1_2 (h : Fx st q cw I A R Q) (x : Int32) : ∃ st1, sF st (q 1) 1 2 (.int x) = some st1 ∧ st1 = uC st (q 1) (.inr (.inr (1, [.ref (q 8), .ref (q 9), .int x, .int (I 1), .int (I 2)]))) ∧ Fx st1 q cw (upd I 0 x) A R Q :=
  ⟨_, sF_ob ⟨(h.fl (i := 1) rfl).1, (h.fl (i := 1) rfl).2⟩ (Nat.le_of_ble_eq_true rfl), rfl, h.put (i := 1) rfl rfl (fun j hj => ⟨rfl, rfl, rfl⟩) (fun j hj => ⟨rfl, rfl, upd_ne (by omega), upd_ne (by omega), upd_ne (by omega), upd_ne (by omega)⟩)⟩
theorem fg_1_3 (h : Fx st q cw I A R Q) : gI K st (q 1) 1 3 = some (I 1) := h.gI (i := 1) rfl rfl
theorem fw_1_3 (h : Fx st q cw I A R Q) (x : Int32) : ∃ st1, sF st (q 1) 1 3 (.int x) = some st1 ∧ st1 = uC st (q 1) (.inr (.inr (1, [.ref (q 8), .ref (q 9), .int (I 0), .int x, .int (I 2)]))) ∧ Fx st1 q cw (upd I 1 x) A R Q :=
  ⟨_, sF_ob ⟨(h.fl (i := 1) rfl).1, (h.fl (i := 1) rfl).2⟩ (Nat.le_of_ble_eq_true rfl), rfl, h.put (i := 1) rfl rfl (fun j hj => ⟨rfl, rfl, rfl⟩) (fun j hj => ⟨rfl, rfl, upd_ne (by omega), upd_ne (by omega), upd_ne (by omega), upd_ne (by omega)⟩)⟩
theorem fg_1_4 (h : Fx st q cw I A R Q) : gI K st (q 1) 1 4 = some (I 2) := h.gI (i := 1) rfl rfl
theorem fw_1_4 (h : Fx st q cw I A R Q) (x : Int32) : ∃ st1, sF st (q 1) 1 4 (.int x) = some st1 ∧ st1 = uC st (q 1) (.inr (.inr (1, [.ref (q 8), .ref (q 9), .int (I 0), .int (I 1), .int x]))) ∧ Fx st1 q cw (upd I 2 x) A R Q :=
  ⟨_, sF_ob ⟨(h.fl (i := 1) rfl).1, (h.fl (i := 1) rfl).2⟩ (Nat.le_of_ble_eq_true rfl), rfl, h.put (i := 1) rfl rfl (fun j hj => ⟨rfl, rfl, rfl⟩) (fun j hj => ⟨rfl, rfl, upd_ne (by omega), upd_ne (by omega), upd_ne (by omega), upd_ne (by omega)⟩)⟩
theorem fo_1 (h : Fx st q cw I A R Q) : isO K st (q 1) 1 = some () := h.isO (i := 1) rfl
theorem fg_2_0 (h : Fx st q cw I A R Q) : gI K st (q 2) 3 0 = some (I 3) := h.gI (i := 2) rfl rfl
theorem fw_2_0 (h : Fx st q cw I A R Q) (x : Int32) : ∃ st1, sF st (q 2) 3 0 (.int x) = some st1 ∧ st1 = uC st (q 2) (.inr (.inr (3, [.int x]))) ∧ Fx st1 q cw (upd I 3 x) A R Q :=
  ⟨_, sF_ob ⟨(h.fl (i := 2) rfl).1, (h.fl (i := 2) rfl).2⟩ (Nat.le_of_ble_eq_true rfl), rfl, h.put (i := 2) rfl rfl (fun j hj => ⟨rfl, rfl, rfl⟩) (fun j hj => ⟨rfl, rfl, upd_ne (by omega), upd_ne (by omega), upd_ne (by omega), upd_ne (by omega)⟩)⟩
theorem fo_2 (h : Fx st q cw I A R Q) : isO K st (q 2) 3 = some () := h.isO (i := 2) rfl
theorem fg_3_0 (h : Fx st q cw I A R Q) : gQ K st (q 3) 4 0 = some (some (q 10)) := h.gQ (i := 3) rfl rfl
theorem fg_3_1 (h : Fx st q cw I A R Q) : gQ K st (q 3) 4 1 = some (R 0) := h.gQ (i := 3) rfl rfl
theorem fw_3_1 (h : Fx st q cw I A R Q) (x : Option Nat) : ∃ st1, sF st (q 3) 4 1 (va_rf x) = some st1 ∧ st1 = uC st (q 3) (.inr (.inr (4, [.ref (q 10), va_rf x]))) ∧ Fx st1 q cw I A (va_up R 0 x) Q :=
  ⟨_, sF_ob ⟨(h.fl (i := 3) rfl).1, (h.fl (i := 3) rfl).2⟩ (Nat.le_of_ble_eq_true rfl), rfl, h.put (i := 3) rfl rfl (fun j hj => ⟨rfl, rfl, rfl⟩) (fun j hj => ⟨rfl, va_up_ne _ _ (by omega), rfl, rfl, rfl, rfl⟩)⟩
theorem fo_3 (h : Fx st q cw I A R Q) : isO K st (q 3) 4 = some () := h.isO (i := 3) rfl
theorem fg_4_0 (h : Fx st q cw I A R Q) : gQ K st (q 4) 6 0 = some (some (q 11)) := h.gQ (i := 4) rfl rfl
theorem fg_4_1 (h : Fx st q cw I A R Q) : gI K st (q 4) 6 1 = some (I 4) := h.gI (i := 4) rfl rfl
theorem fw_4_1 (h : Fx st q cw I A R Q) (x : Int32) : ∃ st1, sF st (q 4) 6 1 (.int x) = some st1 ∧ st1 = uC st (q 4) (.inr (.inr (6, [.ref (q 11), .int x]))) ∧ Fx st1 q cw (upd I 4 x) A R Q :=
  ⟨_, sF_ob ⟨(h.fl (i := 4) rfl).1, (h.fl (i := 4) rfl).2⟩ (Nat.le_of_ble_eq_true rfl), rfl, h.put (i := 4) rfl rfl (fun j hj => ⟨rfl, rfl, rfl⟩) (fun j hj => ⟨rfl, rfl, upd_ne (by omega), upd_ne (by omega), upd_ne (by omega), upd_ne (by omega)⟩)⟩
theorem fo_4 (h : Fx st q cw I A R Q) : isO K st (q 4) 6 = some () := h.isO (i := 4) rfl
theorem fg_5_0 (h : Fx st q cw I A R Q) : gQ K st (q 5) 8 0 = some (some (q 12)) := h.gQ (i := 5) rfl rfl
theorem fg_5_1 (h : Fx st q cw I A R Q) : gQ K st (q 5) 8 1 = some (some (q 13)) := h.gQ (i := 5) rfl rfl
theorem fg_5_2 (h : Fx st q cw I A R Q) : gQ K st (q 5) 8 2 = some (some (q 14)) := h.gQ (i := 5) rfl rfl
theorem fg_5_3 (h : Fx st q cw I A R Q) : gQ K st (q 5) 8 3 = some (some (q 15)) := h.gQ (i := 5) rfl rfl
theorem fg_5_4 (h : Fx st q cw I A R Q) : gI K st (q 5) 8 4 = some (I 5) := h.gI (i := 5) rfl rfl
theorem fw_5_4 (h : Fx st q cw I A R Q) (x : Int32) : ∃ st1, sF st (q 5) 8 4 (.int x) = some st1 ∧ st1 = uC st (q 5) (.inr (.inr (8, [.ref (q 12), .ref (q 13), .ref (q 14), .ref (q 15), .int x, .int (I 6), .int (I 7), .int (I 8)]))) ∧ Fx st1 q cw (upd I 5 x) A R Q :=
  ⟨_, sF_ob ⟨(h.fl (i := 5) rfl).1, (h.fl (i := 5) rfl).2⟩ (Nat.le_of_ble_eq_true rfl), rfl, h.put (i := 5) rfl rfl (fun j hj => ⟨rfl, rfl, rfl⟩) (fun j hj => ⟨rfl, rfl, upd_ne (by omega), upd_ne (by omega), upd_ne (by omega), upd_ne (by omega)⟩)⟩
theorem fg_5_5 (h : Fx st q cw I A R Q) : gI K st (q 5) 8 5 = some (I 6) := h.gI (i := 5) rfl rfl
theorem fw_5_5 (h : Fx st q cw I A R Q) (x : Int32) : ∃ st1, sF st (q 5) 8 5 (.int x) = some st1 ∧ st1 = uC st (q 5) (.inr (.inr (8, [.ref (q 12), .ref (q 13), .ref (q 14), .ref (q 15), .int (I 5), .int x, .int (I 7), .int (I 8)]))) ∧ Fx st1 q cw (upd I 6 x) A R Q :=
  ⟨_, sF_ob ⟨(h.fl (i := 5) rfl).1, (h.fl (i := 5) rfl).2⟩ (Nat.le_of_ble_eq_true rfl), rfl, h.put (i := 5) rfl rfl (fun j hj => ⟨rfl, rfl, rfl⟩) (fun j hj => ⟨rfl, rfl, upd_ne (by omega), upd_ne (by omega), upd_ne (by omega), upd_ne (by omega)⟩)⟩
theorem fg_5_6 (h : Fx st q cw I A R Q) : gI K st (q 5) 8 6 = some (I 7) := h.gI (i := 5) rfl rfl
theorem fw_5_6 (h : Fx st q cw I A R Q) (x : Int32) : ∃ st1, sF st (q 5) 8 6 (.int x) = some st1 ∧ st1 = uC st (q 5) (.inr (.inr (8, [.ref (q 12), .ref (q 13), .ref (q 14), .ref (q 15), .int (I 5), .int (I 6), .int x, .int (I 8)]))) ∧ Fx st1 q cw (upd I 7 x) A R Q :=
  ⟨_, sF_ob ⟨(h.fl (i := 5) rfl).1, (h.fl (i := 5) rfl).2⟩ (Nat.le_of_ble_eq_true rfl), rfl, h.put (i := 5) rfl rfl (fun j hj => ⟨rfl, rfl, rfl⟩) (fun j hj => ⟨rfl, rfl, upd_ne (by omega), upd_ne (by omega), upd_ne (by omega), upd_ne (by omega)⟩)⟩
theorem fg_5_7 (h : Fx st q cw I A R Q) : gI K st (q 5) 8 7 = some (I 8) := h.gI (i := 5) rfl rfl
theorem fw_5_7 (h : Fx st q cw I A R Q) (x : Int32) : ∃ st1, sF st (q 5) 8 7 (.int x) = some st1 ∧ st1 = uC st (q 5) (.inr (.inr (8, [.ref (q 12), .ref (q 13), .ref (q 14), .ref (q 15), .int (I 5), .int (I 6), .int (I 7), .int x]))) ∧ Fx st1 q cw (upd I 8 x) A R Q :=
  ⟨_, sF_ob ⟨(h.fl (i := 5) rfl).1, (h.fl (i := 5) rfl).2⟩ (Nat.le_of_ble_eq_true rfl), rfl, h.put (i := 5) rfl rfl (fun j hj => ⟨rfl, rfl, rfl⟩) (fun j hj => ⟨rfl, rfl, upd_ne (by omega), upd_ne (by omega), upd_ne (by omega), upd_ne (by omega)⟩)⟩
theorem fo_5 (h : Fx st q cw I A R Q) : isO K st (q 5) 8 = some () := h.isO (i := 5) rfl
theorem fg_6_0 (h : Fx st q cw I A R Q) : gQ K st (q 6) 9 0 = some (some (q 16)) := h.gQ (i := 6) rfl rfl
theorem fg_6_1 (h : Fx st q cw I A R Q) : gQ K st (q 6) 9 1 = some (some (q 17)) := h.gQ (i := 6) rfl rfl
theorem fg_6_2 (h : Fx st q cw I A R Q) : gQ K st (q 6) 9 2 = some (some (q 18)) := h.gQ (i := 6) rfl rfl
theorem fg_6_3 (h : Fx st q cw I A R Q) : gQ K st (q 6) 9 3 = some (some (q 19)) := h.gQ (i := 6) rfl rfl
theorem fg_6_4 (h : Fx st q cw I A R Q) : gQ K st (q 6) 9 4 = some (some (q 20)) := h.gQ (i := 6) rfl rfl
theorem fg_6_5 (h : Fx st q cw I A R Q) : gQ K st (q 6) 9 5 = some (some (q 21)) := h.gQ (i := 6) rfl rfl
theorem fg_6_6 (h : Fx st q cw I A R Q) : gI K st (q 6) 9 6 = some (I 9) := h.gI (i := 6) rfl rfl
theorem fw_6_6 (h : Fx st q cw I A R Q) (x : Int32) : ∃ st1, sF st (q 6) 9 6 (.int x) = some st1 ∧ st1 = uC st (q 6) (.inr (.inr (9, [.ref (q 16), .ref (q 17), .ref (q 18), .ref (q 19), .ref (q 20), .ref (q 21), .int x, .int (I 10), .int (I 11)]))) ∧ Fx st1 q cw (upd I 9 x) A R Q :=
  ⟨_, sF_ob ⟨(h.fl (i := 6) rfl).1, (h.fl (i := 6) rfl).2⟩ (Nat.le_of_ble_eq_true rfl), rfl, h.put (i := 6) rfl rfl (fun j hj => ⟨rfl, rfl, rfl⟩) (fun j hj => ⟨rfl, rfl, upd_ne (by omega), upd_ne (by omega), upd_ne (by omega), upd_ne (by omega)⟩)⟩
theorem fg_6_7 (h : Fx st q cw I A R Q) : gI K st (q 6) 9 7 = some (I 10) := h.gI (i := 6) rfl rfl
theorem fw_6_7 (h : Fx st q cw I A R Q) (x : Int32) : ∃ st1, sF st (q 6) 9 7 (.int x) = some st1 ∧ st1 = uC st (q 6) (.inr (.inr (9, [.ref (q 16), .ref (q 17), .ref (q 18), .ref (q 19), .ref (q 20), .ref (q 21), .int (I 9), .int x, .int (I 11)]))) ∧ Fx st1 q cw (upd I 10 x) A R Q :=
  ⟨_, sF_ob ⟨(h.fl (i := 6) rfl).1, (h.fl (i := 6) rfl).2⟩ (Nat.le_of_ble_eq_true rfl), rfl, h.put (i := 6) rfl rfl (fun j hj => ⟨rfl, rfl, rfl⟩) (fun j hj => ⟨rfl, rfl, upd_ne (by omega), upd_ne (by omega), upd_ne (by omega), upd_ne (by omega)⟩)⟩
theorem fg_6_8 (h : Fx st q cw I A R Q) : gI K st (q 6) 9 8 = some (I 11) := h.gI (i := 6) rfl rfl
theorem fw_6_8 (h : Fx st q cw I A R Q) (x : Int32) : ∃ st1, sF st (q 6) 9 8 (.int x) = some st1 ∧ st1 = uC st (q 6) (.inr (.inr (9, [.ref (q 16), .ref (q 17), .ref (q 18), .ref (q 19), .ref (q 20), .ref (q 21), .int (I 9), .int (I 10), .int x]))) ∧ Fx st1 q cw (upd I 11 x) A R Q :=
  ⟨_, sF_ob ⟨(h.fl (i := 6) rfl).1, (h.fl (i := 6) rfl).2⟩ (Nat.le_of_ble_eq_true rfl), rfl, h.put (i := 6) rfl rfl (fun j hj => ⟨rfl, rfl, rfl⟩) (fun j hj => ⟨rfl, rfl, upd_ne (by omega), upd_ne (by omega), upd_ne (by omega), upd_ne (by omega)⟩)⟩
theorem fo_6 (h : Fx st q cw I A R Q) : isO K st (q 6) 9 = some () := h.isO (i := 6) rfl
theorem fg_7_0 (h : Fx st q cw I A R Q) : gQ K st (q 7) 2 0 = some (some (q 22)) := h.gQ (i := 7) rfl rfl
theorem fg_7_1 (h : Fx st q cw I A R Q) : gI K st (q 7) 2 1 = some (0 : Int32) := h.gI (i := 7) rfl rfl
theorem fg_7_2 (h : Fx st q cw I A R Q) : gI K st (q 7) 2 2 = some (I 12) := h.gI (i := 7) rfl rfl
theorem fw_7_2 (h : Fx st q cw I A R Q) (x : Int32) : ∃ st1, sF st (q 7) 2 2 (.int x) = some st1 ∧ st1 = uC st (q 7) (.inr (.inr (2, [.ref (q 22), .int 0, .int x, .int (I 13)]))) ∧ Fx st1 q cw (upd I 12 x) A R Q :=
  ⟨_, sF_ob ⟨(h.fl (i := 7) rfl).1, (h.fl (i := 7) rfl).2⟩ (Nat.le_of_ble_eq_true rfl), rfl, h.put (i := 7) rfl rfl (fun j hj => ⟨rfl, rfl, rfl⟩) (fun j hj => ⟨rfl, rfl, upd_ne (by omega), upd_ne (by omega), upd_ne (by omega), upd_ne (by omega)⟩)⟩
theorem fg_7_3 (h : Fx st q cw I A R Q) : gI K st (q 7) 2 3 = some (I 13) := h.gI (i := 7) rfl rfl
theorem fw_7_3 (h : Fx st q cw I A R Q) (x : Int32) : ∃ st1, sF st (q 7) 2 3 (.int x) = some st1 ∧ st1 = uC st (q 7) (.inr (.inr (2, [.ref (q 22), .int 0, .int (I 12), .int x]))) ∧ Fx st1 q cw (upd I 13 x) A R Q :=
  ⟨_, sF_ob ⟨(h.fl (i := 7) rfl).1, (h.fl (i := 7) rfl).2⟩ (Nat.le_of_ble_eq_true rfl), rfl, h.put (i := 7) rfl rfl (fun j hj => ⟨rfl, rfl, rfl⟩) (fun j hj => ⟨rfl, rfl, upd_ne (by omega), upd_ne (by omega), upd_ne (by omega), upd_ne (by omega)⟩)⟩
theorem fo_7 (h : Fx st q cw I A R Q) : isO K st (q 7) 2 = some () := h.isO (i := 7) rfl
theorem fr_8 (h : Fx st q cw I A R Q) {i : Int32} (hi : vp_in i 80) : rA K st (q 8) 0 i = some (A 0 i.toNatClampNeg) := rA_ar ⟨(h.fl (i := 8) rfl).1, (h.fl (i := 8) rfl).2⟩ hi
theorem fa_8 (h : Fx st q cw I A R Q) {i : Int32} (hi : vp_in i 80) (x : Int32) : ∃ st1, wA st (q 8) 0 i x = some st1 ∧ st1 = uC st (q 8) (.inl (0, 80, upd (A 0) i.toNatClampNeg x)) ∧ Fx st1 q cw I (va_up A 0 (upd (A 0) i.toNatClampNeg x)) R Q :=
  ⟨_, wA_ar ⟨(h.fl (i := 8) rfl).1, (h.fl (i := 8) rfl).2⟩ hi, rfl, h.put (i := 8) rfl rfl (fun j hj => ⟨rfl, rfl, va_up_ne _ _ (by omega)⟩) (fun j hj => ⟨rfl, rfl, rfl, rfl, rfl, rfl⟩)⟩
theorem fg_9_0 (h : Fx st q cw I A R Q) : gQ K st (q 9) 2 0 = some (some (q 23)) := h.gQ (i := 9) rfl rfl
theorem fg_9_1 (h : Fx st q cw I A R Q) : gI K st (q 9) 2 1 = some (0 : Int32) := h.gI (i := 9) rfl rfl
theorem fg_9_2 (h : Fx st q cw I A R Q) : gI K st (q 9) 2 2 = some (I 14) := h.gI (i := 9) rfl rfl
theorem fw_9_2 (h : Fx st q cw I A R Q) (x : Int32) : ∃ st1, sF st (q 9) 2 2 (.int x) = some st1 ∧ st1 = uC st (q 9) (.inr (.inr (2, [.ref (q 23), .int 0, .int x, .int (I 15)]))) ∧ Fx st1 q cw (upd I 14 x) A R Q :=
  ⟨_, sF_ob ⟨(h.fl (i := 9) rfl).1, (h.fl (i := 9) rfl).2⟩ (Nat.le_of_ble_eq_true rfl), rfl, h.put (i := 9) rfl rfl (fun j hj => ⟨rfl, rfl, rfl⟩) (fun j hj => ⟨rfl, rfl, upd_ne (by omega), upd_ne (by omega), upd_ne (by omega), upd_ne (by omega)⟩)⟩
theorem fg_9_3 (h : Fx st q cw I A R Q) : gI K st (q 9) 2 3 = some (I 15) := h.gI (i := 9) rfl rfl
theorem fw_9_3 (h : Fx st q cw I A R Q) (x : Int32) : ∃ st1, sF st (q 9) 2 3 (.int x) = some st1 ∧ st1 = uC st (q 9) (.inr (.inr (2, [.ref (q 23), .int 0, .int (I 14), .int x]))) ∧ Fx st1 q cw (upd I 15 x) A R Q :=
  ⟨_, sF_ob ⟨(h.fl (i := 9) rfl).1, (h.fl (i := 9) rfl).2⟩ (Nat.le_of_ble_eq_true rfl), rfl, h.put (i := 9) rfl rfl (fun j hj => ⟨rfl, rfl, rfl⟩) (fun j hj => ⟨rfl, rfl, upd_ne (by omega), upd_ne (by omega), upd_ne (by omega), upd_ne (by omega)⟩)⟩
theorem fo_9 (h : Fx st q cw I A R Q) : isO K st (q 9) 2 = some () := h.isO (i := 9) rfl
theorem fg_10_0 (h : Fx st q cw I A R Q) : gQ K st (q 10) 5 0 = some (some (q 24)) := h.gQ (i := 10) rfl rfl
theorem fo_10 (h : Fx st q cw I A R Q) : isO K st (q 10) 5 = some () := h.isO (i := 10) rfl
theorem fr_11 (h : Fx st q cw I A R Q) {i : Int32} (hi : vp_in i 8) : rQ K st (q 11) 7 i = some (Q 0 i.toNatClampNeg) := rQ_ar ⟨(h.fl (i := 11) rfl).1, (h.fl (i := 11) rfl).2⟩ hi
theorem fr_12 (h : Fx st q cw I A R Q) {i : Int32} (hi : vp_in i 32) : rQ K st (q 12) 5 i = some (Q 1 i.toNatClampNeg) := rQ_ar ⟨(h.fl (i := 12) rfl).1, (h.fl (i := 12) rfl).2⟩ hi
theorem fa_12 (h : Fx st q cw I A R Q) {i : Int32} (hi : vp_in i 32) (x : Option Nat) (hx : ∀ b, x = some b → ∃ fs, ob1 st b 11 fs) : ∃ st1, wQ st (q 12) 5 11 i x = some st1 ∧ st1 = uC st (q 12) (.inr (.inl (5, 32, va_up (Q 1) i.toNatClampNeg x))) ∧ Fx st1 q cw I A R (va_up Q 1 (va_up (Q 1) i.toNatClampNeg x)) :=
  ⟨_, wQ_ar ⟨(h.fl (i := 12) rfl).1, (h.fl (i := 12) rfl).2⟩ hi hx, rfl, h.put (i := 12) rfl rfl (fun j hj => ⟨congrFun (va_up_ne _ _ (by omega)) j, va_up_ne _ _ (by omega), rfl⟩) (fun j hj => ⟨congrFun (va_up_ne _ _ (by omega)) j, rfl, rfl, rfl, rfl, rfl⟩)⟩
theorem fr_13 (h : Fx st q cw I A R Q) {i : Int32} (hi : vp_in i 32) : rA K st (q 13) 1 i = some (A 1 i.toNatClampNeg) := rA_ar ⟨(h.fl (i := 13) rfl).1, (h.fl (i := 13) rfl).2⟩ hi
theorem fa_13 (h : Fx st q cw I A R Q) {i : Int32} (hi : vp_in i 32) (x : Int32) : ∃ st1, wA st (q 13) 1 i x = some st1 ∧ st1 = uC st (q 13) (.inl (1, 32, upd (A 1) i.toNatClampNeg x)) ∧ Fx st1 q cw I (va_up A 1 (upd (A 1) i.toNatClampNeg x)) R Q :=
  ⟨_, wA_ar ⟨(h.fl (i := 13) rfl).1, (h.fl (i := 13) rfl).2⟩ hi, rfl, h.put (i := 13) rfl rfl (fun j hj => ⟨rfl, rfl, va_up_ne _ _ (by omega)⟩) (fun j hj => ⟨rfl, rfl, rfl, rfl, rfl, rfl⟩)⟩
theorem fr_14 (h : Fx st q cw I A R Q) {i : Int32} (hi : vp_in i 32) : rQ K st (q 14) 5 i = some (Q 2 i.toNatClampNeg) := rQ_ar ⟨(h.fl (i := 14) rfl).1, (h.fl (i := 14) rfl).2⟩ hi
theorem fa_14 (h : Fx st q cw I A R Q) {i : Int32} (hi : vp_in i 32) (x : Option Nat) (hx : ∀ b, x = some b → ∃ fs, ob1 st b 11 fs) : ∃ st1, wQ st (q 14) 5 11 i x = some st1 ∧ st1 = uC st (q 14) (.inr (.inl (5, 32, va_up (Q 2) i.toNatClampNeg x))) ∧ Fx st1 q cw I A R (va_up Q 2 (va_up (Q 2) i.toNatClampNeg x)) :=
  ⟨_, wQ_ar ⟨(h.fl (i := 14) rfl).1, (h.fl (i := 14) rfl).2⟩ hi hx, rfl, h.put (i := 14) rfl rfl (fun j hj => ⟨congrFun (va_up_ne _ _ (by omega)) j, va_up_ne _ _ (by omega), rfl⟩) (fun j hj => ⟨congrFun (va_up_ne _ _ (by omega)) j, rfl, rfl, rfl, rfl, rfl⟩)⟩
theorem fr_15 (h : Fx st q cw I A R Q) {i : Int32} (hi : vp_in i 32) : rQ K st (q 15) 5 i = some (Q 3 i.toNatClampNeg) := rQ_ar ⟨(h.fl (i := 15) rfl).1, (h.fl (i := 15) rfl).2⟩ hi
theorem fa_15 (h : Fx st q cw I A R Q) {i : Int32} (hi : vp_in i 32) (x : Option Nat) (hx : ∀ b, x = some b → ∃ fs, ob1 st b 11 fs) : ∃ st1, wQ st (q 15) 5 11 i x = some st1 ∧ st1 = uC st (q 15) (.inr (.inl (5, 32, va_up (Q 3) i.toNatClampNeg x))) ∧ Fx st1 q cw I A R (va_up Q 3 (va_up (Q 3) i.toNatClampNeg x)) :=
  ⟨_, wQ_ar ⟨(h.fl (i := 15) rfl).1, (h.fl (i := 15) rfl).2⟩ hi hx, rfl, h.put (i := 15) rfl rfl (fun j hj => ⟨congrFun (va_up_ne _ _ (by omega)) j, va_up_ne _ _ (by omega), rfl⟩) (fun j hj => ⟨congrFun (va_up_ne _ _ (by omega)) j, rfl, rfl, rfl, rfl, rfl⟩)⟩
theorem fr_16 (h : Fx st q cw I A R Q) {i : Int32} (hi : vp_in i 12) : rQ K st (q 16) 6 i = some (Q 4 i.toNatClampNeg) := rQ_ar ⟨(h.fl (i := 16) rfl).1, (h.fl (i := 16) rfl).2⟩ hi
theorem fr_17 (h : Fx st q cw I A R Q) {i : Int32} (hi : vp_in i 2) : rA K st (q 17) 1 i = some (A 2 i.toNatClampNeg) := rA_ar ⟨(h.fl (i := 17) rfl).1, (h.fl (i := 17) rfl).2⟩ hi
theorem fa_17 (h : Fx st q cw I A R Q) {i : Int32} (hi : vp_in i 2) (x : Int32) : ∃ st1, wA st (q 17) 1 i x = some st1 ∧ st1 = uC st (q 17) (.inl (1, 2, upd (A 2) i.toNatClampNeg x)) ∧ Fx st1 q cw I (va_up A 2 (upd (A 2) i.toNatClampNeg x)) R Q :=
  ⟨_, wA_ar ⟨(h.fl (i := 17) rfl).1, (h.fl (i := 17) rfl).2⟩ hi, rfl, h.put (i := 17) rfl rfl (fun j hj => ⟨rfl, rfl, va_up_ne _ _ (by omega)⟩) (fun j hj => ⟨rfl, rfl, rfl, rfl, rfl, rfl⟩)⟩
theorem fr_18 (h : Fx st q cw I A R Q) {i : Int32} (hi : vp_in i 2) : rA K st (q 18) 1 i = some (A 3 i.toNatClampNeg) := rA_ar ⟨(h.fl (i := 18) rfl).1, (h.fl (i := 18) rfl).2⟩ hi
theorem fa_18 (h : Fx st q cw I A R Q) {i : Int32} (hi : vp_in i 2) (x : Int32) : ∃ st1, wA st (q 18) 1 i x = some st1 ∧ st1 = uC st (q 18) (.inl (1, 2, upd (A 3) i.toNatClampNeg x)) ∧ Fx st1 q cw I (va_up A 3 (upd (A 3) i.toNatClampNeg x)) R Q :=
  ⟨_, wA_ar ⟨(h.fl (i := 18) rfl).1, (h.fl (i := 18) rfl).2⟩ hi, rfl, h.put (i := 18) rfl rfl (fun j hj => ⟨rfl, rfl, va_up_ne _ _ (by omega)⟩) (fun j hj => ⟨rfl, rfl, rfl, rfl, rfl, rfl⟩)⟩
theorem fr_19 (h : Fx st q cw I A R Q) {i : Int32} (hi : vp_in i 3) : rA K st (q 19) 3 i = some (A 4 i.toNatClampNeg) := rA_ar ⟨(h.fl (i := 19) rfl).1, (h.fl (i := 19) rfl).2⟩ hi
theorem fa_19 (h : Fx st q cw I A R Q) {i : Int32} (hi : vp_in i 3) (x : Int32) : ∃ st1, wA st (q 19) 3 i x = some st1 ∧ st1 = uC st (q 19) (.inl (3, 3, upd (A 4) i.toNatClampNeg x)) ∧ Fx st1 q cw I (va_up A 4 (upd (A 4) i.toNatClampNeg x)) R Q :=
  ⟨_, wA_ar ⟨(h.fl (i := 19) rfl).1, (h.fl (i := 19) rfl).2⟩ hi, rfl, h.put (i := 19) rfl rfl (fun j hj => ⟨rfl, rfl, va_up_ne _ _ (by omega)⟩) (fun j hj => ⟨rfl, rfl, rfl, rfl, rfl, rfl⟩)⟩
theorem fr_20 (h : Fx st q cw I A R Q) {i : Int32} (hi : vp_in i 3) : rA K st (q 20) 1 i = some (A 5 i.toNatClampNeg) := rA_ar ⟨(h.fl (i := 20) rfl).1, (h.fl (i := 20) rfl).2⟩ hi
theorem fa_20 (h : Fx st q cw I A R Q) {i : Int32} (hi : vp_in i 3) (x : Int32) : ∃ st1, wA st (q 20) 1 i x = some st1 ∧ st1 = uC st (q 20) (.inl (1, 3, upd (A 5) i.toNatClampNeg x)) ∧ Fx st1 q cw I (va_up A 5 (upd (A 5) i.toNatClampNeg x)) R Q :=
  ⟨_, wA_ar ⟨(h.fl (i := 20) rfl).1, (h.fl (i := 20) rfl).2⟩ hi, rfl, h.put (i := 20) rfl rfl (fun j hj => ⟨rfl, rfl, va_up_ne _ _ (by omega)⟩) (fun j hj => ⟨rfl, rfl, rfl, rfl, rfl, rfl⟩)⟩
theorem fr_21 (h : Fx st q cw I A R Q) {i : Int32} (hi : vp_in i 4) : rQ K st (q 21) 5 i = some (Q 5 i.toNatClampNeg) := rQ_ar ⟨(h.fl (i := 21) rfl).1, (h.fl (i := 21) rfl).2⟩ hi
theorem fa_21 (h : Fx st q cw I A R Q) {i : Int32} (hi : vp_in i 4) (x : Option Nat) (hx : ∀ b, x = some b → ∃ fs, ob1 st b 11 fs) : ∃ st1, wQ st (q 21) 5 11 i x = some st1 ∧ st1 = uC st (q 21) (.inr (.inl (5, 4, va_up (Q 5) i.toNatClampNeg x))) ∧ Fx st1 q cw I A R (va_up Q 5 (va_up (Q 5) i.toNatClampNeg x)) :=
  ⟨_, wQ_ar ⟨(h.fl (i := 21) rfl).1, (h.fl (i := 21) rfl).2⟩ hi hx, rfl, h.put (i := 21) rfl rfl (fun j hj => ⟨congrFun (va_up_ne _ _ (by omega)) j, va_up_ne _ _ (by omega), rfl⟩) (fun j hj => ⟨congrFun (va_up_ne _ _ (by omega)) j, rfl, rfl, rfl, rfl, rfl⟩)⟩
theorem fr_22 (h : Fx st q cw I A R Q) {i : Int32} (hi : vp_in i cw) : rA K st (q 22) 2 i = some (A 6 i.toNatClampNeg) := rA_ar ⟨(h.fl (i := 22) rfl).1, (h.fl (i := 22) rfl).2⟩ hi
theorem fa_22 (h : Fx st q cw I A R Q) {i : Int32} (hi : vp_in i cw) (x : Int32) : ∃ st1, wA st (q 22) 2 i x = some st1 ∧ st1 = uC st (q 22) (.inl (2, cw, upd (A 6) i.toNatClampNeg x)) ∧ Fx st1 q cw I (va_up A 6 (upd (A 6) i.toNatClampNeg x)) R Q :=
  ⟨_, wA_ar ⟨(h.fl (i := 22) rfl).1, (h.fl (i := 22) rfl).2⟩ hi, rfl, h.put (i := 22) rfl rfl (fun j hj => ⟨rfl, rfl, va_up_ne _ _ (by omega)⟩) (fun j hj => ⟨rfl, rfl, rfl, rfl, rfl, rfl⟩)⟩
theorem fr_23 (h : Fx st q cw I A R Q) {i : Int32} (hi : vp_in i 16) : rA K st (q 23) 2 i = some (A 7 i.toNatClampNeg) := rA_ar ⟨(h.fl (i := 23) rfl).1, (h.fl (i := 23) rfl).2⟩ hi
theorem fa_23 (h : Fx st q cw I A R Q) {i : Int32} (hi : vp_in i 16) (x : Int32) : ∃ st1, wA st (q 23) 2 i x = some st1 ∧ st1 = uC st (q 23) (.inl (2, 16, upd (A 7) i.toNatClampNeg x)) ∧ Fx st1 q cw I (va_up A 7 (upd (A 7) i.toNatClampNeg x)) R Q :=
  ⟨_, wA_ar ⟨(h.fl (i := 23) rfl).1, (h.fl (i := 23) rfl).2⟩ hi, rfl, h.put (i := 23) rfl rfl (fun j hj => ⟨rfl, rfl, va_up_ne _ _ (by omega)⟩) (fun j hj => ⟨rfl, rfl, rfl, rfl, rfl, rfl⟩)⟩
theorem fg_24_0 (h : Fx st q cw I A R Q) : gQ K st (q 24) 2 0 = some (some (q 25)) := h.gQ (i := 24) rfl rfl
theorem fg_24_1 (h : Fx st q cw I A R Q) : gI K st (q 24) 2 1 = some (0 : Int32) := h.gI (i := 24) rfl rfl
theorem fg_24_2 (h : Fx st q cw I A R Q) : gI K st (q 24) 2 2 = some (I 16) := h.gI (i := 24) rfl rfl
theorem fw_24_2 (h : Fx st q cw I A R Q) (x : Int32) : ∃ st1, sF st (q 24) 2 2 (.int x) = some st1 ∧ st1 = uC st (q 24) (.inr (.inr (2, [.ref (q 25), .int 0, .int x, .int (I 17)]))) ∧ Fx st1 q cw (upd I 16 x) A R Q :=
  ⟨_, sF_ob ⟨(h.fl (i := 24) rfl).1, (h.fl (i := 24) rfl).2⟩ (Nat.le_of_ble_eq_true rfl), rfl, h.put (i := 24) rfl rfl (fun j hj => ⟨rfl, rfl, rfl⟩) (fun j hj => ⟨rfl, rfl, upd_ne (by omega), upd_ne (by omega), upd_ne (by omega), upd_ne (by omega)⟩)⟩
theorem fg_24_3 (h : Fx st q cw I A R Q) : gI K st (q 24) 2 3 = some (I 17) := h.gI (i := 24) rfl rfl
theorem fw_24_3 (h : Fx st q cw I A R Q) (x : Int32) : ∃ st1, sF st (q 24) 2 3 (.int x) = some st1 ∧ st1 = uC st (q 24) (.inr (.inr (2, [.ref (q 25), .int 0, .int (I 16), .int x]))) ∧ Fx st1 q cw (upd I 17 x) A R Q :=
  ⟨_, sF_ob ⟨(h.fl (i := 24) rfl).1, (h.fl (i := 24) rfl).2⟩ (Nat.le_of_ble_eq_true rfl), rfl, h.put (i := 24) rfl rfl (fun j hj => ⟨rfl, rfl, rfl⟩) (fun j hj => ⟨rfl, rfl, upd_ne (by omega), upd_ne (by omega), upd_ne (by omega), upd_ne (by omega)⟩)⟩
theorem fo_24 (h : Fx st q cw I A R Q) : isO K st (q 24) 2 = some () := h.isO (i := 24) rfl
theorem fr_25 (h : Fx st q cw I A R Q) {i : Int32} (hi : vp_in i 16) : rA K st (q 25) 2 i = some (A 8 i.toNatClampNeg) := rA_ar ⟨(h.fl (i := 25) rfl).1, (h.fl (i := 25) rfl).2⟩ hi
theorem fa_25 (h : Fx st q cw I A R Q) {i : Int32} (hi : vp_in i 16) (x : Int32) : ∃ st1, wA st (q 25) 2 i x = some st1 ∧ st1 = uC st (q 25) (.inl (2, 16, upd (A 8) i.toNatClampNeg x)) ∧ Fx st1 q cw I (va_up A 8 (upd (A 8) i.toNatClampNeg x)) R Q :=
  ⟨_, wA_ar ⟨(h.fl (i := 25) rfl).1, (h.fl (i := 25) rfl).2⟩ hi, rfl, h.put (i := 25) rfl rfl (fun j hj => ⟨rfl, rfl, va_up_ne _ _ (by omega)⟩) (fun j hj => ⟨rfl, rfl, rfl, rfl, rfl, rfl⟩)⟩
/-- what is written elsewhere leaves the fixed cells -/
theorem Fx.mono {st1 : CS} (h : Fx st q cw I A R Q) (h1 : ∀ a, a ∈ st.2.1 → a ∈ st1.2.1) (h2 : ∀ i, us i = true → st1.2.2 (q i) = st.2.2 (q i)) : Fx st1 q cw I A R Q := by
  obtain ⟨hF, hp, hs, hq⟩ := h
  refine ⟨?_, fun j hj => ?_, fun j hj => ?_, hq⟩
  · intro p hp1
    obtain ⟨k, hk⟩ := List.mem_iff_getElem?.mp hp1
    obtain ⟨hk26, hpk⟩ := Lx_at hk
    obtain ⟨g1, g2⟩ := hF p hp1
    exact ⟨h1 _ g1, by rw [hpk, h2 k (us_f hk26), ← hpk]; exact g2⟩
  · obtain ⟨a1, ⟨a2, a3⟩, ⟨a4, a5⟩, a6, a7⟩ := hp j hj
    obtain ⟨u1, u2, u3⟩ := us_p hj
    exact ⟨a1, ⟨h1 _ a2, by rw [h2 _ u1]; exact a3⟩, ⟨h1 _ a4, by rw [h2 _ u2]; exact a5⟩, h1 _ a6, by rw [h2 _ u3]; exact a7⟩
  · obtain ⟨a1, a2, a3⟩ := hs j hj
    exact ⟨a1, h1 _ a2, by rw [h2 _ (us_s hj)]; exact a3⟩
/-- a page's leaves, a page's documents -/
theorem Fx.putLeaves (h : Fx st q cw I A R Q) {j : Nat} (hj : j < 12) (g : Nat → Int32) : Fx (uC st (q (102 + 3 * j)) (.inl (1, 2, g))) q cw I (va_up A (10 + j) g) R Q := by
  obtain ⟨hF, hp, hs, hq⟩ := h
  obtain ⟨v1, v2, v3⟩ := us_p hj
  have hne : ∀ i, us i = true → i ≠ 102 + 3 * j → q i ≠ q (102 + 3 * j) := fun i hi hij e => hij (hq i _ hi v3 e)
  have hA : ∀ k, k < 10 → va_up A (10 + j) g k = A k := fun k hk => va_up_ne _ _ (by omega)
  refine ⟨?_, fun i hi => ?_, fun i hi => ?_, hq⟩
  · have e : Lx q cw I (va_up A (10 + j) g) R Q = Lx q cw I A R Q := by
      unfold Lx
      rw [hA 0 (by omega), hA 1 (by omega), hA 2 (by omega), hA 3 (by omega), hA 4 (by omega), hA 5 (by omega), hA 6 (by omega), hA 7 (by omega), hA 8 (by omega)]
    rw [e]
    intro p hp1
    obtain ⟨k, hk⟩ := List.mem_iff_getElem?.mp hp1
    obtain ⟨hk26, hpk⟩ := Lx_at hk
    obtain ⟨g1, g2⟩ := hF p hp1
    exact ⟨g1, by rw [uC_ne (by rw [hpk]; exact hne k (us_f hk26) (by omega))]; exact g2⟩
  · obtain ⟨a1, ⟨a2, a3⟩, ⟨a4, a5⟩, a6, a7⟩ := hp i hi
    obtain ⟨u1, u2, u3⟩ := us_p hi
    refine ⟨a1, ⟨a2, by rw [uC_ne (hne _ u1 (by omega))]; exact a3⟩, ⟨a4, by rw [uC_ne (hne _ u2 (by omega))]; exact a5⟩, a6, ?_⟩
    by_cases e : i = j
    · subst e
      rw [uC_self, va_up_self]
    · rw [uC_ne (hne _ u3 (by omega)), va_up_ne _ _ (by omega)]; exact a7
  · obtain ⟨a1, a2, a3⟩ := hs i hi
    exact ⟨a1, a2, by rw [uC_ne (hne _ (us_s hi) (by omega))]; exact a3⟩
theorem Fx.putDocs (h : Fx st q cw I A R Q) {j : Nat} (hj : j < 12) (g : Nat → Option Nat) : Fx (uC st (q (101 + 3 * j)) (.inr (.inl (5, 4, g)))) q cw I A R (va_up Q (10 + j) g) := by
  obtain ⟨hF, hp, hs, hq⟩ := h
  obtain ⟨v1, v2, v3⟩ := us_p hj
  have hne : ∀ i, us i = true → i ≠ 101 + 3 * j → q i ≠ q (101 + 3 * j) := fun i hi hij e => hij (hq i _ hi v2 e)
  have hA : ∀ k, k < 10 → va_up Q (10 + j) g k = Q k := fun k hk => va_up_ne _ _ (by omega)
  refine ⟨?_, fun i hi => ?_, fun i hi => ?_, hq⟩
  · have e : Lx q cw I A R (va_up Q (10 + j) g) = Lx q cw I A R Q := by
      unfold Lx
      rw [hA 0 (by omega), hA 1 (by omega), hA 2 (by omega), hA 3 (by omega), hA 4 (by omega), hA 5 (by omega)]
    rw [e]
    intro p hp1
    obtain ⟨k, hk⟩ := List.mem_iff_getElem?.mp hp1
    obtain ⟨hk26, hpk⟩ := Lx_at hk
    obtain ⟨g1, g2⟩ := hF p hp1
    exact ⟨g1, by rw [uC_ne (by rw [hpk]; exact hne k (us_f hk26) (by omega))]; exact g2⟩
  · obtain ⟨a1, ⟨a2, a3⟩, ⟨a4, a5⟩, a6, a7⟩ := hp i hi
    obtain ⟨u1, u2, u3⟩ := us_p hi
    refine ⟨by rw [hA 4 (by omega)]; exact a1, ⟨a2, by rw [uC_ne (hne _ u1 (by omega))]; exact a3⟩, ⟨a4, ?_⟩, a6, by rw [uC_ne (hne _ u3 (by omega))]; exact a7⟩
    by_cases e : i = j
    · subst e
      rw [uC_self, va_up_self]
    · rw [uC_ne (hne _ u2 (by omega)), va_up_ne _ _ (by omega)]; exact a5
  · obtain ⟨a1, a2, a3⟩ := hs i hi
    exact ⟨by rw [hA 0 (by omega)]; exact a1, a2, by rw [uC_ne (hne _ (us_s hi) (by omega))]; exact a3⟩

end FX
