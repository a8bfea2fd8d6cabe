/-! The call patch alike. -/
section PATCH2
variable {Zd : Nat → Nat} {K : KE} {st : CS} {ms : MS} {q : Nat → Nat} {cw : Nat} {I : Nat → Int32} {A : Nat → Nat → Int32} {R : Nat → Option Nat} {Q : Nat → Nat → Option Nat}
/-- behind the reading of the list: class and model -/
theorem pt_lock (hc : kc Zd K) (h : Rv Zd K st ms q cw I A R Q) (hdn : I 11 = 0) {ls a0 n : Nat} {Ll Ld : List Nd} (hLl : treeOf Zd K st 5 ls = some Ll) (hrl : rowIs ms 1920 Ll) (hll : Ll.length ≤ 24) (hLd : treeOf Zd K st 5 a0 = some Ld) (hrd : rowIs ms (24 * n) Ld) (hld : Ld.length ≤ 24) {row id : Int32} (hrow : row.toInt = n) (hn : n < 48) (hi0 : ¬ id < 0) (hi8 : ¬ 8 ≤ id) (z6 : st.1.1 + 794 ≤ Zd 6) (z7 : st.1.2 + 4984 ≤ Zd 7) :
    ∃ x st1 ms1 I1 A1 R1 Q1, ((c_Patcher_apply Zd K (q 3) (some ls) (some a0) st).bind fun r46 => (if r46.1 = (0 : Int32) then ((gQ K r46.2 (q 0) 0 2).bind fun x60 => x60.bind fun a61z => (gQ K r46.2 a61z 4 1).bind fun x62 => (isO K r46.2 (q 0) 0).bind fun _ => (c_PagedValues_change Zd K (q 0) id x62 r46.2).bind fun r65 => some (r65.1, r65.2)) else (some (r46.1, r46.2))).bind fun e47 => (if e47.1 = (0 : Int32) then ((gQ K e47.2 (q 0) 0 2).bind fun x53 => x53.bind fun a54z => (gQ K e47.2 a54z 4 1).bind fun x55 => (c_Value_sizeOf Zd K 10 x55 (0 : Int32) e47.2).bind fun x56 => some x56) else (some e47.1)).bind fun e50 => some (e50, e47.2)) = some (x, st1) ∧ ((m_copyRow row (81 : Int32) ms).bind fun st18 => (m_operate st18).bind fun r22 => (if r22.1 = (0 : Int32) then ((m_change id (81 : Int32) r22.2).bind fun r36 => some (r36.1, r36.2)) else (some (r22.1, r22.2))).bind fun e24 => (if e24.1 = (0 : Int32) then ((m_at (81 : Int32)).bind fun x30 => (rd (e24.2.2.2.1 2) 2100 x30).bind fun x33 => some x33) else (some e24.1)).bind fun e28 => some (e28, e24.2)) = some (x, ms1) ∧ st1.1.1 ≤ st.1.1 + 794 ∧ st1.1.2 ≤ st.1.2 + 4984 ∧ Rv Zd K st1 ms1 q cw I1 A1 R1 Q1 := by
  obtain ⟨x, s1, ms4, ms1, I1, A1, R1, a1, a2, a3, a4, a5, a6, a7, a8⟩ := appl_lock hc h hLl hrl hll hLd hrd hld hrow hn z6 z7
  by_cases hx : x = 0
  · subst hx
    obtain ⟨r, L1, b1, b2, b3, b4⟩ := a8 rfl
    have hF1 := a6.1
    have hsrc : srcOk Zd K s1 ms1 (some r) 81 := Or.inr ⟨r, 1980, 1980, L1, rfl, by decide, at81, by decide, by decide, by omega, b2, b3, b4⟩
    obtain ⟨st4, ms5, I4, A4, Q4, y, d1, d2, d3, d4, d5, d6⟩ := pv_change a6 (a7.trans hdn) hc.2.2 hi0 hi8 hsrc
    have hdoc : gQ K s1 (q 3) 4 1 = some (some r) := by rw [fg_3_1 hF1, b1]
    have hF4 := d5.1
    have hdoc4 : gQ K st4 (q 3) 4 1 = some (some r) := by rw [fg_3_1 hF4, b1]
    have hb1 : st4.1.1 = s1.1.1 ∧ st4.1.2 = s1.1.2 := by rw [d3]; exact ⟨rfl, rfl⟩
    by_cases hy : y = 0
    · subst hy
      have hrow5 : rowIs ms5 1980 L1 := d6 1980 L1 (by decide) b3
      have htr4 := d4.tree 5 r L1 b2
      have hsz := size_ok hc.2.2 5 10 r L1 0 htr4 (by decide) (by decide) (by decide)
      have hspan : rd (ms5.2.2.1 2) 2100 1980 = some (Int32.ofNat L1.length) := by
        obtain ⟨o, num, cs, ns, fst, nx, ks, -, -, -, -, hL⟩ := tree_node hc.2.2 htr4
        have h9 := (hrow5 0 (o, 1 + (kL ks).flatten.length, num, cs, ns) (by rw [hL]; rfl)).2.1
        rw [rd_in (vp_of (by decide) (by decide))]
        show some (ms5.2.2.1 2 (1980 + 0)) = _
        rw [h9, hL, List.length_cons, Nat.add_comm]
      refine ⟨Int32.ofNat L1.length, st4, ms5, I4, A4, R1, Q4, ?_, ?_, by omega, by omega, d5⟩
      · simp only [a1, Option.bind_some, if_true, fg_0_2 hF1, hdoc, fo_0 hF1, d1, fg_0_2 hF4, hdoc4, hsz]
      · simp only [a2, Option.bind_some, a3, if_true, d2, at81, hspan]
    · refine ⟨y, st4, ms5, I4, A4, R1, Q4, ?_, ?_, by omega, by omega, d5⟩
      · simp only [a1, Option.bind_some, if_true, fg_0_2 hF1, hdoc, fo_0 hF1, d1, hy, if_false]
      · simp only [a2, Option.bind_some, a3, if_true, d2, hy, if_false]
  · refine ⟨x, s1, ms1, I1, A1, R1, Q, ?_, ?_, a4, a5, a6⟩
    · simp only [a1, Option.bind_some, hx, if_false]
    · simp only [a2, Option.bind_some, a3, hx, if_false]
theorem sim_patch (h : Rv Zd K st ms q cw I A R Q) (hk : kc Zd K) (z6 : st.1.1 + 914 ≤ Zd 6) (z7 : st.1.2 + 5800 ≤ Zd 7) (id : Int32) : ∃ x st1 ms1 I1 A1 R1 Q1, c_PagedValues_patch Zd K (q 0) id st = some (x, st1) ∧ m_patch id ms = some (x, ms1) ∧ st1.1.1 ≤ st.1.1 + 914 ∧ st1.1.2 ≤ st.1.2 + 5800 ∧ Rv Zd K st1 ms1 q cw I1 A1 R1 Q1 := by
  have L := nums
  have h0 := h
  have hF := h.1
  obtain ⟨-, -, ⟨t1, t2, t3, t4⟩, hS, hP, -, hd, -⟩ := h
  obtain ⟨hcur, hroot⟩ := cur_ok hS
  have hcurM : rd (ms.2.2.1 15) 2 (curM (ms.2.2.1 16)) = some (A 3 (curM (A 2)).toNatClampNeg) := by
    obtain ⟨-, -, ⟨s7, s8, -, -⟩, -⟩ := hS
    rw [rd_in (curM_in _), ← s8, ← s7]
  have s3 : I 11 = ms.1 13 := hS.1.2.2
  by_cases hdn : I 11 = 0
  · have hdm : ms.1 13 = 0 := s3.symm.trans hdn
    have g8 : gI K st (q 6) 9 8 = some 0 := by rw [fg_6_8 hF, hdn]
    rcases doc_row hP hd hcur id with ⟨e1, e2⟩ | ⟨a, n, e1, e2, e3, e4⟩
    · refine ⟨-1, st, ms, I, A, R, Q, ?_, ?_, by omega, by omega, h0⟩
      · simp only [c_PagedValues_patch, fg_0_5 hF, g8, Option.bind_some, if_true, fo_6 hF, c_cr hF, c_doc hF hP hcur, e1, nl]
      · simp only [m_patch, m_cm, hcurM, Option.bind_some, m_row hP hcur, e2, hdm, if_true, show ¬ ((0 : Int32) ≤ -1) from by decide, if_false]
    · have hid : ¬ id < 0 ∧ ¬ 8 ≤ id := by
        constructor
        · intro e9; unfold docS at e1; rw [if_pos e9] at e1; cases e1
        · intro e9
          unfold docS at e1
          rw [if_pos e9] at e1
          split at e1 <;> cases e1
      have hge : (0 : Int32) ≤ rowS ms (A 3 (curM (A 2)).toNatClampNeg) id := i32le.mpr (by omega)
      obtain ⟨st2, I2, A2, m2, p1, p2, p3, p4, p5, p6, p7, p8, p9, p10⟩ := parse_lock (ms := ms) hk h0.cx t1 t2 t3 t4 h0.wq (by omega) (by omega)
      have hR2 := h0.read p2 p3 p4 p5 p6 p7
      obtain ⟨st3, c1, c2, c3, hR3⟩ := clear_lock hR2
      have hF2 := hR2.1
      have hF3 := hR3.1
      have hb3 : st3.1.1 = st2.1.1 ∧ st3.1.2 = st2.1.2 := by rw [c2]; exact ⟨rfl, rfl⟩
      have hcp : ∀ cv, c_ValueParser_parse Zd K (q 2) (some (q 1)) st = some (cv, st2) → c_PagedValues_patch Zd K (q 0) id st = nl cv ((gQ K st3 (q 0) 0 0).bind fun x38 => x38.bind fun a39z => (gI K st3 a39z 1 4).bind fun x40 => (some (((-100) : Int32) - x40)).bind fun y41 => some (y41, st3)) (fun a37z => (c_Patcher_apply Zd K (q 3) cv (some a) st3).bind fun r46 => (if r46.1 = (0 : Int32) then ((gQ K r46.2 (q 0) 0 2).bind fun x60 => x60.bind fun a61z => (gQ K r46.2 a61z 4 1).bind fun x62 => (isO K r46.2 (q 0) 0).bind fun _ => (c_PagedValues_change Zd K (q 0) id x62 r46.2).bind fun r65 => some (r65.1, r65.2)) else (some (r46.1, r46.2))).bind fun e47 => (if e47.1 = (0 : Int32) then ((gQ K e47.2 (q 0) 0 2).bind fun x53 => x53.bind fun a54z => (gQ K e47.2 a54z 4 1).bind fun x55 => (c_Value_sizeOf Zd K 10 x55 (0 : Int32) e47.2).bind fun x56 => some x56) else (some e47.1)).bind fun e50 => some (e50, e47.2)) := by
        intro cv hcv
        cases cv with
        | none => simp only [c_PagedValues_patch, fg_0_5 hF, g8, Option.bind_some, if_true, fo_6 hF, c_cr hF, c_doc hF hP hcur, e1, nl, fg_0_1 hF, fg_0_0 hF, fo_2 hF, hcv, fg_0_0 hF2, fo_1 hF2, c1]
        | some ls => simp only [c_PagedValues_patch, fg_0_5 hF, g8, Option.bind_some, if_true, fo_6 hF, c_cr hF, c_doc hF hP hcur, e1, nl, fg_0_1 hF, fg_0_0 hF, fo_2 hF, hcv, fg_0_0 hF2, fo_1 hF2, c1, fg_0_2 hF3, fo_3 hF3]
      rcases p10 with ⟨ls, N, L9, u1, u2, u3, u4, u5, u6, u7, u8, u9⟩ | ⟨u0, u1, u2, u3, u4⟩
      · have htr := c3.tree 5 ls L9 (Tw.tree _ _ _ _ _ u2)
        have hdn3 : upd I2 0 0 11 = 0 := (p5 11 (by decide) (by decide) (by decide) (by decide) (by decide)).trans hdn
        obtain ⟨-, Ld, hLd, hrd, hld⟩ := e4
        have hLd3 := (p3.tr c3).tree 5 a Ld hLd
        have hrd2 : rowIs m2 (24 * n) Ld := hrd.low p7 (by omega)
        have hrd3 : rowIs (upd m2.1 0 0, m2.2.1, m2.2.2.1, m2.2.2.2) (24 * n) Ld := hrd2
        have hrl3 : rowIs (upd m2.1 0 0, m2.2.1, m2.2.2.1, m2.2.2.2) 1920 L9 := u9
        have hbad : (m2.1 2) < (0 : Int32) := by rw [u8]; decide
        obtain ⟨x, s7, ms7, I7, A7, R7, Q7, w1, w2, w3, w4, w5⟩ := pt_lock (row := rowS ms (A 3 (curM (A 2)).toNatClampNeg) id) hk hR3 hdn3 htr hrl3 u6 hLd3 hrd3 hld e3 e2 hid.1 hid.2 (by omega) (by omega)
        refine ⟨x, s7, ms7, I7, A7, R7, Q7, ?_, ?_, by omega, by omega, w5⟩
        · rw [hcp _ u1]
          exact w1
        · simp only [m_patch, m_cm, hcurM, Option.bind_some, m_row hP hcur, hdm, if_true, hge, p1, hbad]
          exact w2
      · have hbad : ¬ (m2.1 2) < (0 : Int32) := fun e => by rw [u3] at e; have := i32lt.mp e; omega
        refine ⟨-100 - I2 2, st3, (upd m2.1 0 0, m2.2.1, m2.2.2.1, m2.2.2.2), upd I2 0 0, A2, R, Q, ?_, ?_, by omega, by omega, hR3⟩
        · rw [hcp _ u0]
          simp only [nl, fg_0_0 hF3, Option.bind_some, fg_1_4 hF3]
          rfl
        · simp only [m_patch, m_cm, hcurM, Option.bind_some, m_row hP hcur, hdm, if_true, hge, p1, hbad, if_false]
          rw [u3]
  · have hdm : ¬ ms.1 13 = 0 := fun e => hdn (s3.trans e)
    refine ⟨-9, st, ms, I, A, R, Q, ?_, ?_, by omega, by omega, h0⟩
    · simp only [c_PagedValues_patch, fg_0_5 hF, fg_6_8 hF, Option.bind_some, hdn, if_false]
    · simp only [m_patch, m_cm, hcurM, Option.bind_some, m_row hP hcur, hdm, if_false]
end PATCH2
