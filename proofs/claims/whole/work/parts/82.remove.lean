/-! change, remove. -/
section REMOVE
variable {Zd : Nat → Nat} {K : KE} {st : CS} {ms : MS} {q : Nat → Nat} {cw : Nat} {I : Nat → Int32} {A : Nat → Nat → Int32} {R : Nat → Option Nat} {Q : Nat → Nat → Option Nat}
theorem Rv.m (h : Rv Zd K st ms q cw I A R Q) (hdn : I 11 = 0) : Rm Zd K st ms q cw I A R Q := by
  obtain ⟨hF, hw, ⟨t1, t2, t3, t4⟩, hS, hP, hk, hd, hr, ho, hb, hz⟩ := h
  exact ⟨hF, hw, ⟨t1, t3, t4, fun _ => t2, fun e => absurd (hdn.symm.trans e) (by decide)⟩, hS, hP, hk, hd, hr, ho, hb, hz⟩
theorem pv_change (h : Rv Zd K st ms q cw I A R Q) (hdn : I 11 = 0) (hk1 : wk K) {id row : Int32} {r : Option Nat} (id0 : ¬ id < 0) (id8 : ¬ 8 ≤ id) (hr9 : srcOk Zd K st ms r row) : ∃ st1 ms1 I1 A1 Q1 x, c_PagedValues_change Zd K (q 0) id r st = some (x, st1) ∧ m_change id row ms = some (x, ms1) ∧ st1.1 = st.1 ∧ le K st st1 ∧ Rv Zd K st1 ms1 q cw I1 A1 R Q1 ∧ ∀ (c : Nat) (L : List Nd), 1152 ≤ c → rowIs ms c L → rowIs ms1 c L := by
  have hF := h.1
  obtain ⟨st1, ms1, I1, A1, Q1, x, c1, c2, c3, c4, c5, c6⟩ := change_lock (h.m hdn) hdn hk1 id0 id8 hr9
  obtain ⟨hF1, hw1, ⟨t1, t2, t3, t4, t5⟩, ⟨⟨s1, s2, s3⟩, ⟨s4, s5, s6⟩, s7⟩, hP1, hk9, hd1, hr1, ho1, hb1, hz1⟩ := c5
  rcases s4 with e0 | e0
  · have g8 : gI K st1 (q 6) 9 8 = some 0 := by rw [fg_6_8 hF1, e0]
    refine ⟨st1, ms1, I1, A1, Q1, x, ?_, c2, c3, c4, ⟨hF1, hw1, ⟨t1, t4 e0, t2, t3⟩, ⟨⟨s1, s2, s3⟩, ⟨Or.inl e0, s5, s6⟩, s7⟩, hP1, hk9, hd1, hr1, ho1, hb1, hz1⟩, c6⟩
    simp only [c_PagedValues_change, fg_0_5 hF, fo_6 hF, Option.bind_some, c1, fg_0_5 hF1, g8, if_true]
  · have g8 : gI K st1 (q 6) 9 8 = some 1 := by rw [fg_6_8 hF1, e0]
    obtain ⟨st2, e1, e2, hF2⟩ := fw_1_2 hF1 0
    have l2 : le K st1 st2 := by rw [e2]; exact nb_le hz1 (hF1.fl (i := 1) rfl).1 (hF1.fl (i := 1) rfl).2 rfl
    have z2 : Rz K st2 q := by rw [e2]; exact nb_Rz hz1 (hF1.fl (i := 1) rfl).1 (hF1.fl (i := 1) rfl).2 rfl rfl
    refine ⟨st2, ms1, _, A1, Q1, x, ?_, c2, by rw [e2]; exact c3, c4.tr l2, ⟨hF2, by rw [e2]; exact hw1, ⟨t1, (t5 e0).symm, by show 0 ≤ (0 : Int32).toInt; decide, by show (0 : Int32).toInt ≤ 80; decide⟩, ⟨⟨s1, s2, s3⟩, ⟨Or.inr e0, s5, s6⟩, s7⟩, hP1, hk9, hd1.mono l2 ⟨rfl, rfl, rfl, rfl, rfl, rfl⟩ rfl, hr1.mono l2 ⟨rfl, rfl, rfl, rfl, rfl, rfl⟩ rfl rfl rfl rfl, ho1, hb1, z2⟩, c6⟩
    simp only [c_PagedValues_change, fg_0_5 hF, fo_6 hF, Option.bind_some, c1, fg_0_5 hF1, g8, show ¬ ((1 : Int32) = 0) from by decide, if_false, fg_0_0 hF1, fo_1 hF1, c_Text_clear, e1]
theorem sim_remove (h : Rv Zd K st ms q cw I A R Q) (hk1 : wk K) (id : Int32) : ∃ x st1 ms1 I1 A1 Q1, c_PagedValues_remove Zd K (q 0) id st = some (x, st1) ∧ m_remove id ms = some (x, ms1) ∧ st1.1 = st.1 ∧ Rv Zd K st1 ms1 q cw I1 A1 R Q1 := by
  have L := nums
  have h0 := h
  have hF := h.1
  obtain ⟨-, -, -, hS, hP, hk, hd, -⟩ := h
  obtain ⟨hcur, hroot⟩ := cur_ok hS
  have hcurM : rd (ms.2.2.1 15) 2 (curM (ms.2.2.1 16)) = some (A 3 (curM (A 2)).toNatClampNeg) := by
    obtain ⟨-, -, ⟨s7, s8, -, -⟩, -⟩ := hS
    rw [rd_in (curM_in _), ← s8, ← s7]
  have s3 : I 11 = ms.1 13 := hS.1.2.2
  by_cases hdn : I 11 = 0
  · have hdm : ms.1 13 = 0 := s3.symm.trans hdn
    have g8 : gI K st (q 6) 9 8 = some 0 := by rw [fg_6_8 hF, hdn]
    rcases doc_row hP hd hcur id with ⟨e1, e2⟩ | ⟨a, n, e1, e2, e3, e4⟩
    · refine ⟨-1, st, ms, I, A, Q, ?_, ?_, rfl, h0⟩
      · simp only [c_PagedValues_remove, fg_0_5 hF, g8, Option.bind_some, if_true, fo_6 hF, c_cr hF, c_doc hF hP hcur, e1, nl]
      · simp only [m_remove, m_cm, hcurM, Option.bind_some, m_row hP hcur, e2, hdm, if_true, show ¬ ((0 : Int32) ≤ -1) from by decide, if_false]
    · have hid : ¬ id < 0 ∧ ¬ 8 ≤ id := by
        constructor
        · intro e9; unfold docS at e1; rw [if_pos e9] at e1; cases e1
        · intro e9
          unfold docS at e1
          rw [if_pos e9] at e1
          split at e1 <;> cases e1
      obtain ⟨st1, ms1, I1, A1, Q1, x, c1, c2, c3, c4, c5, c6⟩ := pv_change (row := -1) (r := none) h0 hdn hk1 hid.1 hid.2 (Or.inl ⟨rfl, rfl⟩)
      have hge : (0 : Int32) ≤ rowS ms (A 3 (curM (A 2)).toNatClampNeg) id := i32le.mpr (by omega)
      have hF1 := c5.1
      by_cases hx : x = 0
      · obtain ⟨hcur1, hroot1⟩ := cur_ok c5.2.2.2.1
        have hcurM1 : rd (ms1.2.2.1 15) 2 (curM (ms1.2.2.1 16)) = some (A1 3 (curM (A1 2)).toNatClampNeg) := by
          obtain ⟨-, -, ⟨s7, s8, -, -⟩, -⟩ := c5.2.2.2.1
          rw [rd_in (curM_in _), ← s8, ← s7]
        obtain ⟨y, y1, y2⟩ := count_lock (Zd := Zd) (K := K) hF1 c5.2.2.2.2.1 c5.2.2.2.2.2.2.1 hcur1 8 4096 0 0 (by decide) (by decide) (by decide)
        refine ⟨y, st1, ms1, I1, A1, Q1, ?_, ?_, c3, c5⟩
        · simp only [c_PagedValues_remove, fg_0_5 hF, g8, Option.bind_some, if_true, fo_6 hF, c_cr hF, c_doc hF hP hcur, e1, nl, fo_0 hF, c1, hx, fg_0_5 hF1, fo_6 hF1, c_Store_documentCount, y1]
        · simp only [m_remove, m_cm, hcurM, Option.bind_some, m_row hP hcur, hdm, if_true, hge, c2, hx, hcurM1, m_documents, y2]
      · refine ⟨x, st1, ms1, I1, A1, Q1, ?_, ?_, c3, c5⟩
        · simp only [c_PagedValues_remove, fg_0_5 hF, g8, Option.bind_some, if_true, fo_6 hF, c_cr hF, c_doc hF hP hcur, e1, nl, fo_0 hF, c1, hx, if_false]
        · simp only [m_remove, m_cm, hcurM, Option.bind_some, m_row hP hcur, hdm, if_true, hge, c2, hx, if_false]
  · have hdm : ¬ ms.1 13 = 0 := fun e => hdn (s3.trans e)
    refine ⟨-9, st, ms, I, A, Q, ?_, ?_, rfl, h0⟩
    · simp only [c_PagedValues_remove, fg_0_5 hF, fg_6_8 hF, Option.bind_some, hdn, if_false]
    · simp only [m_remove, m_cm, hcurM, Option.bind_some, m_row hP hcur, hdm, if_false]
end REMOVE
