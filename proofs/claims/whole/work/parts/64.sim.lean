/-! Calls that make nothing: class and model answer alike. -/
section SIM
variable {Zd : Nat → Nat} {K : KE} {st : CS} {ms : MS} {q : Nat → Nat} {cw : Nat} {I : Nat → Int32} {A : Nat → Nat → Int32} {R : Nat → Option Nat} {Q : Nat → Nat → Option Nat}
theorem sim_type (h : Rv Zd K st ms q cw I A R Q) (c : Int32) : ∃ r st1 ms1 I1 A1, c_PagedValues_type Zd K (q 0) c st = some (r, st1) ∧ m_type c ms = some (r, ms1) ∧ st1.1 = st.1 ∧ Rv Zd K st1 ms1 q cw I1 A1 R Q := by
  have h0 := h
  obtain ⟨hF, hw, ⟨t1, t2, t3, t4⟩, ⟨⟨s1, s2, s3⟩, ⟨s4, s5, s6⟩, ⟨s7, s8, s9, s10⟩, s11, s12, s13⟩, hP, hk, hd, hr, ho, hb, hz⟩ := h
  by_cases hdn : I 11 = 0
  · have hdm : ms.1 13 = 0 := s3.symm.trans hdn
    by_cases hl : I 0 = 80
    · have hlm : ms.1 0 = 80 := t2.symm.trans hl
      refine ⟨-1, st, ms, I, A, ?_, ?_, rfl, h0⟩
      · simp only [c_PagedValues_type, fg_0_5 hF, fg_6_8 hF, Option.bind_some, hdn, if_true, fg_0_0 hF, fo_1 hF, c_Text_add, fg_1_2 hF, hl, show ¬ ((80 : Int32) < 80) from by decide, if_false]
      · simp only [m_type, hdm, hlm, if_true, Option.bind_some]
    · have hlm : ¬ ms.1 0 = 80 := fun e => hl (t2.trans e)
      have hlt : I 0 < 80 := by
        rw [Int32.lt_iff_toInt_lt, i32_80]
        have : (I 0).toInt ≠ 80 := fun e => hl (Int32.toInt_inj.mp (by rw [e, i32_80]))
        omega
      have hlt2 := Int32.lt_iff_toInt_lt.mp hlt
      rw [i32_80] at hlt2
      have hin : vp_in (I 0) 80 := vp_of t3 hlt2
      obtain ⟨st1, e1, e2, hF1⟩ := fa_8 hF hin (vp_nar .char c)
      obtain ⟨st2, e3, e4, hF2⟩ := fw_1_2 hF1 (I 0 + 1)
      have hle1 : le K st st1 := by rw [e2]; exact nb_le hz (hF.fl (i := 8) rfl).1 (hF.fl (i := 8) rfl).2 rfl
      have hz1 : Rz K st1 q := by rw [e2]; exact nb_Rz hz (hF.fl (i := 8) rfl).1 (hF.fl (i := 8) rfl).2 rfl rfl
      have hle2 : le K st1 st2 := by rw [e4]; exact nb_le hz1 (hF1.fl (i := 1) rfl).1 (hF1.fl (i := 1) rfl).2 rfl
      have hz2 : Rz K st2 q := by rw [e4]; exact nb_Rz hz1 (hF1.fl (i := 1) rfl).1 (hF1.fl (i := 1) rfl).2 rfl rfl
      have hw2 : wf K st2 := by rw [e4, e2]; exact hw
      refine ⟨I 0 + 1, st2, (upd ms.1 0 (I 0 + 1), ms.2.1, va_up ms.2.2.1 0 (upd (ms.2.2.1 0) (I 0).toNatClampNeg (vp_nar .char c)), ms.2.2.2), _, _, ?_, ?_, ?_, hF2, hw2, ?_, ?_, ?_, ?_, ?_, ?_, ?_, ?_, hz2⟩
      · simp only [c_PagedValues_type, fg_0_5 hF, fg_6_8 hF, Option.bind_some, hdn, if_true, fg_0_0 hF, fo_1 hF, c_Text_add, fg_1_2 hF, hlt, fg_1_0 hF, e1, fg_1_2 hF1, e3, fg_0_0 hF2, fg_1_2 hF2, show ¬ ((1 : Int32) = 0) from by decide, if_false]
        rfl
      · simp only [m_type, hdm, ← t2, hl, if_true, if_false, Option.bind_some, ix]
        rw [if_neg hin]
        rfl
      · rw [e4, e2]; rfl
      · exact ⟨by show upd (A 0) _ _ = upd _ _ _; rw [t1], rfl, by show 0 ≤ (I 0 + 1).toInt; rw [i32add (by rw [i32_1]; omega) (by rw [i32_1]; omega), i32_1]; omega, by show (I 0 + 1).toInt ≤ 80; rw [i32add (by rw [i32_1]; omega) (by rw [i32_1]; omega), i32_1]; omega⟩
      · exact ⟨⟨s1, s2, s3⟩, ⟨s4, s5, s6⟩, ⟨s7, s8, s9, s10⟩, s11, s12, s13⟩
      · exact hP.mono (fun j hj => va_up_ne _ _ (by omega)) rfl
      · exact hk
      · exact hd.mono (hle1.tr hle2) ⟨rfl, rfl, rfl, rfl, rfl, rfl⟩ rfl
      · exact hr.mono (hle1.tr hle2) ⟨rfl, rfl, rfl, rfl, rfl, rfl⟩ rfl rfl rfl rfl
      · exact ho
      · exact hb
  · have hdm : ¬ ms.1 13 = 0 := fun e => hdn (s3.trans e)
    refine ⟨-9, st, ms, I, A, ?_, ?_, rfl, h0⟩
    · simp only [c_PagedValues_type, fg_0_5 hF, fg_6_8 hF, Option.bind_some, hdn, if_false]
    · simp only [m_type, hdm, if_false, Option.bind_some]
end SIM
