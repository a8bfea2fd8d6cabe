theorem m_within_1 {a lo hi : Int32} (h1 : ¬ a < lo) (h2 : ¬ hi < a) : m_within a lo hi = some 1 := by
  simp only [m_within, h1, h2, if_false, Option.bind_some, bz]
  rfl
theorem m_within_0 {a lo hi : Int32} (h : a < lo ∨ hi < a) : m_within a lo hi = some 0 := by
  by_cases h1 : a < lo
  · simp only [m_within, h1, if_true, Option.bind_some, bz]
    rfl
  · have h2 := h.resolve_left h1
    simp only [m_within, h1, h2, if_false, if_true, Option.bind_some, bz]
    rfl
def curM (f : Nat → Int32) : Int32 := if f 1 ≤ f 0 then 0 else 1
theorem curM_or (f : Nat → Int32) : curM f = 0 ∨ curM f = 1 := by
  unfold curM
  by_cases h : f 1 ≤ f 0
  · rw [if_pos h]; exact Or.inl rfl
  · rw [if_neg h]; exact Or.inr rfl
theorem curM_in (f : Nat → Int32) : vp_in (curM f) 2 := by
  rcases curM_or f with e | e <;> rw [e] <;> unfold vp_in <;> decide
section SIM
variable {Zd : Nat → Nat} {K : KE} {st : CS} {ms : MS} {q : Nat → Nat} {cw : Nat} {I : Nat → Int32} {A : Nat → Nat → Int32} {R : Nat → Option Nat} {Q : Nat → Nat → Option Nat}
theorem c_cm (hF : Fx st q cw I A R Q) : c_Store_currentMeta Zd K (q 6) st = some (curM (A 2)) := by
  simp only [c_Store_currentMeta, fg_6_1 hF, Option.bind_some, fr_17 hF (i := 1) (by unfold vp_in; decide), fr_17 hF (i := 0) (by unfold vp_in; decide)]
  unfold curM
  by_cases h : A 2 1 ≤ A 2 0
  · rw [if_pos h, if_pos (show A 2 (1 : Int32).toNatClampNeg ≤ A 2 (0 : Int32).toNatClampNeg from h)]; rfl
  · rw [if_neg h, if_neg (show ¬ A 2 (1 : Int32).toNatClampNeg ≤ A 2 (0 : Int32).toNatClampNeg from h)]; rfl
theorem c_cr (hF : Fx st q cw I A R Q) : c_Store_currentRoot Zd K (q 6) st = some (A 3 (curM (A 2)).toNatClampNeg) := by
  simp only [c_Store_currentRoot, fg_6_2 hF, fo_6 hF, Option.bind_some, c_cm hF, fr_18 hF (curM_in _)]
theorem m_cm : m_current ms = some (curM (ms.2.2.1 16)) := by
  simp only [m_current, rd]
  rw [if_neg (by decide), if_neg (by decide)]
  simp only [Option.bind_some]
  unfold curM
  by_cases h : ms.2.2.1 16 1 ≤ ms.2.2.1 16 0
  · rw [if_pos h, if_pos (show ms.2.2.1 16 (1 : Int32).toNatClampNeg ≤ ms.2.2.1 16 (0 : Int32).toNatClampNeg from h)]; rfl
  · rw [if_neg h, if_neg (show ¬ ms.2.2.1 16 (1 : Int32).toNatClampNeg ≤ ms.2.2.1 16 (0 : Int32).toNatClampNeg from h)]; rfl
theorem rd_in {α : Type} {f : Nat → α} {n : Nat} {i : Int32} (h : vp_in i n) : rd f n i = some (f i.toNatClampNeg) := by
  unfold rd
  rw [if_neg h]
theorem ix_in {n : Nat} {i : Int32} (h : vp_in i n) : ix n i = some i.toNatClampNeg := by
  unfold ix
  rw [if_neg h]
theorem sim_fuse (h : Rv Zd K st ms q cw I A R Q) (k : Int32) : ∃ r st1 ms1 I1, c_PagedValues_fuse Zd K (q 0) k st = some (r, st1) ∧ m_fuse k ms = some (r, ms1) ∧ st1.1 = st.1 ∧ Rv Zd K st1 ms1 q cw I1 A R Q := by
  have h0 := h
  obtain ⟨hF, hw, hT, ⟨⟨s1, s2, s3⟩, ⟨s4, s5, s6⟩, ⟨s7, s8, s9, s10⟩, s11, s12, s13⟩, hP, hk, hd, hr, ho, hb, hz⟩ := h
  by_cases hdn : I 11 = 0
  · have hdm : ms.1 13 = 0 := s3.symm.trans hdn
    by_cases h1 : k < 1
    · refine ⟨0, st, ms, I, ?_, ?_, rfl, h0⟩
      · simp only [c_PagedValues_fuse, fg_0_5 hF, fg_6_8 hF, Option.bind_some, hdn, if_true, h1]
      · simp only [m_fuse, hdm, if_true, m_within_0 (Or.inl h1), Option.bind_some]
    · by_cases h2 : k ≤ 20
      · obtain ⟨st1, e1, e2, hF1⟩ := fw_6_7 hF k
        have hle1 : le K st st1 := by rw [e2]; exact nb_le hz (hF.fl (i := 6) rfl).1 (hF.fl (i := 6) rfl).2 rfl
        have hz1 : Rz K st1 q := by rw [e2]; exact nb_Rz hz (hF.fl (i := 6) rfl).1 (hF.fl (i := 6) rfl).2 rfl rfl
        have hk1 : ¬ 20 < k := by
          have h9 := Int32.le_iff_toInt_le.mp h2
          intro h8
          have h8 := Int32.lt_iff_toInt_lt.mp h8
          omega
        refine ⟨1, st1, (upd ms.1 12 k, ms.2.1, ms.2.2.1, ms.2.2.2), _, ?_, ?_, by rw [e2]; rfl, hF1, by rw [e2]; exact hw, hT, ?_, hP, hk, ?_, ?_, ho, hb, hz1⟩
        · simp only [c_PagedValues_fuse, fg_0_5 hF, fg_6_8 hF, Option.bind_some, hdn, if_true, h1, h2, if_false, e1]
        · simp only [m_fuse, hdm, if_true, m_within_1 h1 hk1, Option.bind_some, show ¬ ((1 : Int32) = 0) from by decide, if_false]
        · have h9 := Int32.le_iff_toInt_le.mp h2
          have h8 : ¬ k.toInt < (1 : Int32).toInt := fun e => h1 (Int32.lt_iff_toInt_lt.mpr e)
          rw [i32_1] at h8
          have h7 : (20 : Int32).toInt = 20 := by decide
          exact ⟨⟨s1, rfl, s3⟩, ⟨s4, by show 0 ≤ k.toInt; omega, by show k.toInt ≤ 20; omega⟩, ⟨s7, s8, s9, s10⟩, s11, s12, s13⟩
        · exact hd.mono hle1 ⟨rfl, rfl, rfl, rfl, rfl, rfl⟩ rfl
        · exact hr.mono hle1 ⟨rfl, rfl, rfl, rfl, rfl, rfl⟩ rfl rfl rfl rfl
      · refine ⟨0, st, ms, I, ?_, ?_, rfl, h0⟩
        · simp only [c_PagedValues_fuse, fg_0_5 hF, fg_6_8 hF, Option.bind_some, hdn, if_true, h1, h2, if_false]
        · have hk1 : 20 < k := Int32.lt_iff_toInt_lt.mpr (by
            have h9 : ¬ k.toInt ≤ (20 : Int32).toInt := fun e => h2 (Int32.le_iff_toInt_le.mpr e)
            omega)
          simp only [m_fuse, hdm, if_true, m_within_0 (Or.inr hk1), Option.bind_some]
  · have hdm : ¬ ms.1 13 = 0 := fun e => hdn (s3.trans e)
    refine ⟨0, st, ms, I, ?_, ?_, rfl, h0⟩
    · simp only [c_PagedValues_fuse, fg_0_5 hF, fg_6_8 hF, Option.bind_some, hdn, if_false]
    · simp only [m_fuse, hdm, if_false, Option.bind_some]
theorem sim_restart (h : Rv Zd K st ms q cw I A R Q) : ∃ r st1 ms1 I1, c_PagedValues_restart Zd K (q 0) st = some (r, st1) ∧ m_restart ms = some (r, ms1) ∧ st1.1 = st.1 ∧ Rv Zd K st1 ms1 q cw I1 A R Q := by
  obtain ⟨hF, hw, hT, ⟨⟨s1, s2, s3⟩, ⟨s4, s5, s6⟩, ⟨s7, s8, s9, s10⟩, s11, s12, s13⟩, hP, hk, hd, hr, ho, hb, hz⟩ := h
  obtain ⟨st1, e1, e2, hF1⟩ := fw_6_8 hF 0
  have hle1 : le K st st1 := by rw [e2]; exact nb_le hz (hF.fl (i := 6) rfl).1 (hF.fl (i := 6) rfl).2 rfl
  have hz1 : Rz K st1 q := by rw [e2]; exact nb_Rz hz (hF.fl (i := 6) rfl).1 (hF.fl (i := 6) rfl).2 rfl rfl
  have hbz : bz (I 11) = some () := by unfold bz; rw [if_pos s4]
  refine ⟨I 11, st1, (upd ms.1 13 0, ms.2.1, ms.2.2.1, ms.2.2.2), _, ?_, ?_, by rw [e2]; rfl, hF1, by rw [e2]; exact hw, hT, ⟨⟨s1, s2, rfl⟩, ⟨Or.inl rfl, s5, s6⟩, ⟨s7, s8, s9, s10⟩, s11, s12, s13⟩, hP, hk, hd.mono hle1 ⟨rfl, rfl, rfl, rfl, rfl, rfl⟩ rfl, hr.mono hle1 ⟨rfl, rfl, rfl, rfl, rfl, rfl⟩ rfl rfl rfl rfl, ho, hb, hz1⟩
  · simp only [c_PagedValues_restart, fg_0_5 hF, fg_6_8 hF, Option.bind_some, e1, hbz]
  · simp only [m_restart, ← s3, hbz, Option.bind_some]
theorem c_isOpen (hF : Fx st q cw I A R Q) (r : Int32) : c_Store_isOpen Zd K (q 6) r st = some (if r < 0 then 0 else if 3 ≤ r then 0 else if A 4 r.toNatClampNeg = 0 then 0 else 1) := by
  by_cases h1 : r < 0
  · simp only [c_Store_isOpen, h1, if_true, Option.bind_some, bz]; rfl
  · by_cases h2 : 3 ≤ r
    · simp only [c_Store_isOpen, h1, h2, if_true, if_false, Option.bind_some, bz]; rfl
    · have hin : vp_in r 3 := vp_of (by
        have h9 : ¬ r.toInt < (0 : Int32).toInt := fun e => h1 (Int32.lt_iff_toInt_lt.mpr e)
        rw [i32_0] at h9; omega) (by
        have h9 : ¬ (3 : Int32).toInt ≤ r.toInt := fun e => h2 (Int32.le_iff_toInt_le.mpr e)
        have h8 : (3 : Int32).toInt = 3 := by decide
        omega)
      by_cases h3 : A 4 r.toNatClampNeg = 0
      · simp only [c_Store_isOpen, h1, h2, h3, if_true, if_false, Option.bind_some, bz, fg_6_3 hF, fr_19 hF hin]; rfl
      · simp only [c_Store_isOpen, h1, h2, h3, if_true, if_false, Option.bind_some, bz, fg_6_3 hF, fr_19 hF hin]; rfl
theorem sim_close (h : Rv Zd K st ms q cw I A R Q) (r : Int32) : ∃ x st1 ms1 A1, c_PagedValues_close Zd K (q 0) r st = some (x, st1) ∧ m_close r ms = some (x, ms1) ∧ st1.1 = st.1 ∧ Rv Zd K st1 ms1 q cw I A1 R Q := by
  have h0 := h
  obtain ⟨hF, hw, hT, ⟨⟨s1, s2, s3⟩, ⟨s4, s5, s6⟩, ⟨s7, s8, s9, s10⟩, s11, s12, s13⟩, hP, hk, hd, hr, ho, hb, hz⟩ := h
  by_cases hdn : I 11 = 0
  · have hdm : ms.1 13 = 0 := s3.symm.trans hdn
    by_cases h1 : r < 0
    · refine ⟨0, st, ms, A, ?_, ?_, rfl, h0⟩
      · simp only [c_PagedValues_close, fg_0_5 hF, fg_6_8 hF, Option.bind_some, hdn, if_true, fo_6 hF, c_Store_closeReader, c_isOpen hF, h1, bz]; rfl
      · simp only [m_close, hdm, if_true, m_within_0 (Or.inl h1), Option.bind_some]
    · by_cases h2 : 3 ≤ r
      · have h2m : 2 < r := Int32.lt_iff_toInt_lt.mpr (by
          have h9 := Int32.le_iff_toInt_le.mp h2
          have h8 : (3 : Int32).toInt = 3 := by decide
          have h7 : (2 : Int32).toInt = 2 := by decide
          omega)
        refine ⟨0, st, ms, A, ?_, ?_, rfl, h0⟩
        · simp only [c_PagedValues_close, fg_0_5 hF, fg_6_8 hF, Option.bind_some, hdn, if_true, fo_6 hF, c_Store_closeReader, c_isOpen hF, h1, h2, if_false, bz]; rfl
        · simp only [m_close, hdm, if_true, m_within_0 (Or.inr h2m), Option.bind_some]
      · have h2m : ¬ 2 < r := fun e => h2 (Int32.le_iff_toInt_le.mpr (by
          have h9 := Int32.lt_iff_toInt_lt.mp e
          have h8 : (3 : Int32).toInt = 3 := by decide
          have h7 : (2 : Int32).toInt = 2 := by decide
          omega))
        have hr3 : r.toInt < 3 := by
          have h9 : ¬ (3 : Int32).toInt ≤ r.toInt := fun e => h2 (Int32.le_iff_toInt_le.mpr e)
          have h8 : (3 : Int32).toInt = 3 := by decide
          omega
        have hr0 : 0 ≤ r.toInt := by
          have h9 : ¬ r.toInt < (0 : Int32).toInt := fun e => h1 (Int32.lt_iff_toInt_lt.mpr e)
          rw [i32_0] at h9; omega
        have hin : vp_in r 3 := vp_of hr0 hr3
        by_cases h3 : A 4 r.toNatClampNeg = 0
        · refine ⟨0, st, ms, A, ?_, ?_, rfl, h0⟩
          · simp only [c_PagedValues_close, fg_0_5 hF, fg_6_8 hF, Option.bind_some, hdn, if_true, fo_6 hF, c_Store_closeReader, c_isOpen hF, h1, h2, h3, if_false, bz]; rfl
          · simp only [m_close, hdm, if_true, m_within_1 h1 h2m, Option.bind_some, rd_in hin, ← s9, h3, show ¬ ((1 : Int32) = 0) from by decide, if_false]
        · obtain ⟨st1, e1, e2, hF1⟩ := fa_19 hF hin (vp_nar .boolean 0)
          have hle1 : le K st st1 := by rw [e2]; exact nb_le hz (hF.fl (i := 19) rfl).1 (hF.fl (i := 19) rfl).2 rfl
          have hz1 : Rz K st1 q := by rw [e2]; exact nb_Rz hz (hF.fl (i := 19) rfl).1 (hF.fl (i := 19) rfl).2 rfl rfl
          refine ⟨1, st1, (ms.1, ms.2.1, va_up ms.2.2.1 17 (upd (ms.2.2.1 17) r.toNatClampNeg (vp_nar .boolean 0)), ms.2.2.2), _, ?_, ?_, by rw [e2]; rfl, hF1, by rw [e2]; exact hw, hT, ⟨⟨s1, s2, s3⟩, ⟨s4, s5, s6⟩, ⟨s7, s8, ?_, s10⟩, ?_, s12, s13⟩, hP.mono (fun j hj => va_up_ne _ _ (by omega)) rfl, ?_, hd.mono hle1 ⟨rfl, rfl, rfl, rfl, rfl, rfl⟩ rfl, hr.mono hle1 ⟨rfl, rfl, rfl, rfl, rfl, rfl⟩ rfl rfl rfl rfl, ho, hb, hz1⟩
          · simp only [c_PagedValues_close, fg_0_5 hF, fg_6_8 hF, Option.bind_some, hdn, if_true, fo_6 hF, c_Store_closeReader, c_isOpen hF, h1, h2, h3, if_false, show ¬ ((1 : Int32) = 0) from by decide, fg_6_3 hF, e1, bz]; rfl
          · simp only [m_close, hdm, if_true, m_within_1 h1 h2m, Option.bind_some, rd_in hin, ix_in hin, ← s9, h3, show ¬ ((1 : Int32) = 0) from by decide, if_false]
          · show upd (A 4) _ _ = upd _ _ _
            rw [s9]
          · intro k hk9
            show upd (A 4) _ _ k = 0 ∨ upd (A 4) _ _ k = 1
            unfold upd
            by_cases e : k = r.toNatClampNeg
            · rw [if_pos e]; exact Or.inl (by decide)
            · rw [if_neg e]; exact s11 k hk9
          · intro x hx hx0
            refine hk x ?_ hx0
            rcases hx with hx | ⟨k, k1, k2, k3⟩
            · exact Or.inl hx
            · refine Or.inr ⟨k, k1, ?_, k3⟩
              intro e
              apply k2
              show upd (ms.2.2.1 17) _ _ k = 0
              unfold upd
              by_cases e9 : k = r.toNatClampNeg
              · rw [if_pos e9]; decide
              · rw [if_neg e9]; exact e
  · have hdm : ¬ ms.1 13 = 0 := fun e => hdn (s3.trans e)
    refine ⟨0, st, ms, A, ?_, ?_, rfl, h0⟩
    · simp only [c_PagedValues_close, fg_0_5 hF, fg_6_8 hF, Option.bind_some, hdn, if_false, bz]; rfl
    · simp only [m_close, hdm, if_false, Option.bind_some]
end SIM
