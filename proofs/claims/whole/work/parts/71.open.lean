/-! open. -/
section OPEN
variable {Zd : Nat → Nat} {K : KE} {st : CS} {ms : MS} {q : Nat → Nat} {cw : Nat} {I : Nat → Int32} {A : Nat → Nat → Int32} {R : Nat → Option Nat} {Q : Nat → Nat → Option Nat}
theorem open_lock (hF : Fx st q cw I A R Q) (s7 : A 2 = ms.2.2.1 16) (s8 : A 3 = ms.2.2.1 15) (s9 : A 4 = ms.2.2.1 17) (s10 : A 5 = ms.2.2.1 18) : ∀ (n fuel : Nat) (k : Int32), k.toInt + n = 3 → 0 ≤ k.toInt → n < fuel → (c_Store_openReader_l1 Zd K (q 6) st fuel k = some (.inr 3) ∧ m_open_l1 ms fuel k = some (.inr 3)) ∨ ∃ (j : Int32) (st1 st2 : CS), 0 ≤ j.toInt ∧ j.toInt < 3 ∧ c_Store_openReader_l1 Zd K (q 6) st fuel k = some (.inl (j, st2)) ∧ m_open_l1 ms fuel k = some (.inl (j, (ms.1, ms.2.1, va_up (va_up ms.2.2.1 17 (upd (ms.2.2.1 17) j.toNatClampNeg (vp_nar .boolean 1))) 18 (upd (ms.2.2.1 18) j.toNatClampNeg (A 3 (curM (A 2)).toNatClampNeg)), ms.2.2.2))) ∧ st1 = uC st (q 19) (.inl (3, 3, upd (A 4) j.toNatClampNeg (vp_nar .boolean 1))) ∧ Fx st1 q cw I (va_up A 4 (upd (A 4) j.toNatClampNeg (vp_nar .boolean 1))) R Q ∧ st2 = uC st1 (q 20) (.inl (1, 3, upd (A 5) j.toNatClampNeg (A 3 (curM (A 2)).toNatClampNeg))) ∧ Fx st2 q cw I (va_up (va_up A 4 (upd (A 4) j.toNatClampNeg (vp_nar .boolean 1))) 5 (upd (A 5) j.toNatClampNeg (A 3 (curM (A 2)).toNatClampNeg))) R Q := by
  have L := nums
  intro n
  induction n with
  | zero =>
    intro fuel k h1 h2 h3
    obtain ⟨f, rfl⟩ : ∃ f, fuel = f + 1 := ⟨fuel - 1, by omega⟩
    have hk : k = 3 := i32eq (by omega)
    subst hk
    exact Or.inl ⟨by rw [c_Store_openReader_l1_s, if_pos (show (3 : Int32) ≤ 3 from by decide)], by rw [m_open_l1_s, if_pos (show (3 : Int32) ≤ 3 from by decide)]⟩
  | succ n ih =>
    intro fuel k h1 h2 h3
    obtain ⟨f, rfl⟩ : ∃ f, fuel = f + 1 := ⟨fuel - 1, by omega⟩
    have hk8 : ¬ 3 ≤ k := fun e => by have := i32le.mp e; omega
    have k1 : (k + 1).toInt = k.toInt + 1 := by rw [i32add (by omega) (by omega)]; omega
    have hin : vp_in k 3 := vp_of h2 (by omega)
    by_cases h0 : A 4 k.toNatClampNeg = 0
    · obtain ⟨st1, e1, e2, hF1⟩ := fa_19 hF hin (vp_nar .boolean 1)
      obtain ⟨st2, e3, e4, hF2⟩ := fa_20 hF1 hin (A 3 (curM (A 2)).toNatClampNeg)
      refine Or.inr ⟨k, st1, st2, h2, by omega, ?_, ?_, e2, hF1, e4, hF2⟩
      · rw [c_Store_openReader_l1_s, if_neg hk8]
        have hcr : c_Store_currentRoot Zd K (q 6) st1 = some (A 3 (curM (A 2)).toNatClampNeg) := by
          rw [c_cr hF1]; rfl
        simp only [fg_6_3 hF, Option.bind_some, fr_19 hF hin, h0, if_true, e1, fg_6_4 hF1, fo_6 hF1, hcr, e3]
      · rw [m_open_l1_s, if_neg hk8]
        have hcm : m_current (ms.1, ms.2.1, va_up ms.2.2.1 17 (upd (ms.2.2.1 17) k.toNatClampNeg (vp_nar .boolean 1)), ms.2.2.2) = some (curM (A 2)) := by
          rw [m_cm, s7]; rfl
        simp only [rd_in hin, ix_in hin, ← s9, h0, if_true, Option.bind_some] at hcm ⊢
        rw [hcm]
        simp only [Option.bind_some, rd_in (curM_in _), ← s8]
    · rcases ih f (k + 1) (by omega) (by omega) (by omega) with ⟨i1, i2⟩ | ⟨j, st1, st2, j1, j2, i1, i2, i3⟩
      · left
        refine ⟨?_, ?_⟩
        · rw [c_Store_openReader_l1_s, if_neg hk8]
          simp only [fg_6_3 hF, Option.bind_some, fr_19 hF hin, h0, if_false]
          exact i1
        · rw [m_open_l1_s, if_neg hk8]
          simp only [rd_in hin, ← s9, h0, if_false, Option.bind_some]
          exact i2
      · right
        refine ⟨j, st1, st2, j1, j2, ?_, ?_, i3⟩
        · rw [c_Store_openReader_l1_s, if_neg hk8]
          simp only [fg_6_3 hF, Option.bind_some, fr_19 hF hin, h0, if_false]
          exact i1
        · rw [m_open_l1_s, if_neg hk8, rd_in hin, Option.bind_some, ← s9, if_neg h0]
          rw [s9]
          exact i2
theorem sim_open (h : Rv Zd K st ms q cw I A R Q) : ∃ x st1 ms1 A1, c_PagedValues_open Zd K (q 0) st = some (x, st1) ∧ m_open ms = some (x, ms1) ∧ st1.1 = st.1 ∧ Rv Zd K st1 ms1 q cw I A1 R Q := by
  have h0 := h
  obtain ⟨hF, hw, hT, ⟨⟨s1, s2, s3⟩, ⟨s4, s5, s6⟩, ⟨s7, s8, s9, s10⟩, s11, s12, s13⟩, hP, hk, hd, hr, ho, hb, hz⟩ := h
  by_cases hdn : I 11 = 0
  · have hdm : ms.1 13 = 0 := s3.symm.trans hdn
    rcases open_lock (Zd := Zd) (K := K) hF s7 s8 s9 s10 3 4096 0 (by decide) (by decide) (by decide) with ⟨i1, i2⟩ | ⟨j, st1, st2, j1, j2, i1, i2, e2, hF1, e4, hF2⟩
    · refine ⟨-1, st, ms, A, ?_, ?_, rfl, h0⟩
      · simp only [c_PagedValues_open, fg_0_5 hF, fg_6_8 hF, Option.bind_some, hdn, if_true, fo_6 hF, c_Store_openReader, i1]
      · simp only [m_open, hdm, if_true, i2, Option.bind_some]
    · have hle1 : le K st st1 := by rw [e2]; exact nb_le hz (hF.fl (i := 19) rfl).1 (hF.fl (i := 19) rfl).2 rfl
      have hz1 : Rz K st1 q := by rw [e2]; exact nb_Rz hz (hF.fl (i := 19) rfl).1 (hF.fl (i := 19) rfl).2 rfl rfl
      have hle2 : le K st1 st2 := by rw [e4]; exact nb_le hz1 (hF1.fl (i := 20) rfl).1 (hF1.fl (i := 20) rfl).2 rfl
      have hz2 : Rz K st2 q := by rw [e4]; exact nb_Rz hz1 (hF1.fl (i := 20) rfl).1 (hF1.fl (i := 20) rfl).2 rfl rfl
      have hcr : pgr (A 3 (curM (A 2)).toNatClampNeg) ∧ ∃ k, k < 2 ∧ A 3 (curM (A 2)).toNatClampNeg = A 3 k := by
        rcases curM_or (A 2) with e | e <;> rw [e]
        · exact ⟨s12 0 (by decide), 0, by decide, rfl⟩
        · exact ⟨s12 1 (by decide), 1, by decide, rfl⟩
      refine ⟨j, st2, (ms.1, ms.2.1, va_up (va_up ms.2.2.1 17 (upd (ms.2.2.1 17) j.toNatClampNeg (vp_nar .boolean 1))) 18 (upd (ms.2.2.1 18) j.toNatClampNeg (A 3 (curM (A 2)).toNatClampNeg)), ms.2.2.2), _, ?_, ?_, by rw [e4, e2]; rfl, hF2, by rw [e4, e2]; exact hw, hT, ⟨⟨s1, s2, s3⟩, ⟨s4, s5, s6⟩, ⟨s7, s8, ?_, ?_⟩, ?_, s12, ?_⟩, hP.mono (fun i hi => (va_up_ne _ _ (by omega)).trans (va_up_ne _ _ (by omega))) rfl, ?_, hd.mono (hle1.tr hle2) ⟨rfl, rfl, rfl, rfl, rfl, rfl⟩ rfl, hr.mono (hle1.tr hle2) ⟨rfl, rfl, rfl, rfl, rfl, rfl⟩ rfl rfl rfl rfl, ho, hb, hz2⟩
      · simp only [c_PagedValues_open, fg_0_5 hF, fg_6_8 hF, Option.bind_some, hdn, if_true, fo_6 hF, c_Store_openReader, i1]
      · simp only [m_open, hdm, if_true, i2, Option.bind_some]
      · show upd (A 4) _ _ = upd _ _ _
        rw [s9]
      · show upd (A 5) _ _ = upd _ _ _
        rw [s10]
      · intro k hk9
        show upd (A 4) _ _ k = 0 ∨ upd (A 4) _ _ k = 1
        unfold upd
        by_cases e : k = j.toNatClampNeg
        · rw [if_pos e]; exact Or.inr (by decide)
        · rw [if_neg e]; exact s11 k hk9
      · intro k hk9
        show pgr (upd (A 5) _ _ k)
        unfold upd
        by_cases e : k = j.toNatClampNeg
        · rw [if_pos e]; exact hcr.1
        · rw [if_neg e]; exact s13 k hk9
      · intro x hx hx0
        refine hk x ?_ hx0
        rcases hx with hx | ⟨k, k1, k2, k3⟩
        · exact Or.inl hx
        · have k3 : x = upd (ms.2.2.1 18) j.toNatClampNeg (A 3 (curM (A 2)).toNatClampNeg) k := k3
          have k2 : upd (ms.2.2.1 17) j.toNatClampNeg (vp_nar .boolean 1) k ≠ 0 := k2
          unfold upd at k2 k3
          by_cases e : k = j.toNatClampNeg
          · rw [if_pos e] at k3
            obtain ⟨-, i, hi, hi2⟩ := hcr
            exact Or.inl ⟨i, hi, by rw [k3, hi2, s8]⟩
          · rw [if_neg e] at k2 k3
            exact Or.inr ⟨k, k1, k2, k3⟩
  · have hdm : ¬ ms.1 13 = 0 := fun e => hdn (s3.trans e)
    refine ⟨-9, st, ms, A, ?_, ?_, rfl, h0⟩
    · simp only [c_PagedValues_open, fg_0_5 hF, fg_6_8 hF, Option.bind_some, hdn, if_false]
    · simp only [m_open, hdm, if_false]
end OPEN
