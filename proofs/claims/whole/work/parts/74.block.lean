/-! A block counted. -/
def Rt2 (I : Nat → Int32) (A : Nat → Nat → Int32) (ms : MS) : Prop := A 0 = ms.2.2.1 0 ∧ 0 ≤ (I 0).toInt ∧ (I 0).toInt ≤ 80 ∧ (I 11 = 0 → I 0 = ms.1 0) ∧ (I 11 = 1 → ms.1 0 = 0)
/-- as Rv, but the text is emptied later where a stop came -/
def Rm (Zd : Nat → Nat) (K : KE) (st : CS) (ms : MS) (q : Nat → Nat) (cw : Nat) (I : Nat → Int32) (A : Nat → Nat → Int32) (R : Nat → Option Nat) (Q : Nat → Nat → Option Nat) : Prop := Fx st q cw I A R Q ∧ wf K st ∧ Rt2 I A ms ∧ Rs I A ms ∧ Rp A ms ∧ Rk ms ∧ Rd Zd K st Q ms ∧ Rr Zd K st I A Q ms ∧ Ro cw I A ms ∧ Rw I A ∧ Rz K st q
section BLOCK
variable {Zd : Nat → Nat} {K : KE} {st : CS} {ms : MS} {q : Nat → Nat} {cw : Nat} {I : Nat → Int32} {A : Nat → Nat → Int32} {R : Nat → Option Nat} {Q : Nat → Nat → Option Nat}
theorem c_stop (hF : Fx st q cw I A R Q) (hz : Rz K st q) (hw : wf K st) : ∃ st1, c_Store_stop Zd K (q 6) st = some st1 ∧ st1.1 = st.1 ∧ le K st st1 ∧ Rz K st1 q ∧ wf K st1 ∧ Fx st1 q cw (upd I 11 1) (va_up (va_up (va_up A 4 (upd (A 4) 0 0)) 4 (upd (upd (A 4) 0 0) 1 0)) 4 (upd (upd (upd (A 4) 0 0) 1 0) 2 0)) R Q := by
  have v0 : vp_nar .boolean 0 = 0 := by decide
  obtain ⟨s1, e1, f1, hF1⟩ := fw_6_8 hF 1
  have i0 : vp_in 0 3 := by unfold vp_in; decide
  have i1 : vp_in (0 + 1) 3 := by unfold vp_in; decide
  have i2 : vp_in (0 + 1 + 1) 3 := by unfold vp_in; decide
  obtain ⟨s2, e2, f2, hF2⟩ := fa_19 hF1 i0 0
  obtain ⟨s3, e3, f3, hF3⟩ := fa_19 hF2 i1 0
  obtain ⟨s4, e4, f4, hF4⟩ := fa_19 hF3 i2 0
  have l1 : le K st s1 := by rw [f1]; exact nb_le hz (hF.fl (i := 6) rfl).1 (hF.fl (i := 6) rfl).2 rfl
  have z1 : Rz K s1 q := by rw [f1]; exact nb_Rz hz (hF.fl (i := 6) rfl).1 (hF.fl (i := 6) rfl).2 rfl rfl
  have l2 : le K s1 s2 := by rw [f2]; exact nb_le z1 (hF1.fl (i := 19) rfl).1 (hF1.fl (i := 19) rfl).2 rfl
  have z2 : Rz K s2 q := by rw [f2]; exact nb_Rz z1 (hF1.fl (i := 19) rfl).1 (hF1.fl (i := 19) rfl).2 rfl rfl
  have l3 : le K s2 s3 := by rw [f3]; exact nb_le z2 (hF2.fl (i := 19) rfl).1 (hF2.fl (i := 19) rfl).2 rfl
  have z3 : Rz K s3 q := by rw [f3]; exact nb_Rz z2 (hF2.fl (i := 19) rfl).1 (hF2.fl (i := 19) rfl).2 rfl rfl
  have l4 : le K s3 s4 := by rw [f4]; exact nb_le z3 (hF3.fl (i := 19) rfl).1 (hF3.fl (i := 19) rfl).2 rfl
  have z4 : Rz K s4 q := by rw [f4]; exact nb_Rz z3 (hF3.fl (i := 19) rfl).1 (hF3.fl (i := 19) rfl).2 rfl rfl
  refine ⟨s4, ?_, by rw [f4, f3, f2, f1]; rfl, l1.tr (l2.tr (l3.tr l4)), z4, by rw [f4, f3, f2, f1]; exact hw, hF4⟩
  simp only [c_Store_stop, e1, Option.bind_some]
  rw [show (4096 : Nat) = 4092 + 1 + 1 + 1 + 1 from rfl, c_Store_stop_l1_s, if_neg (show ¬ (3 : Int32) ≤ 0 from by decide)]
  simp only [fg_6_3 hF1, Option.bind_some, v0, e2]
  rw [c_Store_stop_l1_s, if_neg (show ¬ (3 : Int32) ≤ 0 + 1 from by decide)]
  simp only [fg_6_3 hF2, Option.bind_some, v0, e3]
  rw [c_Store_stop_l1_s, if_neg (show ¬ (3 : Int32) ≤ 0 + 1 + 1 from by decide)]
  simp only [fg_6_3 hF3, Option.bind_some, v0, e4]
  rw [c_Store_stop_l1_s, if_pos (show (3 : Int32) ≤ 0 + 1 + 1 + 1 from by decide)]
  rfl
theorem m_stop (mk : MS) : m_block_l1 4096 (0, mk) = some (0 + 1 + 1 + 1, (mk.1, mk.2.1, va_up (va_up (va_up mk.2.2.1 17 (upd (mk.2.2.1 17) 0 0)) 17 (upd (upd (mk.2.2.1 17) 0 0) 1 0)) 17 (upd (upd (upd (mk.2.2.1 17) 0 0) 1 0) 2 0), mk.2.2.2)) := by
  have v0 : vp_nar .boolean 0 = 0 := by decide
  have i0 : vp_in 0 3 := by unfold vp_in; decide
  have i1 : vp_in (0 + 1) 3 := by unfold vp_in; decide
  have i2 : vp_in (0 + 1 + 1) 3 := by unfold vp_in; decide
  rw [show (4096 : Nat) = 4092 + 1 + 1 + 1 + 1 from rfl, m_block_l1_s, if_neg (show ¬ (3 : Int32) ≤ 0 from by decide)]
  simp only [ix_in i0, Option.bind_some, v0]
  rw [m_block_l1_s, if_neg (show ¬ (3 : Int32) ≤ 0 + 1 from by decide)]
  simp only [ix_in i1, Option.bind_some, v0]
  rw [m_block_l1_s, if_neg (show ¬ (3 : Int32) ≤ 0 + 1 + 1 from by decide)]
  simp only [ix_in i2, Option.bind_some, v0]
  rw [m_block_l1_s, if_pos (show (3 : Int32) ≤ 0 + 1 + 1 + 1 from by decide)]
  rfl
/-- what a counted block leaves -/
def bk (ms ms1 : MS) (A A1 : Nat → Nat → Int32) : Prop := ms1.2.1 = ms.2.1 ∧ ms1.2.2.2 = ms.2.2.2 ∧ (∀ k, k ≠ 17 → ms1.2.2.1 k = ms.2.2.1 k) ∧ (∀ k, k ≠ 4 → A1 k = A k) ∧ ms1.1 11 = ms.1 11 ∧ ms1.1 10 = ms.1 10 ∧ ∀ k, ms1.2.2.1 17 k ≠ 0 → ms.2.2.1 17 k ≠ 0
theorem block_lock (h : Rm Zd K st ms q cw I A R Q) (hdn : I 11 = 0) : ∃ st1 ms1 I1 A1 x, c_Store_countBlock Zd K (q 6) st = some st1 ∧ m_block ms = some (x, ms1) ∧ st1.1 = st.1 ∧ le K st st1 ∧ Rm Zd K st1 ms1 q cw I1 A1 R Q ∧ bk ms ms1 A A1 ∧ ((x = 1 ∧ I1 11 = 0) ∨ (x = 0 ∧ I1 11 = 1)) := by
  have L := nums
  obtain ⟨hF, hw, ⟨t1, t2, t3, t4, t5⟩, ⟨⟨s1, s2, s3⟩, ⟨s4, s5, s6⟩, ⟨s7, s8, s9, s10⟩, s11, s12, s13⟩, hP, hk, hd, hr, ho, hb, hz⟩ := h
  obtain ⟨a1, e1, f1, hF1⟩ := fw_6_6 hF (I 9 + 1)
  have l1 : le K st a1 := by rw [f1]; exact nb_le hz (hF.fl (i := 6) rfl).1 (hF.fl (i := 6) rfl).2 rfl
  have z1 : Rz K a1 q := by rw [f1]; exact nb_Rz hz (hF.fl (i := 6) rfl).1 (hF.fl (i := 6) rfl).2 rfl rfl
  have w1 : wf K a1 := by rw [f1]; exact hw
  have g1 : gI K a1 (q 6) 9 7 = some (I 10) := by rw [fg_6_7 hF1]; rfl
  by_cases c0 : I 10 ≤ 0
  · have h10 : I 10 = 0 := i32eq (by have := i32le.mp c0; omega)
    have c0m : ms.1 12 ≤ 0 := by rw [← s2]; exact c0
    refine ⟨a1, (upd (upd ms.1 14 (I 9 + 1)) 12 0, ms.2.1, ms.2.2.1, ms.2.2.2), _, A, 1, ?_, ?_, by rw [f1]; rfl, l1, ⟨hF1, w1, ⟨t1, t2, t3, t4, t5⟩, ⟨⟨rfl, h10, s3⟩, ⟨s4, s5, s6⟩, ⟨s7, s8, s9, s10⟩, s11, s12, s13⟩, hP, hk, hd.mono l1 ⟨rfl, rfl, rfl, rfl, rfl, rfl⟩ rfl, hr.mono l1 ⟨rfl, rfl, rfl, rfl, rfl, rfl⟩ rfl rfl rfl rfl, ho, hb, z1⟩, ⟨rfl, rfl, fun _ _ => rfl, fun _ _ => rfl, rfl, rfl, fun _ h9 => h9⟩, Or.inl ⟨rfl, hdn⟩⟩
    · simp only [c_Store_countBlock, fg_6_6 hF, Option.bind_some, e1, g1, c0, if_true]
    · simp only [m_block, c0m, if_true, Option.bind_some, show ¬ ((-1 : Int32) = 0) from by decide, if_false, show ¬ ((0 : Int32) ≤ -1) from by decide, bz, ← s1]
      rfl
  · have c0m : ¬ ms.1 12 ≤ 0 := by rw [← s2]; exact c0
    have p10 : 1 ≤ (I 10).toInt := by
      have : ¬ (I 10).toInt ≤ (0 : Int32).toInt := fun e => c0 (i32le.mpr e)
      omega
    have m10 : (I 10 - 1).toInt = (I 10).toInt - 1 := by rw [i32sub (by omega) (by omega)]; omega
    obtain ⟨a2, e2, f2, hF2⟩ := fw_6_7 hF1 (I 10 - 1)
    have l2 : le K a1 a2 := by rw [f2]; exact nb_le z1 (hF1.fl (i := 6) rfl).1 (hF1.fl (i := 6) rfl).2 rfl
    have z2 : Rz K a2 q := by rw [f2]; exact nb_Rz z1 (hF1.fl (i := 6) rfl).1 (hF1.fl (i := 6) rfl).2 rfl rfl
    have w2 : wf K a2 := by rw [f2]; exact w1
    have g2 : gI K a2 (q 6) 9 7 = some (I 10 - 1) := by rw [fg_6_7 hF2]; rfl
    have p0 : (0 : Int32) ≤ I 10 - 1 := i32le.mpr (by omega)
    by_cases c1 : I 10 - 1 = 0
    · obtain ⟨a3, e3, f3, l3, z3, w3, hF3⟩ := c_stop (Zd := Zd) hF2 z2 w2
      refine ⟨a3, (upd (upd (upd (upd ms.1 14 (I 9 + 1)) 12 (I 10 - 1)) 13 1) 0 0, ms.2.1, va_up (va_up (va_up ms.2.2.1 17 (upd (ms.2.2.1 17) 0 0)) 17 (upd (upd (ms.2.2.1 17) 0 0) 1 0)) 17 (upd (upd (upd (ms.2.2.1 17) 0 0) 1 0) 2 0), ms.2.2.2), _, _, 0, ?_, ?_, by rw [f3, f2, f1]; rfl, l1.tr (l2.tr l3), ⟨hF3, w3, ⟨t1, t2, t3, ?_, fun _ => rfl⟩, ⟨⟨rfl, rfl, rfl⟩, ⟨Or.inr rfl, ?_, ?_⟩, ⟨s7, s8, ?_, s10⟩, ?_, s12, s13⟩, hP.mono (fun j hj => (va_up_ne _ _ (by omega)).trans ((va_up_ne _ _ (by omega)).trans (va_up_ne _ _ (by omega)))) rfl, ?_, hd.mono (l1.tr (l2.tr l3)) ⟨rfl, rfl, rfl, rfl, rfl, rfl⟩ rfl, hr.mono (l1.tr (l2.tr l3)) ⟨rfl, rfl, rfl, rfl, rfl, rfl⟩ rfl rfl rfl rfl, ho, hb, z3⟩, ⟨rfl, rfl, ?_, ?_, rfl, rfl, ?_⟩, Or.inr ⟨rfl, rfl⟩⟩
      · have g2' : gI K a2 (q 6) 9 7 = some 0 := by rw [g2, c1]
        have e2' : sF a1 (q 6) 9 7 (.int 0) = some a2 := by rw [← c1]; exact e2
        simp only [c_Store_countBlock, fg_6_6 hF, Option.bind_some, e1, g1, c0, if_false, c1, e2', g2', if_true, fo_6 hF2, e3]
      · simp only [m_block, ← s1, ← s2, c0, if_false, Option.bind_some, c1, if_true, show (0 : Int32) ≤ 0 from by decide, show ¬ ((1 : Int32) = 0) from by decide, m_stop, bz]
        rfl
      · intro e; exact absurd e (show ¬ ((1 : Int32) = 0) from by decide)
      · show 0 ≤ (I 10 - 1).toInt
        omega
      · show (I 10 - 1).toInt ≤ 20
        omega
      · show upd (upd (upd (A 4) 0 0) 1 0) 2 0 = upd (upd (upd _ 0 0) 1 0) 2 0
        rw [s9]
      · intro k hk9
        left
        rcases (show k = 0 ∨ k = 1 ∨ k = 2 by omega) with rfl | rfl | rfl <;> rfl
      · intro x hx hx0
        refine hk x ?_ hx0
        rcases hx with hx | ⟨k, k1, k2, -⟩
        · exact Or.inl hx
        · exfalso
          apply k2
          rcases (show k = 0 ∨ k = 1 ∨ k = 2 by omega) with rfl | rfl | rfl <;> rfl
      · intro k hk9
        show va_up (va_up (va_up _ _ _) _ _) _ _ k = _
        rw [va_up_ne _ _ hk9, va_up_ne _ _ hk9, va_up_ne _ _ hk9]
      · intro k hk9
        rw [va_up_ne _ _ hk9, va_up_ne _ _ hk9, va_up_ne _ _ hk9]
      · intro k h9 h8
        apply h9
        show upd (upd (upd (ms.2.2.1 17) 0 0) 1 0) 2 0 k = 0
        unfold upd
        by_cases e2 : k = 2
        · rw [if_pos e2]
        · rw [if_neg e2]
          by_cases e1 : k = 1
          · rw [if_pos e1]
          · rw [if_neg e1]
            by_cases e0 : k = 0
            · rw [if_pos e0]
            · rw [if_neg e0]; exact h8
    · refine ⟨a2, (upd (upd ms.1 14 (I 9 + 1)) 12 (I 10 - 1), ms.2.1, ms.2.2.1, ms.2.2.2), _, A, 1, ?_, ?_, by rw [f2, f1]; rfl, l1.tr l2, ⟨hF2, w2, ⟨t1, t2, t3, t4, t5⟩, ⟨⟨rfl, rfl, s3⟩, ⟨s4, ?_, ?_⟩, ⟨s7, s8, s9, s10⟩, s11, s12, s13⟩, hP, hk, hd.mono (l1.tr l2) ⟨rfl, rfl, rfl, rfl, rfl, rfl⟩ rfl, hr.mono (l1.tr l2) ⟨rfl, rfl, rfl, rfl, rfl, rfl⟩ rfl rfl rfl rfl, ho, hb, z2⟩, ⟨rfl, rfl, fun _ _ => rfl, fun _ _ => rfl, rfl, rfl, fun _ h9 => h9⟩, Or.inl ⟨rfl, hdn⟩⟩
      · simp only [c_Store_countBlock, fg_6_6 hF, Option.bind_some, e1, g1, c0, if_false, e2, g2, c1]
      · simp only [m_block, ← s1, ← s2, c0, if_false, Option.bind_some, c1, p0, if_true, bz]
        rfl
      · show 0 ≤ (I 10 - 1).toInt
        omega
      · show (I 10 - 1).toInt ≤ 20
        omega
end BLOCK
