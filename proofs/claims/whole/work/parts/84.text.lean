/-! The text read: class and model. -/
def chr (f : Nat → Int32) (len p : Int32) : Int32 := if len ≤ p then -1 else f p.toNatClampNeg
/-- no fault yet, at one place -/
def Tq (I : Nat → Int32) (A : Nat → Nat → Int32) (ms : MS) : Prop := A 0 = ms.2.2.1 0 ∧ I 0 = ms.1 0 ∧ I 1 = ms.1 1 ∧ I 2 = -1 ∧ ms.1 2 = -1 ∧ 0 ≤ (I 1).toInt ∧ (I 1).toInt ≤ (I 0).toInt ∧ (I 0).toInt ≤ 80
def Cx (K : KE) (st : CS) (q : Nat → Nat) (cw : Nat) (I : Nat → Int32) (A : Nat → Nat → Int32) (R : Nat → Option Nat) (Q : Nat → Nat → Option Nat) : Prop := Fx st q cw I A R Q ∧ wf K st ∧ Rz K st q
def stp (K : KE) (st st1 : CS) : Prop := le K st st1 ∧ st1.1 = st.1
theorem stp.tr {K : KE} {st st1 st2 : CS} (h : stp K st st1) (h1 : stp K st1 st2) : stp K st st2 := ⟨h.1.tr h1.1, h1.2.trans h.2⟩
theorem stp.rf (K : KE) (st : CS) : stp K st st := ⟨le.rf K st, rfl⟩
section TEXT
variable {Zd : Nat → Nat} {K : KE} {st : CS} {ms : MS} {q : Nat → Nat} {cw : Nat} {I : Nat → Int32} {A : Nat → Nat → Int32} {R : Nat → Option Nat} {Q : Nat → Nat → Option Nat}
theorem tw3 (h : Cx K st q cw I A R Q) (x : Int32) : ∃ st1, sF st (q 1) 1 3 (.int x) = some st1 ∧ Cx K st1 q cw (upd I 1 x) A R Q ∧ stp K st st1 := by
  obtain ⟨hF, hw, hz⟩ := h
  obtain ⟨s1, e1, f1, hF1⟩ := fw_1_3 hF x
  exact ⟨s1, e1, ⟨hF1, by rw [f1]; exact hw, by rw [f1]; exact nb_Rz hz (hF.fl (i := 1) rfl).1 (hF.fl (i := 1) rfl).2 rfl rfl⟩, by rw [f1]; exact nb_le hz (hF.fl (i := 1) rfl).1 (hF.fl (i := 1) rfl).2 rfl, by rw [f1]; rfl⟩
theorem tw4 (h : Cx K st q cw I A R Q) (x : Int32) : ∃ st1, sF st (q 1) 1 4 (.int x) = some st1 ∧ Cx K st1 q cw (upd I 2 x) A R Q ∧ stp K st st1 := by
  obtain ⟨hF, hw, hz⟩ := h
  obtain ⟨s1, e1, f1, hF1⟩ := fw_1_4 hF x
  exact ⟨s1, e1, ⟨hF1, by rw [f1]; exact hw, by rw [f1]; exact nb_Rz hz (hF.fl (i := 1) rfl).1 (hF.fl (i := 1) rfl).2 rfl rfl⟩, by rw [f1]; exact nb_le hz (hF.fl (i := 1) rfl).1 (hF.fl (i := 1) rfl).2 rfl, by rw [f1]; rfl⟩
theorem c_here (h : Cx K st q cw I A R Q) (h0 : 0 ≤ (I 1).toInt) (h8 : (I 0).toInt ≤ 80) : c_Text_ahead Zd K (q 1) st = some (chr (A 0) (I 0) (I 1)) := by
  have hF := h.1
  unfold chr
  by_cases e : I 0 ≤ I 1
  · simp only [c_Text_ahead, fg_1_3 hF, fg_1_2 hF, Option.bind_some, e, if_true]
  · have h9 : ¬ (I 0).toInt ≤ (I 1).toInt := fun e9 => e (i32le.mpr e9)
    simp only [c_Text_ahead, fg_1_3 hF, fg_1_2 hF, Option.bind_some, e, if_false, fg_1_0 hF, fr_8 hF (vp_of h0 (show (I 1).toInt < (80 : Nat) by omega))]
theorem mh (h : Tq I A ms) : m_here ms = some (chr (A 0) (I 0) (I 1)) := by
  obtain ⟨t1, t2, t3, t4, t5, t6, t7, t8⟩ := h
  rw [t1, t2, t3]
  rw [t3] at t6 t7
  rw [t2] at t7 t8
  unfold chr
  by_cases e : ms.1 0 ≤ ms.1 1
  · simp only [m_here, e, if_true, Option.bind_some]
  · have h9 : ¬ (ms.1 0).toInt ≤ (ms.1 1).toInt := fun e9 => e (i32le.mpr e9)
    simp only [m_here, e, if_false, Option.bind_some, rd_in (vp_of t6 (show (ms.1 1).toInt < (80 : Nat) by omega))]
theorem chr_lt {f : Nat → Int32} {len p c : Int32} (h : chr f len p = c) (c0 : 0 ≤ c.toInt) : ¬ len ≤ p ∧ f p.toNatClampNeg = c ∧ p.toInt < len.toInt := by
  have L := nums
  unfold chr at h
  by_cases e : len ≤ p
  · rw [if_pos e] at h; rw [← h] at c0; omega
  · rw [if_neg e] at h
    exact ⟨e, h, by have h9 : ¬ len.toInt ≤ p.toInt := fun e9 => e (i32le.mpr e9); omega⟩
theorem c_take1 (h : Cx K st q cw I A R Q) (h0 : 0 ≤ (I 1).toInt) (h8 : (I 0).toInt ≤ 80) {c : Int32} (c0 : 0 ≤ c.toInt) (hc : chr (A 0) (I 0) (I 1) = c) : ∃ st1, c_Text_take Zd K (q 1) c st = some (1, st1) ∧ Cx K st1 q cw (upd I 1 (I 1 + 1)) A R Q ∧ stp K st st1 := by
  have hF := h.1
  obtain ⟨e1, e2, e3⟩ := chr_lt hc c0
  obtain ⟨s1, f1, f2, f3⟩ := tw3 h (I 1 + 1)
  refine ⟨s1, ?_, f2, f3⟩
  simp only [c_Text_take, fg_1_3 hF, fg_1_2 hF, Option.bind_some, e1, if_false, fg_1_0 hF, fr_8 hF (vp_of h0 (show (I 1).toInt < (80 : Nat) by omega)), e2, if_true, f1]
theorem c_take0 (h : Cx K st q cw I A R Q) (h0 : 0 ≤ (I 1).toInt) (h8 : (I 0).toInt ≤ 80) {c : Int32} (hc : ¬ chr (A 0) (I 0) (I 1) = c) : c_Text_take Zd K (q 1) c st = some (0, st) := by
  have hF := h.1
  unfold chr at hc
  by_cases e : I 0 ≤ I 1
  · simp only [c_Text_take, fg_1_3 hF, fg_1_2 hF, Option.bind_some, e, if_true]
  · rw [if_neg e] at hc
    have h9 : ¬ (I 0).toInt ≤ (I 1).toInt := fun e9 => e (i32le.mpr e9)
    simp only [c_Text_take, fg_1_3 hF, fg_1_2 hF, Option.bind_some, e, if_false, fg_1_0 hF, fr_8 hF (vp_of h0 (show (I 1).toInt < (80 : Nat) by omega)), hc]
/-- the first fault -/
theorem c_fail1 (h : Cx K st q cw I A R Q) (h2 : I 2 = -1) : ∃ st1, c_Text_fail Zd K (q 1) st = some st1 ∧ Cx K st1 q cw (upd I 2 (I 1)) A R Q ∧ stp K st st1 := by
  have hF := h.1
  obtain ⟨s1, f1, f2, f3⟩ := tw4 h (I 1)
  refine ⟨s1, ?_, f2, f3⟩
  simp only [c_Text_fail, fg_1_4 hF, h2, Option.bind_some, if_true, fg_1_3 hF, f1]
theorem c_fail0 (h : Cx K st q cw I A R Q) (h2 : ¬ I 2 = -1) : c_Text_fail Zd K (q 1) st = some st := by
  have hF := h.1
  simp only [c_Text_fail, fg_1_4 hF, h2, Option.bind_some, if_false]
theorem c_need1 (h : Cx K st q cw I A R Q) (h0 : 0 ≤ (I 1).toInt) (h8 : (I 0).toInt ≤ 80) {c : Int32} (c0 : 0 ≤ c.toInt) (hc : chr (A 0) (I 0) (I 1) = c) : ∃ st1, c_Text_need Zd K (q 1) c st = some (1, st1) ∧ Cx K st1 q cw (upd I 1 (I 1 + 1)) A R Q ∧ stp K st st1 := by
  have hF := h.1
  obtain ⟨s1, f1, f2, f3⟩ := c_take1 (Zd := Zd) h h0 h8 c0 hc
  refine ⟨s1, ?_, f2, f3⟩
  simp only [c_Text_need, fo_1 hF, Option.bind_some, f1, show ¬ ((1 : Int32) = 0) from by decide, if_false, bz]
  rfl
theorem c_need0 (h : Cx K st q cw I A R Q) (h0 : 0 ≤ (I 1).toInt) (h8 : (I 0).toInt ≤ 80) {c : Int32} (hc : ¬ chr (A 0) (I 0) (I 1) = c) (h2 : I 2 = -1) : ∃ st1, c_Text_need Zd K (q 1) c st = some (0, st1) ∧ Cx K st1 q cw (upd I 2 (I 1)) A R Q ∧ stp K st st1 := by
  have hF := h.1
  obtain ⟨s1, f1, f2, f3⟩ := c_fail1 (Zd := Zd) h h2
  refine ⟨s1, ?_, f2, f3⟩
  simp only [c_Text_need, fo_1 hF, Option.bind_some, c_take0 h h0 h8 hc, if_true, f1, bz]
  rfl
theorem m_sees_q (h : Tq I A ms) (c : Int32) : m_sees c ms = some (if chr (A 0) (I 0) (I 1) = c then 1 else 0) := by
  have h5 := h.2.2.2.2.1
  simp only [m_sees, h5, show ¬ ((0 : Int32) ≤ -1) from by decide, if_false, mh h, Option.bind_some]
  by_cases e : chr (A 0) (I 0) (I 1) = c
  · simp only [e, if_true, Option.bind_some, bz]; rfl
  · simp only [e, if_false, Option.bind_some, bz]; rfl
theorem Tq.up (h : Tq I A ms) {p : Int32} (p0 : 0 ≤ p.toInt) (p1 : p.toInt ≤ (I 0).toInt) {J : Nat → Int64} {B : Nat → Nat → Int64} : Tq (upd I 1 p) A (upd ms.1 1 p, J, ms.2.2.1, B) := by
  obtain ⟨t1, t2, t3, t4, t5, t6, t7, t8⟩ := h
  exact ⟨t1, t2, rfl, t4, t5, p0, p1, t8⟩
theorem m_must1 (h : Tq I A ms) {c : Int32} (hc : chr (A 0) (I 0) (I 1) = c) : m_must c ms = some (upd ms.1 1 (I 1 + 1), ms.2.1, ms.2.2.1, ms.2.2.2) := by
  have h5 := h.2.2.2.2.1
  have h3 := h.2.2.1
  simp only [m_must, h5, show ¬ ((0 : Int32) ≤ -1) from by decide, if_false, mh h, Option.bind_some, hc, if_true, ← h3]
theorem m_fault1 (h : Tq I A ms) : m_fault ms = some (upd ms.1 2 (I 1), ms.2.1, ms.2.2.1, ms.2.2.2) := by
  have h5 := h.2.2.2.2.1
  have h3 := h.2.2.1
  simp only [m_fault, h5, show ¬ ((0 : Int32) ≤ -1) from by decide, if_false, Option.bind_some, ← h3]
theorem m_must0 (h : Tq I A ms) {c : Int32} (hc : ¬ chr (A 0) (I 0) (I 1) = c) : m_must c ms = some (upd ms.1 2 (I 1), ms.2.1, ms.2.2.1, ms.2.2.2) := by
  have h5 := h.2.2.2.2.1
  simp only [m_must, h5, show ¬ ((0 : Int32) ≤ -1) from by decide, if_false, mh h, Option.bind_some, hc, m_fault1 h]
theorem m_takes1 (h : Tq I A ms) {c : Int32} (hc : chr (A 0) (I 0) (I 1) = c) : m_takes c ms = some (1, (upd ms.1 1 (I 1 + 1), ms.2.1, ms.2.2.1, ms.2.2.2)) := by
  have h3 := h.2.2.1
  simp only [m_takes, m_sees_q h, hc, if_true, Option.bind_some, show ¬ ((1 : Int32) = 0) from by decide, if_false, bz, ← h3]
  rfl
theorem m_takes0 (h : Tq I A ms) {c : Int32} (hc : ¬ chr (A 0) (I 0) (I 1) = c) : m_takes c ms = some (0, (upd ms.1 1 (I 1), ms.2.1, ms.2.2.1, ms.2.2.2)) := by
  have h3 := h.2.2.1
  simp only [m_takes, m_sees_q h, hc, if_true, Option.bind_some, if_false, bz, ← h3]
  rfl
def isBl (c : Int32) : Prop := c = 32 ∨ c = 9 ∨ c = 10 ∨ c = 13
theorem blank_lock : ∀ (m fuel : Nat) (sk : CS) (Ik : Nat → Int32) (mk : MS), (Ik 0).toInt - (Ik 1).toInt ≤ m → m < fuel → Cx K sk q cw Ik A R Q → Tq Ik A mk → ∃ (p : Int32) (s1 : CS), c_Text_skipBlanks_l1 Zd K (q 1) fuel sk = some s1 ∧ m_blanks_l1 fuel mk = some (upd mk.1 1 p, mk.2.1, mk.2.2.1, mk.2.2.2) ∧ Cx K s1 q cw (upd Ik 1 p) A R Q ∧ stp K sk s1 ∧ (Ik 1).toInt ≤ p.toInt ∧ p.toInt ≤ (Ik 0).toInt ∧ ¬ isBl (chr (A 0) (Ik 0) p) := by
  have L := nums
  have upd_id : ∀ (f : Nat → Int32) (k : Nat), upd f k (f k) = f := by
    intro f k
    funext j
    by_cases e : j = k
    · subst e; rw [upd_self]
    · rw [upd_ne e]
  intro m
  induction m with
  | zero =>
    intro fuel sk Ik mk h1 h2 hC hT
    obtain ⟨f, rfl⟩ : ∃ f, fuel = f + 1 := ⟨fuel - 1, by omega⟩
    obtain ⟨t1, t2, t3, t4, t5, t6, t7, t8⟩ := hT
    have hle : Ik 0 ≤ Ik 1 := i32le.mpr (by omega)
    have hch : chr (A 0) (Ik 0) (Ik 1) = -1 := by unfold chr; rw [if_pos hle]
    have hT : Tq Ik A mk := ⟨t1, t2, t3, t4, t5, t6, t7, t8⟩
    refine ⟨Ik 1, sk, ?_, ?_, by rw [upd_id]; exact hC, stp.rf K sk, Int.le_refl _, t7, by rw [hch]; unfold isBl; decide⟩
    · rw [c_Text_skipBlanks_l1_s, fg_1_3 hC.1, Option.bind_some, fg_1_2 hC.1, Option.bind_some, if_pos hle]
    · rw [m_blanks_l1_s]
      simp only [m_sees_q hT, hch, show ¬ ((-1 : Int32) = 32) from by decide, show ¬ ((-1 : Int32) = 9) from by decide, show ¬ ((-1 : Int32) = 10) from by decide, show ¬ ((-1 : Int32) = 13) from by decide, if_false, Option.bind_some, if_true]
      rw [t3, upd_id]
  | succ m ih =>
    intro fuel sk Ik mk h1 h2 hC hT
    obtain ⟨f, rfl⟩ : ∃ f, fuel = f + 1 := ⟨fuel - 1, by omega⟩
    have hT0 := hT
    obtain ⟨t1, t2, t3, t4, t5, t6, t7, t8⟩ := hT
    have hch := c_here (Zd := Zd) hC t6 t8
    by_cases hb : isBl (chr (A 0) (Ik 0) (Ik 1))
    · have hc0 : 0 ≤ (chr (A 0) (Ik 0) (Ik 1)).toInt := by rcases hb with e | e | e | e <;> rw [e] <;> decide
      obtain ⟨e1, e2, e3⟩ := chr_lt rfl hc0
      have k1 : (Ik 1 + 1).toInt = (Ik 1).toInt + 1 := by rw [i32add (by omega) (by omega)]; omega
      obtain ⟨s2, f1, f2, f3⟩ := tw3 hC (Ik 1 + 1)
      obtain ⟨p, s1, i1, i2, i3, i4, i5, i6, i7⟩ := ih f s2 (upd Ik 1 (Ik 1 + 1)) (upd mk.1 1 (Ik 1 + 1), mk.2.1, mk.2.2.1, mk.2.2.2) (by show (Ik 0).toInt - (Ik 1 + 1).toInt ≤ _; omega) (by omega) f2 (hT0.up (by omega) (by omega))
      have huu : ∀ (g : Nat → Int32) (x y : Int32), upd (upd g 1 x) 1 y = upd g 1 y := by
        intro g x y
        funext j
        by_cases e : j = 1
        · subst e; rw [upd_self, upd_self]
        · rw [upd_ne e, upd_ne e, upd_ne e]
      have hbl : c_Text_isBlank Zd K (chr (A 0) (Ik 0) (Ik 1)) sk = some 1 := by
        rcases hb with e | e | e | e <;> rw [e] <;> rfl
      refine ⟨p, s1, ?_, ?_, by rw [huu] at i3; exact i3, f3.tr i4, by have i5 : (Ik 1 + 1).toInt ≤ p.toInt := i5; omega, i6, i7⟩
      · rw [c_Text_skipBlanks_l1_s]
        simp only [fg_1_3 hC.1, fg_1_2 hC.1, Option.bind_some, e1, if_false, fo_1 hC.1, hch, hbl, show ¬ ((1 : Int32) = 0) from by decide, f1]
        exact i1
      · rw [m_blanks_l1_s]
        have i2 : m_blanks_l1 f (upd mk.1 1 (Ik 1 + 1), mk.2.1, mk.2.2.1, mk.2.2.2) = some (upd mk.1 1 p, mk.2.1, mk.2.2.1, mk.2.2.2) := by
          rw [i2]
          show some (upd (upd mk.1 1 (Ik 1 + 1)) 1 p, _) = _
          rw [huu]
        rcases hb with e | e | e | e <;> simp only [m_sees_q hT0, e, show ¬ ((9 : Int32) = 32) from by decide, show ¬ ((10 : Int32) = 32) from by decide, show ¬ ((10 : Int32) = 9) from by decide, show ¬ ((13 : Int32) = 32) from by decide, show ¬ ((13 : Int32) = 9) from by decide, show ¬ ((13 : Int32) = 10) from by decide, show ¬ ((1 : Int32) = 0) from by decide, if_true, if_false, Option.bind_some, ← t3] <;> exact i2
    · refine ⟨Ik 1, sk, ?_, ?_, by rw [upd_id]; exact hC, stp.rf K sk, Int.le_refl _, t7, hb⟩
      · rw [c_Text_skipBlanks_l1_s]
        simp only [fg_1_3 hC.1, fg_1_2 hC.1, Option.bind_some]
        by_cases e : Ik 0 ≤ Ik 1
        · rw [if_pos e]
        · rw [if_neg e]
          have hbl : c_Text_isBlank Zd K (chr (A 0) (Ik 0) (Ik 1)) sk = some 0 := by
            have b1 : ¬ chr (A 0) (Ik 0) (Ik 1) = 32 := fun e9 => hb (Or.inl e9)
            have b2 : ¬ chr (A 0) (Ik 0) (Ik 1) = 9 := fun e9 => hb (Or.inr (Or.inl e9))
            have b3 : ¬ chr (A 0) (Ik 0) (Ik 1) = 10 := fun e9 => hb (Or.inr (Or.inr (Or.inl e9)))
            have b4 : ¬ chr (A 0) (Ik 0) (Ik 1) = 13 := fun e9 => hb (Or.inr (Or.inr (Or.inr e9)))
            simp only [c_Text_isBlank, b1, b2, b3, b4, if_false, Option.bind_some, bz]
            rfl
          simp only [fo_1 hC.1, hch, Option.bind_some, hbl, if_true]
      · rw [m_blanks_l1_s]
        have b1 : ¬ chr (A 0) (Ik 0) (Ik 1) = 32 := fun e9 => hb (Or.inl e9)
        have b2 : ¬ chr (A 0) (Ik 0) (Ik 1) = 9 := fun e9 => hb (Or.inr (Or.inl e9))
        have b3 : ¬ chr (A 0) (Ik 0) (Ik 1) = 10 := fun e9 => hb (Or.inr (Or.inr (Or.inl e9)))
        have b4 : ¬ chr (A 0) (Ik 0) (Ik 1) = 13 := fun e9 => hb (Or.inr (Or.inr (Or.inr e9)))
        simp only [m_sees_q hT0, b1, b2, b3, b4, if_false, Option.bind_some, if_true]
        rw [t3, upd_id]
theorem skip_blanks (h : Cx K st q cw I A R Q) (hT : Tq I A ms) : ∃ (p : Int32) (s1 : CS), c_Text_skipBlanks Zd K (q 1) st = some s1 ∧ m_blanks ms = some (upd ms.1 1 p, ms.2.1, ms.2.2.1, ms.2.2.2) ∧ Cx K s1 q cw (upd I 1 p) A R Q ∧ stp K st s1 ∧ (I 1).toInt ≤ p.toInt ∧ p.toInt ≤ (I 0).toInt ∧ ¬ isBl (chr (A 0) (I 0) p) ∧ Tq (upd I 1 p) A (upd ms.1 1 p, ms.2.1, ms.2.2.1, ms.2.2.2) := by
  obtain ⟨p, s1, h1, h2, h3, h4, h5, h6, h7⟩ := blank_lock (Zd := Zd) (K := K) 80 4096 st I ms (by have := hT.2.2.2.2.2; omega) (by decide) h hT
  exact ⟨p, s1, by simp only [c_Text_skipBlanks, h1, Option.bind_some], by simp only [m_blanks, h2, Option.bind_some], h3, h4, h5, h6, h7, hT.up (by have := hT.2.2.2.2.2; omega) h6⟩
end TEXT
