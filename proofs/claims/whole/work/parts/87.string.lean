/-! Quoted texts: class and model. -/
def i2b (c : Int32) : Int32 := c.toInt8.toInt32
/-- the characters read so far -/
def Sq (I : Nat → Int32) (A : Nat → Nat → Int32) (ms : MS) (cs : List Int32) : Prop := (I 15).toInt = cs.length ∧ okC cs ∧ cs.length ≤ 10 ∧ (∀ i, i < cs.length → A 7 i = i2b (cs.getD i 0)) ∧ (ms.2.1 0, ms.2.1 1) = encU cs ∧ ∀ i, fits .byte (.int (A 7 i)) = true
def kI (I I1 : Nat → Int32) : Prop := ∀ k, k ≠ 1 → k ≠ 2 → k ≠ 14 → k ≠ 15 → I1 k = I k
def kA (A A1 : Nat → Nat → Int32) : Prop := ∀ k, k ≠ 7 → A1 k = A k
def kM (ms ms1 : MS) : Prop := (∀ k, k ≠ 1 → k ≠ 2 → ms1.1 k = ms.1 k) ∧ ms1.2.2.1 = ms.2.2.1 ∧ ms1.2.2.2 = ms.2.2.2
theorem kI.tr {I I1 I2 : Nat → Int32} (h : kI I I1) (h1 : kI I1 I2) : kI I I2 := fun k a b c d => (h1 k a b c d).trans (h k a b c d)
theorem kA.tr {A A1 A2 : Nat → Nat → Int32} (h : kA A A1) (h1 : kA A1 A2) : kA A A2 := fun k a => (h1 k a).trans (h k a)
theorem kM.tr {a b c : MS} (h : kM a b) (h1 : kM b c) : kM a c := ⟨fun k x y => (h1.1 k x y).trans (h.1 k x y), h1.2.1.trans h.2.1, h1.2.2.trans h.2.2⟩
theorem kI.p (I : Nat → Int32) (x : Int32) : kI I (upd I 1 x) := fun _ a _ _ _ => upd_ne a
theorem kI.f (I : Nat → Int32) (x : Int32) : kI I (upd I 2 x) := fun _ _ a _ _ => upd_ne a
theorem kI.w (I : Nat → Int32) (x : Int32) : kI I (upd I 15 x) := fun _ _ _ _ a => upd_ne a
theorem kM.p (ms : MS) (x : Int32) (J : Nat → Int64) : kM ms (upd ms.1 1 x, J, ms.2.2.1, ms.2.2.2) := ⟨fun _ a _ => upd_ne a, rfl, rfl⟩
theorem kM.f (ms : MS) (x : Int32) (J : Nat → Int64) : kM ms (upd ms.1 2 x, J, ms.2.2.1, ms.2.2.2) := ⟨fun _ _ a => upd_ne a, rfl, rfl⟩
section STRING
variable {Zd : Nat → Nat} {K : KE} {st : CS} {ms : MS} {q : Nat → Nat} {cw : Nat} {I : Nat → Int32} {A : Nat → Nat → Int32} {R : Nat → Option Nat} {Q : Nat → Nat → Option Nat}
/-- a character more -/
theorem Sq.add {cs : List Int32} (h : Sq I A ms cs) (hl : cs.length < 10) {c : Int32} (c0 : 0 ≤ c.toInt) (c1 : c.toInt < 256) {p : Int32} : Sq (upd (upd I 15 (I 15 + 1)) 1 p) (va_up A 7 (upd (A 7) (I 15).toNatClampNeg c.toInt8.toInt32)) (upd ms.1 1 p, vp_updL (vp_updL ms.2.1 1 (addE (ms.2.1 0, ms.2.1 1) c).2) 0 (addE (ms.2.1 0, ms.2.1 1) c).1, ms.2.2.1, ms.2.2.2) (cs ++ [c]) := by
  have L := nums
  obtain ⟨h1, h2, h3, h4, h5, h6⟩ := h
  have k1 : (I 15 + 1).toInt = (I 15).toInt + 1 := by rw [i32add (by omega) (by omega)]; omega
  have hk : (I 15).toNatClampNeg = cs.length := by rw [tnn]; omega
  refine ⟨?_, ?_, by rw [List.length_append, List.length_singleton]; omega, ?_, ?_, ?_⟩
  · show (I 15 + 1).toInt = _
    rw [k1, h1, List.length_append, List.length_singleton]
    omega
  · intro x hx
    rcases List.mem_append.mp hx with h9 | h9
    · exact h2 x h9
    · rw [List.mem_singleton] at h9
      rw [h9]; exact ⟨c0, c1⟩
  · intro i hi
    rw [List.length_append, List.length_singleton] at hi
    rw [va_up_self, hk]
    by_cases e : i = cs.length
    · subst e
      rw [upd_self]
      simp [i2b]
    · rw [upd_ne e, h4 i (by omega), List.getD_eq_getElem?_getD, List.getD_eq_getElem?_getD, List.getElem?_append_left (by omega)]
  · dsimp only
    rw [updL_self, updL_ne (by decide), updL_self, encU_snoc, h5]
  · intro i
    rw [va_up_self]
    by_cases e : i = (I 15).toNatClampNeg
    · rw [e, upd_self]
      obtain ⟨b1, b2⟩ := i2b_r c
      exact fits_b b1 b2
    · rw [upd_ne e]; exact h6 i
/-- one character of a text in double quotes -/
theorem char_lock (h : Cx K st q cw I A R Q) (hT : Tq I A ms) {cs : List Int32} (hS : Sq I A ms cs) (hl : cs.length < 10) (hq : ¬ chr (A 0) (I 0) (I 1) = 34) :
    (∃ st1 ms1 I1 A1 c, c_Text_takeCharacter Zd K (q 1) 34 1 st = some (1, st1) ∧ m_character ms = some ms1 ∧ Cx K st1 q cw I1 A1 R Q ∧ stp K st st1 ∧ Tq I1 A1 ms1 ∧ Sq I1 A1 ms1 (cs ++ [c]) ∧ (I 1).toInt < (I1 1).toInt ∧ kI I I1 ∧ kA A A1 ∧ kM ms ms1) ∨
    ∃ st1 ms1 p, c_Text_takeCharacter Zd K (q 1) 34 1 st = some (0, st1) ∧ m_character ms = some ms1 ∧ Cx K st1 q cw (upd I 1 p) A R Q ∧ stp K st st1 ∧ 0 ≤ p.toInt ∧ p.toInt ≤ 80 ∧ ms1.1 2 = p ∧ kM ms ms1 := by
  have L := nums
  have hF := h.1
  obtain ⟨t1, t2, t3, t4, t5, t6, t7, t8⟩ := hT
  have hT : Tq I A ms := ⟨t1, t2, t3, t4, t5, t6, t7, t8⟩
  obtain ⟨w1, w2, w3, w4, w5, w6⟩ := hS
  have hS : Sq I A ms cs := ⟨w1, w2, w3, w4, w5, w6⟩
  have hlen : m_lengthOf (ms.2.1 0) = some (Int32.ofNat cs.length) := by
    have e : ms.2.1 0 = (encU cs).1 := congrArg (fun x => x.1) w5
    rw [e]; exact enc_len w2 w3
  have hl10 : ¬ Int32.ofNat cs.length = 10 := fun e => by
    have h9 : (Int32.ofNat cs.length).toInt = cs.length := ofNat_i (by omega)
    rw [e] at h9
    have h8 : (10 : Int32).toInt = 10 := by decide
    omega
  have hch := c_here (Zd := Zd) h t6 t8
  have hmh := mh hT
  have h10 : ¬ ((1 : Int32) = 0) := by decide
  have n32 : (32 : Int32).toInt = 32 ∧ (255 : Int32).toInt = 255 ∧ (92 : Int32).toInt = 92 := by decide
  generalize hc : chr (A 0) (I 0) (I 1) = c at *
  by_cases e92 : c = 92
  · -- behind a backslash
    obtain ⟨d1, d2, d3⟩ := chr_lt (hc.trans e92) (by decide)
    have k1 : (I 1 + 1).toInt = (I 1).toInt + 1 := by rw [i32add (by omega) (by omega)]; omega
    obtain ⟨s1, f1, f2, f3⟩ := tw3 h (I 1 + 1)
    have hT1 := hT.up (p := I 1 + 1) (J := ms.2.1) (B := ms.2.2.2) (by omega) (by omega)
    have hch1 := c_here (Zd := Zd) f2 (show 0 ≤ (I 1 + 1).toInt by omega) t8
    have hmh1 := mh hT1
    have hch1 : c_Text_ahead Zd K (q 1) s1 = some (chr (A 0) (I 0) (I 1 + 1)) := hch1
    have hmh1 : m_here (upd ms.1 1 (I 1 + 1), ms.2.1, ms.2.2.1, ms.2.2.2) = some (chr (A 0) (I 0) (I 1 + 1)) := hmh1
    have hlt32 : ¬ c < 32 := fun e => by rw [e92] at e; exact absurd e (by decide)
    have hle255 : c ≤ 255 := by rw [e92]; decide
    generalize hc2 : chr (A 0) (I 0) (I 1 + 1) = c2 at *
    by_cases e2 : c2 = 34 ∨ c2 = 92
    · left
      have c20 : 0 ≤ c2.toInt ∧ c2.toInt < 256 := by rcases e2 with e | e <;> rw [e] <;> decide
      obtain ⟨d4, d5, d6⟩ := chr_lt hc2 c20.1
      have k2 : (I 1 + 1 + 1).toInt = (I 1).toInt + 2 := by rw [i32add (by omega) (by omega)]; omega
      have c2lt : ¬ c2 < 32 := fun e => by have := i32lt.mp e; rcases e2 with e9 | e9 <;> rw [e9] at this <;> exact absurd this (by decide)
      have c2le : c2 ≤ 255 := by rcases e2 with e9 | e9 <;> rw [e9] <;> decide
      obtain ⟨s2, g1, g2, g3⟩ := word_app (Zd := Zd) f2 (show 0 ≤ (I 15).toInt by omega) (show (I 15).toInt < 16 by omega) (c := c2) (by omega)
      obtain ⟨s3, g4, g5, g6⟩ := tw3 g2 (I 1 + 1 + 1)
      have gi : gI K s2 (q 1) 1 3 = some (I 1 + 1) := by rw [fg_1_3 g2.1]; rfl
      have hIe : upd (upd (upd I 1 (I 1 + 1)) 15 (I 15 + 1)) 1 (I 1 + 1 + 1) = upd (upd I 15 (I 15 + 1)) 1 (I 1 + 1 + 1) := by
        funext j
        by_cases e1 : j = 1
        · subst e1; rw [upd_self, upd_self]
        · rw [upd_ne e1, upd_ne e1]
          by_cases e15 : j = 15
          · subst e15; rw [upd_self, upd_self]
          · rw [upd_ne e15, upd_ne e15, upd_ne e1]
      have g5 : Cx K s3 q cw (upd (upd (upd I 1 (I 1 + 1)) 15 (I 15 + 1)) 1 (I 1 + 1 + 1)) (va_up A 7 (upd (A 7) (I 15).toNatClampNeg c2.toInt8.toInt32)) R Q := g5
      rw [hIe] at g5
      have huu : ∀ (g : Nat → Int32) (x y : Int32), upd (upd g 1 x) 1 y = upd g 1 y := by
        intro g x y
        funext j
        by_cases e : j = 1
        · subst e; rw [upd_self, upd_self]
        · rw [upd_ne e, upd_ne e, upd_ne e]
      refine ⟨s3, (upd ms.1 1 (I 1 + 1 + 1), vp_updL (vp_updL ms.2.1 1 (addE (ms.2.1 0, ms.2.1 1) c2).2) 0 (addE (ms.2.1 0, ms.2.1 1) c2).1, ms.2.2.1, ms.2.2.2), _, _, c2, ?_, ?_, g5, f3.tr (g3.tr g6), ?_, hS.add hl c20.1 c20.2, by show (I 1).toInt < (I 1 + 1 + 1).toInt; omega, (kI.w I _).tr (kI.p _ _), fun k hk => va_up_ne _ _ hk, kM.p ms _ _⟩
      · rcases e2 with e9 | e9
        · simp only [c_Text_takeCharacter, fo_1 hF, Option.bind_some, hch, e92, if_true, h10, if_false, fg_1_3 hF, f1, fo_1 f2.1, hch1, e9, show ¬ ((34 : Int32) < 32) from by decide, show (34 : Int32) ≤ 255 from by decide, fg_1_1 f2.1, fo_9 f2.1, show ((34 : Int32).toUInt32 % 65536).toInt32 = 34 from by decide] at g1 g4 ⊢
          simp only [g1, Option.bind_some, gi, g4]
        · simp only [c_Text_takeCharacter, fo_1 hF, Option.bind_some, hch, e92, if_true, h10, if_false, fg_1_3 hF, f1, fo_1 f2.1, hch1, e9, show ¬ ((92 : Int32) = 34) from by decide, show ¬ ((92 : Int32) < 32) from by decide, show (92 : Int32) ≤ 255 from by decide, fg_1_1 f2.1, fo_9 f2.1, show ((92 : Int32).toUInt32 % 65536).toInt32 = 92 from by decide] at g1 g4 ⊢
          simp only [g1, Option.bind_some, gi, g4]
      · rcases e2 with e9 | e9
        · simp only [m_character, hmh, Option.bind_some, hlen, hl10, if_false, show ¬ ((92 : Int32) < 32) from by decide, show (92 : Int32) ≤ 255 from by decide, if_true, e92, ← t3, hmh1, e9, m_add_eq, upd_self, huu]
        · simp only [m_character, hmh, Option.bind_some, hlen, hl10, if_false, show ¬ ((92 : Int32) < 32) from by decide, show (92 : Int32) ≤ 255 from by decide, if_true, e92, ← t3, hmh1, e9, show ¬ ((92 : Int32) = 34) from by decide, m_add_eq, upd_self, huu]
      · exact ⟨t1, t2, rfl, t4, t5, by show 0 ≤ (I 1 + 1 + 1).toInt; omega, by show (I 1 + 1 + 1).toInt ≤ (I 0).toInt; omega, t8⟩
    · right
      have e34 : ¬ c2 = 34 := fun e => e2 (Or.inl e)
      have e922 : ¬ c2 = 92 := fun e => e2 (Or.inr e)
      refine ⟨s1, (upd (upd ms.1 1 (I 1 + 1)) 2 (I 1 + 1), ms.2.1, ms.2.2.1, ms.2.2.2), I 1 + 1, ?_, ?_, f2, f3, by omega, by omega, rfl, (kM.p ms _ _).tr (kM.f _ _ _)⟩
      · simp only [c_Text_takeCharacter, fo_1 hF, Option.bind_some, hch, e92, if_true, h10, if_false, fg_1_3 hF, f1, fo_1 f2.1, hch1, e34, e922]
      · have hmf := m_fault1 hT1
        have hmf : m_fault (upd ms.1 1 (I 1 + 1), ms.2.1, ms.2.2.1, ms.2.2.2) = some (upd (upd ms.1 1 (I 1 + 1)) 2 (I 1 + 1), ms.2.1, ms.2.2.1, ms.2.2.2) := hmf
        simp only [m_character, hmh, Option.bind_some, hlen, hl10, if_false, show ¬ ((92 : Int32) < 32) from by decide, show (92 : Int32) ≤ 255 from by decide, if_true, e92, ← t3, hmh1, e34, e922, hmf]
  · by_cases elt : c < 32
    · right
      have upd_id : upd I 1 (I 1) = I := by
        funext j
        by_cases e : j = 1
        · subst e; rw [upd_self]
        · rw [upd_ne e]
      refine ⟨st, (upd ms.1 2 (I 1), ms.2.1, ms.2.2.1, ms.2.2.2), I 1, ?_, ?_, by rw [upd_id]; exact h, stp.rf K st, t6, by omega, rfl, kM.f ms _ _⟩
      · simp only [c_Text_takeCharacter, fo_1 hF, Option.bind_some, hch, e92, if_false, elt, if_true]
      · simp only [m_character, hmh, Option.bind_some, hlen, hl10, if_false, elt, if_true, m_fault1 hT]
    · by_cases ele : c ≤ 255
      · left
        have c0 : 0 ≤ c.toInt := by
          have : ¬ c.toInt < (32 : Int32).toInt := fun e => elt (i32lt.mpr e)
          omega
        have c1 : c.toInt < 256 := by have := i32le.mp ele; omega
        obtain ⟨d1, d2, d3⟩ := chr_lt hc c0
        have k1 : (I 1 + 1).toInt = (I 1).toInt + 1 := by rw [i32add (by omega) (by omega)]; omega
        obtain ⟨s2, g1, g2, g3⟩ := word_app (Zd := Zd) h (show 0 ≤ (I 15).toInt by omega) (show (I 15).toInt < 16 by omega) (c := c) (by omega)
        obtain ⟨s3, g4, g5, g6⟩ := tw3 g2 (I 1 + 1)
        have gi : gI K s2 (q 1) 1 3 = some (I 1) := by rw [fg_1_3 g2.1]; rfl
        refine ⟨s3, (upd ms.1 1 (I 1 + 1), vp_updL (vp_updL ms.2.1 1 (addE (ms.2.1 0, ms.2.1 1) c).2) 0 (addE (ms.2.1 0, ms.2.1 1) c).1, ms.2.2.1, ms.2.2.2), _, _, c, ?_, ?_, g5, g3.tr g6, ?_, hS.add hl c0 c1, by show (I 1).toInt < (I 1 + 1).toInt; omega, (kI.w I _).tr (kI.p _ _), fun k hk => va_up_ne _ _ hk, kM.p ms _ _⟩
        · simp only [c_Text_takeCharacter, fo_1 hF, Option.bind_some, hch, e92, elt, ele, if_true, if_false, fg_1_1 hF, fo_9 hF, c16 c0 (show c.toInt < 65536 by omega), g1, gi, g4]
        · simp only [m_character, hmh, Option.bind_some, hlen, hl10, if_false, elt, ele, if_true, e92, m_add_eq, ← t3]
        · exact ⟨t1, t2, rfl, t4, t5, by show 0 ≤ (I 1 + 1).toInt; omega, by show (I 1 + 1).toInt ≤ (I 0).toInt; omega, t8⟩
      · right
        have upd_id : upd I 1 (I 1) = I := by
          funext j
          by_cases e : j = 1
          · subst e; rw [upd_self]
          · rw [upd_ne e]
        refine ⟨st, (upd ms.1 2 (I 1), ms.2.1, ms.2.2.1, ms.2.2.2), I 1, ?_, ?_, by rw [upd_id]; exact h, stp.rf K st, t6, by omega, rfl, kM.f ms _ _⟩
        · simp only [c_Text_takeCharacter, fo_1 hF, Option.bind_some, hch, e92, if_false, elt, ele]
        · simp only [m_character, hmh, Option.bind_some, hlen, hl10, if_false, elt, ele, m_fault1 hT]
end STRING
