/-! A text in double quotes: class and model. -/
def Wq (I : Nat → Int32) (A : Nat → Nat → Int32) : Prop := 0 ≤ (I 15).toInt ∧ (I 15).toInt ≤ 16 ∧ ∀ i, fits .byte (.int (A 7 i)) = true
/-- at fault, at one place -/
def Fq (I : Nat → Int32) (ms : MS) : Prop := 0 ≤ (I 2).toInt ∧ (I 2).toInt ≤ 80 ∧ ms.1 2 = I 2 ∧ 0 ≤ (I 1).toInt
theorem upd_id {f : Nat → Int32} {k : Nat} {x : Int32} (h : f k = x) : upd f k x = f := by
  funext j
  by_cases e : j = k
  · subst e; rw [upd_self, h]
  · rw [upd_ne e]
theorem upd_upd (f : Nat → Int32) (k : Nat) (x y : Int32) : upd (upd f k x) k y = upd f k y := by
  funext j
  by_cases e : j = k
  · subst e; rw [upd_self, upd_self]
  · rw [upd_ne e, upd_ne e, upd_ne e]
theorem i32n {x : Int32} (h : 0 ≤ x.toInt) : (0 : Int32) ≤ x := i32le.mpr (by have := nums; omega)
theorem Sq.wq {I : Nat → Int32} {A : Nat → Nat → Int32} {ms : MS} {cs : List Int32} (h : Sq I A ms cs) : Wq I A := ⟨by have := h.1; omega, by have := h.1; have := h.2.2.1; omega, h.2.2.2.2.2⟩
theorem m_faultB {ms : MS} (h : 0 ≤ (ms.1 2).toInt) : m_fault ms = some ms := by
  simp only [m_fault, i32n h, if_true, Option.bind_some, upd_id]
theorem m_mustB {ms : MS} (h : 0 ≤ (ms.1 2).toInt) (c : Int32) : m_must c ms = some ms := by
  simp only [m_must, i32n h, if_true, Option.bind_some, m_faultB h]
theorem neg1 : ¬ ((0 : Int32) ≤ -1) := by decide
section STR2
variable {Zd : Nat → Nat} {K : KE} {st : CS} {ms : MS} {q : Nat → Nat} {cw : Nat} {I : Nat → Int32} {A : Nat → Nat → Int32} {R : Nat → Option Nat} {Q : Nat → Nat → Option Nat}
theorem c_right1 (h : Cx K st q cw I A R Q) (h2 : I 2 = -1) : c_Text_isRight Zd K (q 1) st = some 1 := by
  simp only [c_Text_isRight, fg_1_4 h.1, h2, Option.bind_some, if_true, bz]
  rfl
theorem c_right0 (h : Cx K st q cw I A R Q) (h2 : 0 ≤ (I 2).toInt) : c_Text_isRight Zd K (q 1) st = some 0 := by
  have hn : ¬ I 2 = -1 := fun e => by rw [e] at h2; exact absurd h2 (by decide)
  simp only [c_Text_isRight, fg_1_4 h.1, hn, Option.bind_some, if_false, bz]
  rfl
/-- what a reader of a text in quotes comes to -/
def strOut (Zd : Nat → Nat) (K : KE) (st : CS) (q : Nat → Nat) (cw : Nat) (I : Nat → Int32) (A : Nat → Nat → Int32) (R : Nat → Option Nat) (Q : Nat → Nat → Option Nat) (ms : MS) (f : Option (Option Nat × CS)) (g : Option MS) : Prop :=
  (∃ st1 ms1 I1 A1 cs, f = some (some st.1.1, st1) ∧ g = some ms1 ∧ Cx K st1 q cw I1 A1 R Q ∧ le K st st1 ∧ st1.1.1 = st.1.1 + 2 ∧ st1.1.2 ≤ st.1.2 + 14 ∧ Tq I1 A1 ms1 ∧ Wq I1 A1 ∧ strOf K st1 st.1.1 = some (cs.map i2b) ∧ okC cs ∧ cs.length ≤ 10 ∧ (ms1.2.1 0, ms1.2.1 1) = encU cs ∧ (I 1).toInt < (I1 1).toInt ∧ kI I I1 ∧ kA A A1 ∧ kM ms ms1) ∨
  ∃ st1 ms1 I1 A1, f = some (some (Zd 0), st1) ∧ g = some ms1 ∧ Cx K st1 q cw I1 A1 R Q ∧ stp K st st1 ∧ Fq I1 ms1 ∧ Wq I1 A1 ∧ kI I I1 ∧ kA A A1 ∧ kM ms ms1
theorem map_i2b {A7 : Nat → Int32} {cs : List Int32} (h : ∀ i, i < cs.length → A7 i = i2b (cs.getD i 0)) : (List.range cs.length).map A7 = cs.map i2b := by
  apply List.ext_getElem?
  intro i
  rw [List.getElem?_map, List.getElem?_map]
  by_cases hi : i < cs.length
  · rw [List.getElem?_range hi, Option.map_some, h i hi, List.getD_eq_getElem?_getD, List.getElem?_eq_getElem hi]
    rfl
  · rw [List.getElem?_eq_none (by rw [List.length_range]; omega), List.getElem?_eq_none (by omega)]
    rfl
theorem string_l : ∀ (m f1 f2 : Nat) (sk : CS) (Ik : Nat → Int32) (Ak : Nat → Nat → Int32) (mk : MS) (cs : List Int32) (n : Int32), cs.length + m = 10 → n.toInt = cs.length → m < f1 → m + 1 < f2 → Cx K sk q cw Ik Ak R Q → Tq Ik Ak mk → Sq Ik Ak mk cs → sk.1.1 + 2 ≤ Zd 6 → sk.1.2 + 14 ≤ Zd 7 →
    strOut Zd K sk q cw Ik Ak R Q mk ((c_Text_quoted_l1 Zd K (q 1) 34 1 f1 (n, sk)).bind fun e20 => match e20 with | .inl o9 => some o9 | .inr e8 => (isO K e8.2 (q 1) 1).bind fun _ => (c_Text_fail Zd K (q 1) e8.2).bind fun st26 => some (some (Zd 0), st26)) ((m_string_l1 f2 mk).bind fun e7 => (m_must (34 : Int32) e7).bind fun st12 => some st12) := by
  have L := nums
  have L10 : (10 : Int32).toInt = 10 := by decide
  have L34 : (34 : Int32).toInt = 34 := by decide
  intro m
  induction m with
  | zero =>
    intro f1 f2 sk Ik Ak mk cs n h1 hn h2 h3 hC hT hS z6 z7
    obtain ⟨f1, rfl⟩ : ∃ f, f1 = f + 1 := ⟨f1 - 1, by omega⟩
    obtain ⟨f2, rfl⟩ : ∃ f, f2 = f + 2 := ⟨f2 - 2, by omega⟩
    have hT0 := hT
    obtain ⟨t1, t2, t3, t4, t5, t6, t7, t8⟩ := hT
    have hn10 : n = 10 := i32eq (by omega)
    subst hn10
    by_cases hq : chr (Ak 0) (Ik 0) (Ik 1) = 34
    · obtain ⟨s1, g1, g2, g3⟩ := c_take1 (Zd := Zd) hC t6 t8 (c := 34) (by decide) hq
      obtain ⟨d1, d2, d3⟩ := chr_lt hq (by decide)
      have k1 : (Ik 1 + 1).toInt = (Ik 1).toInt + 1 := by rw [i32add (by omega) (by omega)]; omega
      have h15 : upd Ik 1 (Ik 1 + 1) 15 = Ik 15 := rfl
      have hs := hS.1
      obtain ⟨s2, e1, e2, e3, e4, e5⟩ := word_str (Zd := Zd) g2 (by rw [h15]; omega) (by rw [h15]; omega) hS.2.2.2.2.2 (by rw [g3.2]; omega) (by rw [g3.2, h15]; omega)
      rw [g3.2] at e1 e2 e5
      rw [h15] at e2 e5
      left
      refine ⟨s2, (upd mk.1 1 (Ik 1 + 1), mk.2.1, mk.2.2.1, mk.2.2.2), _, _, cs, ?_, ?_, e3, g3.1.tr e4, by rw [e2], by rw [e2]; dsimp only; omega, hT0.up (by omega) (by omega), ⟨hS.wq.1, hS.wq.2⟩, ?_, hS.2.1, hS.2.2.1, hS.2.2.2.2.1, by show (Ik 1).toInt < (Ik 1 + 1).toInt; omega, kI.p _ _, fun k _ => rfl, kM.p mk _ _⟩
      · rw [c_Text_quoted_l1_s]
        simp only [show ¬ ((10 : Int32) < 10) from by decide, if_false, fo_1 hC.1, Option.bind_some, g1, show ¬ ((1 : Int32) = 0) from by decide, fg_1_1 g2.1, fo_9 g2.1, e1]
      · rw [m_string_l1_s]
        simp only [t5, neg1, if_false, mh hT0, Option.bind_some, hq, if_true, m_must1 hT0 hq]
      · rw [e5]
        have : (Ik 15).toInt.toNat = cs.length := by omega
        rw [this, map_i2b hS.2.2.2.1]
    · right
      obtain ⟨s1, g1, g2, g3⟩ := c_fail1 (Zd := Zd) hC t4
      have hlen : m_lengthOf (mk.2.1 0) = some (Int32.ofNat cs.length) := by
        have e : mk.2.1 0 = (encU cs).1 := congrArg (fun x => x.1) hS.2.2.2.2.1
        rw [e]; exact enc_len hS.2.1 hS.2.2.1
      have hl10 : Int32.ofNat cs.length = 10 := by
        rw [show cs.length = 10 by omega]; rfl
      refine ⟨s1, (upd mk.1 2 (Ik 1), mk.2.1, mk.2.2.1, mk.2.2.2), _, _, ?_, ?_, g2, g3, ⟨t6, by show (Ik 1).toInt ≤ 80; omega, rfl, t6⟩, ⟨hS.wq.1, hS.wq.2⟩, kI.f _ _, fun k _ => rfl, kM.f mk _ _⟩
      · rw [c_Text_quoted_l1_s]
        simp only [show ¬ ((10 : Int32) < 10) from by decide, if_false, fo_1 hC.1, Option.bind_some, c_take0 (Zd := Zd) hC t6 t8 hq, if_true, g1]
      · have hb : 0 ≤ (((upd mk.1 2 (Ik 1), mk.2.1, mk.2.2.1, mk.2.2.2) : MS).1 2).toInt := t6
        have hb2 : (0 : Int32) ≤ upd mk.1 2 (Ik 1) 2 := i32n t6
        rw [m_string_l1_s]
        simp only [t5, neg1, if_false, mh hT0, Option.bind_some, hq, m_character, hlen, hl10, if_true, m_fault1 hT0]
        rw [m_string_l1_s]
        simp only [hb2, if_true, Option.bind_some]
        rw [m_mustB hb]
        rfl
  | succ m ih =>
    intro f1 f2 sk Ik Ak mk cs n h1 hn h2 h3 hC hT hS z6 z7
    obtain ⟨f1, rfl⟩ : ∃ f, f1 = f + 1 := ⟨f1 - 1, by omega⟩
    obtain ⟨f2, rfl⟩ : ∃ f, f2 = f + 2 := ⟨f2 - 2, by omega⟩
    have hT0 := hT
    obtain ⟨t1, t2, t3, t4, t5, t6, t7, t8⟩ := hT
    have hn10 : ¬ n = 10 := fun e => by rw [e] at hn; omega
    have hn11 : ¬ (10 : Int32) < n := fun e => by have := i32lt.mp e; omega
    have k9 : (n + 1).toInt = n.toInt + 1 := by rw [i32add (by omega) (by omega)]; omega
    by_cases hq : chr (Ak 0) (Ik 0) (Ik 1) = 34
    · obtain ⟨s1, g1, g2, g3⟩ := c_take1 (Zd := Zd) hC t6 t8 (c := 34) (by decide) hq
      obtain ⟨d1, d2, d3⟩ := chr_lt hq (by decide)
      have k1 : (Ik 1 + 1).toInt = (Ik 1).toInt + 1 := by rw [i32add (by omega) (by omega)]; omega
      have h15 : upd Ik 1 (Ik 1 + 1) 15 = Ik 15 := rfl
      have hs := hS.1
      obtain ⟨s2, e1, e2, e3, e4, e5⟩ := word_str (Zd := Zd) g2 (by rw [h15]; omega) (by rw [h15]; omega) hS.2.2.2.2.2 (by rw [g3.2]; omega) (by rw [g3.2, h15]; omega)
      rw [g3.2] at e1 e2 e5
      rw [h15] at e2 e5
      left
      refine ⟨s2, (upd mk.1 1 (Ik 1 + 1), mk.2.1, mk.2.2.1, mk.2.2.2), _, _, cs, ?_, ?_, e3, g3.1.tr e4, by rw [e2], by rw [e2]; dsimp only; omega, hT0.up (by omega) (by omega), ⟨hS.wq.1, hS.wq.2⟩, ?_, hS.2.1, hS.2.2.1, hS.2.2.2.2.1, by show (Ik 1).toInt < (Ik 1 + 1).toInt; omega, kI.p _ _, fun k _ => rfl, kM.p mk _ _⟩
      · rw [c_Text_quoted_l1_s]
        simp only [hn11, if_false, fo_1 hC.1, Option.bind_some, g1, show ¬ ((1 : Int32) = 0) from by decide, fg_1_1 g2.1, fo_9 g2.1, e1]
      · rw [m_string_l1_s]
        simp only [t5, neg1, if_false, mh hT0, Option.bind_some, hq, if_true, m_must1 hT0 hq]
      · rw [e5]
        have : (Ik 15).toInt.toNat = cs.length := by omega
        rw [this, map_i2b hS.2.2.2.1]
    · rcases char_lock (Zd := Zd) hC hT0 hS (by omega) hq with ⟨s1, m1, I1, A1, c, b1, b2, b3, b4, b5, b6, b7, b8, b9, b10⟩ | ⟨s1, m1, p, b1, b2, b3, b4, b5, b6, b7, b8⟩
      · have i1 := ih f1 (f2 + 1) s1 I1 A1 m1 (cs ++ [c]) (n + 1) (by rw [List.length_append, List.length_singleton]; omega) (by rw [List.length_append, List.length_singleton]; omega) (by omega) (by omega) b3 b5 b6 (by rw [b4.2]; exact z6) (by rw [b4.2]; exact z7)
        have hcl : c_Text_quoted_l1 Zd K (q 1) 34 1 (f1 + 1) (n, sk) = c_Text_quoted_l1 Zd K (q 1) 34 1 f1 (n + 1, s1) := by
          rw [c_Text_quoted_l1_s]
          simp only [hn11, hn10, if_false, fo_1 hC.1, Option.bind_some, c_take0 (Zd := Zd) hC t6 t8 hq, if_true, b1, show ¬ ((1 : Int32) = 0) from by decide]
        have hml : m_string_l1 (f2 + 2) mk = m_string_l1 (f2 + 1) m1 := by
          rw [m_string_l1_s]
          simp only [t5, neg1, if_false, mh hT0, Option.bind_some, hq, b2]
        rw [hcl, hml]
        rcases i1 with ⟨s2, m2, I2, A2, ds, j1, j2, j3, j4, j5, j6, j7, j8, j9, j10, j11, j12, j13, j14, j15, j16⟩ | ⟨s2, m2, I2, A2, j1, j2, j3, j4, j5, j6, j7, j8, j9⟩
        · left
          rw [b4.2] at j1 j5 j6 j9
          exact ⟨s2, m2, I2, A2, ds, j1, j2, j3, b4.1.tr j4, j5, j6, j7, j8, j9, j10, j11, j12, by omega, b8.tr j14, b9.tr j15, b10.tr j16⟩
        · right
          exact ⟨s2, m2, I2, A2, j1, j2, j3, b4.tr j4, j5, j6, b8.tr j7, b9.tr j8, b10.tr j9⟩
      · right
        have hI2 : upd Ik 1 p 2 = -1 := t4
        obtain ⟨s2, g1, g2, g3⟩ := c_fail1 (Zd := Zd) b3 hI2
        have hb : 0 ≤ (m1.1 2).toInt := by rw [b7]; exact b5
        refine ⟨s2, m1, _, _, ?_, ?_, g2, b4.tr g3, ⟨b5, b6, b7, b5⟩, ⟨hS.wq.1, hS.wq.2⟩, (kI.p _ _).tr (kI.f _ _), fun k _ => rfl, b8⟩
        · rw [c_Text_quoted_l1_s]
          simp only [hn11, hn10, if_false, fo_1 hC.1, Option.bind_some, c_take0 (Zd := Zd) hC t6 t8 hq, if_true, b1, fo_1 b3.1, g1]
        · rw [m_string_l1_s]
          simp only [t5, neg1, if_false, mh hT0, Option.bind_some, hq, b2]
          rw [m_string_l1_s]
          simp only [i32n hb, if_true, Option.bind_some, m_mustB hb]
theorem string_lock (h : Cx K st q cw I A R Q) (hT : Tq I A ms) (hW : Wq I A) (z6 : st.1.1 + 2 ≤ Zd 6) (z7 : st.1.2 + 14 ≤ Zd 7) : strOut Zd K st q cw I A R Q ms (c_Text_quoted Zd K (q 1) 34 1 st) (m_string ms) := by
  have L := nums
  have hT0 := hT
  obtain ⟨t1, t2, t3, t4, t5, t6, t7, t8⟩ := hT
  obtain ⟨m1, s1, e1, e2, e3⟩ := word_set0 (Zd := Zd) h hW.1
  have hT1 : Tq (upd (upd I 14 m1) 15 0) A (ms.1, vp_updL (vp_updL ms.2.1 0 0) 1 0, ms.2.2.1, ms.2.2.2) := ⟨t1, t2, t3, t4, t5, t6, t7, t8⟩
  have hkI : kI I (upd (upd I 14 m1) 15 0) := fun k _ _ h14 h15 => (upd_ne h15).trans (upd_ne h14)
  have hkM : kM ms (ms.1, vp_updL (vp_updL ms.2.1 0 0) 1 0, ms.2.2.1, ms.2.2.2) := ⟨fun _ _ _ => rfl, rfl, rfl⟩
  by_cases hq : chr (A 0) (I 0) (I 1) = 34
  · obtain ⟨s2, g1, g2, g3⟩ := c_need1 (Zd := Zd) e2 (show 0 ≤ (I 1).toInt from t6) t8 (c := 34) (by decide) hq
    obtain ⟨d1, d2, d3⟩ := chr_lt hq (by decide)
    have k1 : (I 1 + 1).toInt = (I 1).toInt + 1 := by rw [i32add (by omega) (by omega)]; omega
    have hT2 : Tq (upd (upd (upd I 14 m1) 15 0) 1 (I 1 + 1)) A (upd ms.1 1 (I 1 + 1), vp_updL (vp_updL ms.2.1 0 0) 1 0, ms.2.2.1, ms.2.2.2) := hT1.up (by omega) (by show (I 1 + 1).toInt ≤ (I 0).toInt; omega)
    have hS2 : Sq (upd (upd (upd I 14 m1) 15 0) 1 (I 1 + 1)) A (upd ms.1 1 (I 1 + 1), vp_updL (vp_updL ms.2.1 0 0) 1 0, ms.2.2.1, ms.2.2.2) [] := ⟨rfl, (by intro c hc; cases hc), by decide, fun i hi => absurd hi (Nat.not_lt_zero i), rfl, hW.2.2⟩
    have i1 := string_l (Zd := Zd) 10 4096 4096 s2 _ A _ [] 0 rfl rfl (by decide) (by decide) g2 hT2 hS2 (by rw [g3.2, e3.2]; exact z6) (by rw [g3.2, e3.2]; exact z7)
    have hcl : c_Text_quoted Zd K (q 1) 34 1 st = ((c_Text_quoted_l1 Zd K (q 1) 34 1 4096 (0, s2)).bind fun e20 => match e20 with | .inl o9 => some o9 | .inr e8 => (isO K e8.2 (q 1) 1).bind fun _ => (c_Text_fail Zd K (q 1) e8.2).bind fun st26 => some (some (Zd 0), st26)) := by
      simp only [c_Text_quoted, fg_1_1 h.1, Option.bind_some, fo_9 h.1, e1, fo_1 e2.1, g1, show ¬ ((1 : Int32) = 0) from by decide, if_false]
      rfl
    have hml : m_string ms = ((m_string_l1 4096 (upd ms.1 1 (I 1 + 1), vp_updL (vp_updL ms.2.1 0 0) 1 0, ms.2.2.1, ms.2.2.2)).bind fun e7 => (m_must (34 : Int32) e7).bind fun st12 => some st12) := by
      have hm := m_must1 hT1 (c := 34) hq
      have hm : m_must 34 (ms.1, vp_updL (vp_updL ms.2.1 0 0) 1 0, ms.2.2.1, ms.2.2.2) = some (upd ms.1 1 (I 1 + 1), vp_updL (vp_updL ms.2.1 0 0) 1 0, ms.2.2.1, ms.2.2.2) := hm
      simp only [m_string, m_clear, Option.bind_some, hm]
    rw [hcl, hml]
    rcases i1 with ⟨s3, m2, I2, A2, ds, j1, j2, j3, j4, j5, j6, j7, j8, j9, j10, j11, j12, j13, j14, j15, j16⟩ | ⟨s3, m2, I2, A2, j1, j2, j3, j4, j5, j6, j7, j8, j9⟩
    · left
      rw [g3.2, e3.2] at j1 j5 j6 j9
      have j13 : (I 1 + 1).toInt < (I2 1).toInt := j13
      exact ⟨s3, m2, I2, A2, ds, j1, j2, j3, e3.1.tr (g3.1.tr j4), j5, j6, j7, j8, j9, j10, j11, j12, by omega, hkI.tr ((kI.p _ _).tr j14), j15, hkM.tr ((kM.p _ _ _).tr j16)⟩
    · right
      exact ⟨s3, m2, I2, A2, j1, j2, j3, e3.tr (g3.tr j4), j5, j6, hkI.tr ((kI.p _ _).tr j7), j8, hkM.tr ((kM.p _ _ _).tr j9)⟩
  · right
    obtain ⟨s2, g1, g2, g3⟩ := c_need0 (Zd := Zd) e2 (show 0 ≤ (I 1).toInt from t6) t8 (c := 34) hq t4
    have hm := m_must0 hT1 (c := 34) hq
    have hm : m_must 34 (ms.1, vp_updL (vp_updL ms.2.1 0 0) 1 0, ms.2.2.1, ms.2.2.2) = some (upd ms.1 2 (I 1), vp_updL (vp_updL ms.2.1 0 0) 1 0, ms.2.2.1, ms.2.2.2) := hm
    refine ⟨s2, (upd ms.1 2 (I 1), vp_updL (vp_updL ms.2.1 0 0) 1 0, ms.2.2.1, ms.2.2.2), _, _, ?_, ?_, g2, e3.tr g3, ⟨t6, by show (I 1).toInt ≤ 80; omega, rfl, t6⟩, ⟨(by decide : 0 ≤ (0 : Int32).toInt), (by decide : (0 : Int32).toInt ≤ 16), hW.2.2⟩, hkI.tr (kI.f _ _), fun k _ => rfl, hkM.tr (kM.f _ _ _)⟩
    · simp only [c_Text_quoted, fg_1_1 h.1, Option.bind_some, fo_9 h.1, e1, fo_1 e2.1, g1, if_true]
    · have hb : 0 ≤ (((upd ms.1 2 (I 1), vp_updL (vp_updL ms.2.1 0 0) 1 0, ms.2.2.1, ms.2.2.2) : MS).1 2).toInt := t6
      have hb2 : (0 : Int32) ≤ upd ms.1 2 (I 1) 2 := i32n t6
      simp only [m_string, m_clear, Option.bind_some, hm]
      rw [show (4096 : Nat) = 4095 + 1 from rfl, m_string_l1_s]
      simp only [hb2, if_true, Option.bind_some]
      rw [m_mustB hb]
      rfl
end STR2
