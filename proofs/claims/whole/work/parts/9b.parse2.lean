/-! A text read as a value: class and model. -/
section PARSE3
variable {Zd : Nat → Nat} {K : KE} {q : Nat → Nat} {cw : Nat} {R : Nat → Option Nat} {Q : Nat → Nat → Option Nat} {st : CS} {I : Nat → Int32} {A : Nat → Nat → Int32} {ms : MS}
theorem c_nbl {c : Int32} (hb : ¬ isBl c) : c_Text_isBlank Zd K c st = some 0 := by
  have b1 : ¬ c = 32 := fun e9 => hb (Or.inl e9)
  have b2 : ¬ c = 9 := fun e9 => hb (Or.inr (Or.inl e9))
  have b3 : ¬ c = 10 := fun e9 => hb (Or.inr (Or.inr (Or.inl e9)))
  have b4 : ¬ c = 13 := fun e9 => hb (Or.inr (Or.inr (Or.inr e9)))
  simp only [c_Text_isBlank, b1, b2, b3, b4, if_false, Option.bind_some, bz]
  rfl
theorem skipA_l : ∀ (m fuel : Nat) (sk : CS) (Ik : Nat → Int32), (Ik 0).toInt - (Ik 1).toInt ≤ m → m < fuel → 0 ≤ (Ik 1).toInt → (Ik 0).toInt ≤ 80 → Cx K sk q cw Ik A R Q → ∃ (p : Int32) (s1 : CS), c_Text_skipBlanks_l1 Zd K (q 1) fuel sk = some s1 ∧ Cx K s1 q cw (upd Ik 1 p) A R Q ∧ stp K sk s1 ∧ 0 ≤ p.toInt := by
  have L := nums
  intro m
  induction m with
  | zero =>
    intro fuel sk Ik h1 h2 h0 h8 hC
    obtain ⟨f, rfl⟩ : ∃ f, fuel = f + 1 := ⟨fuel - 1, by omega⟩
    have hle : Ik 0 ≤ Ik 1 := i32le.mpr (by omega)
    exact ⟨Ik 1, sk, by rw [c_Text_skipBlanks_l1_s, fg_1_3 hC.1, Option.bind_some, fg_1_2 hC.1, Option.bind_some, if_pos hle], by rw [upd_id rfl]; exact hC, stp.rf K sk, h0⟩
  | succ m ih =>
    intro fuel sk Ik h1 h2 h0 h8 hC
    obtain ⟨f, rfl⟩ : ∃ f, fuel = f + 1 := ⟨fuel - 1, by omega⟩
    have hch := c_here (Zd := Zd) hC h0 h8
    by_cases hb : isBl (chr (A 0) (Ik 0) (Ik 1))
    · have hc0 : 0 ≤ (chr (A 0) (Ik 0) (Ik 1)).toInt := by rcases hb with e | e | e | e <;> rw [e] <;> decide
      obtain ⟨e1, e2, e3⟩ := chr_lt rfl hc0
      have k1 : (Ik 1 + 1).toInt = (Ik 1).toInt + 1 := by rw [i32add (by omega) (by omega)]; omega
      obtain ⟨s2, f1, f2, f3⟩ := tw3 hC (Ik 1 + 1)
      obtain ⟨p, s1, i1, i2, i3, i4⟩ := ih f s2 (upd Ik 1 (Ik 1 + 1)) (by show (Ik 0).toInt - (Ik 1 + 1).toInt ≤ _; omega) (by omega) (by show 0 ≤ (Ik 1 + 1).toInt; omega) h8 f2
      have hbl : c_Text_isBlank Zd K (chr (A 0) (Ik 0) (Ik 1)) sk = some 1 := by
        rcases hb with e | e | e | e <;> rw [e] <;> rfl
      refine ⟨p, s1, ?_, by rw [upd_upd] at i2; exact i2, f3.tr i3, i4⟩
      rw [c_Text_skipBlanks_l1_s]
      simp only [fg_1_3 hC.1, fg_1_2 hC.1, Option.bind_some, e1, if_false, fo_1 hC.1, hch, hbl, show ¬ ((1 : Int32) = 0) from by decide, f1]
      exact i1
    · refine ⟨Ik 1, sk, ?_, by rw [upd_id rfl]; exact hC, stp.rf K sk, h0⟩
      rw [c_Text_skipBlanks_l1_s]
      simp only [fg_1_3 hC.1, fg_1_2 hC.1, Option.bind_some]
      by_cases e : Ik 0 ≤ Ik 1
      · rw [if_pos e]
      · rw [if_neg e]
        simp only [fo_1 hC.1, hch, Option.bind_some, c_nbl hb, if_true]
theorem skipA (h : Cx K st q cw I A R Q) (h0 : 0 ≤ (I 1).toInt) (h8 : (I 0).toInt ≤ 80) : ∃ (p : Int32) (s1 : CS), c_Text_skipBlanks Zd K (q 1) st = some s1 ∧ Cx K s1 q cw (upd I 1 p) A R Q ∧ stp K st s1 ∧ 0 ≤ p.toInt := by
  obtain ⟨p, s1, e1, e2⟩ := skipA_l (Zd := Zd) 80 4096 st I (by omega) (by decide) h0 h8 h
  exact ⟨p, s1, by simp only [c_Text_skipBlanks, e1, Option.bind_some], e2⟩
theorem c_atEnd1 (h : Cx K st q cw I A R Q) (he : ¬ I 1 < I 0) : c_Text_atEnd Zd K (q 1) st = some 1 := by
  simp only [c_Text_atEnd, fg_1_3 h.1, fg_1_2 h.1, Option.bind_some, he, if_false, bz]
  rfl
theorem c_atEnd0 (h : Cx K st q cw I A R Q) (he : I 1 < I 0) : c_Text_atEnd Zd K (q 1) st = some 0 := by
  simp only [c_Text_atEnd, fg_1_3 h.1, fg_1_2 h.1, Option.bind_some, he, if_true, bz]
  rfl
theorem parse_lock (hk : kc Zd K) (h : Cx K st q cw I A R Q) (hA : A 0 = ms.2.2.1 0) (h0 : I 0 = ms.1 0) (hl0 : 0 ≤ (I 0).toInt) (hl8 : (I 0).toInt ≤ 80) (hW : Wq I A) (z6 : st.1.1 + 120 ≤ Zd 6) (z7 : st.1.2 + 816 ≤ Zd 7) :
    ∃ st1 I1 A1 ms2, m_readValue ms = some ms2 ∧ Cx K st1 q cw I1 A1 R Q ∧ le K st st1 ∧ Wq I1 A1 ∧ kI3 I I1 ∧ kA A A1 ∧ lowM 1920 ms ms2 ∧ st1.1.1 ≤ st.1.1 + 120 ∧ st1.1.2 ≤ st.1.2 + 816 ∧
      ((∃ a N L, c_ValueParser_parse Zd K (q 2) (some (q 1)) st = some (some a, st1) ∧ Tw Zd K st1 5 N a none L ∧ nmL L = [] ∧ N.Nodup ∧ (∀ x ∈ N, st.1.1 ≤ x) ∧ L.length ≤ 24 ∧ I1 2 = -1 ∧ ms2.1 2 = -1 ∧ rowIs ms2 1920 L) ∨
       (c_ValueParser_parse Zd K (q 2) (some (q 1)) st = some (none, st1) ∧ Fq I1 ms2)) := by
  have L := nums
  have h10 : ¬ ((1 : Int32) = 0) := by decide
  obtain ⟨s1, a1, a2, a3⟩ := tv h 0
  obtain ⟨s2, b1, b2, b3⟩ := tw3 a2 0
  obtain ⟨s3, c1, c2, c3⟩ := tw4 b2 (-1)
  have hbg : c_Text_begin Zd K (q 1) s1 = some s3 := by simp only [c_Text_begin, b1, Option.bind_some, c1]
  have hst3 : stp K st s3 := a3.tr (b3.tr c3)
  generalize hms' : ((upd (upd (upd (upd ms.1 1 0) 2 (-1)) 3 0) 4 0, ms.2.1, ms.2.2.1, ms.2.2.2) : MS) = ms'
  have hT : Tq (upd (upd (upd I 3 0) 1 0) 2 (-1)) A ms' := by
    rw [← hms']
    exact ⟨hA, h0, rfl, rfl, rfl, by show 0 ≤ (0 : Int32).toInt; decide, by show (0 : Int32).toInt ≤ (I 0).toInt; omega, hl8⟩
  have hlow1 : lowM 1920 ms ms' := by
    rw [← hms']
    exact ⟨fun k e1 e2 e3 e4 => (upd_ne e4).trans ((upd_ne e3).trans ((upd_ne e2).trans (upd_ne e1))), fun _ _ _ _ => rfl, fun _ _ => rfl, fun _ _ => ⟨rfl, rfl, fun _ _ => rfl⟩⟩
  have hm3 : ms'.1 3 = 0 := by rw [← hms']; rfl
  have hm4 : ms'.1 4 = 0 := by rw [← hms']; rfl
  have hrv0 : m_readValue ms = (m_blanks ms').bind fun st2 => (m_named (0 : Int64) (0 : Int64) st2).bind fun st5 => (m_begins st5).bind fun r9 => (m_readValue_l1 4096 (r9.1, (0 : Int32), r9.2)).bind fun e10 => (m_blanks e10.2.2).bind fun st19 => (if (0 : Int32) ≤ (st19.1 2) then (some st19) else (if (st19.1 0) ≤ (st19.1 1) then (some st19) else ((m_fault st19).bind fun st26 => some st26))).bind fun e22 => some e22 := by
    rw [← hms']
    rfl
  clear hms'
  obtain ⟨p, s4, k1, k2, k3, k4, k5, k6, k7, k8⟩ := skip_blanks (Zd := Zd) c2 hT
  have hst4 : stp K st s4 := hst3.tr k4
  have hnm := named_eq (ms := (upd ms'.1 1 p, ms'.2.1, ms'.2.2.1, ms'.2.2.2)) (nn := 0) (by show (ms'.1 3).toInt = _; rw [hm3]; rfl) (by decide) 0 0
  obtain ⟨me, hme, x1, x2, x3⟩ : ∃ me : MS, m_named 0 0 (upd ms'.1 1 p, ms'.2.1, ms'.2.2.1, ms'.2.2.2) = some me ∧ me.1 = upd ms'.1 1 p ∧ me.2.2.1 = ms'.2.2.1 ∧ lowM 1920 (upd ms'.1 1 p, ms'.2.1, ms'.2.2.1, ms'.2.2.2) me := ⟨_, hnm, rfl, rfl, lowM.named _ _ _ _⟩
  have hT5 : Tq (upd (upd (upd (upd I 3 0) 1 0) 2 (-1)) 1 p) A me := by
    unfold Tq
    rw [x1, x2]
    exact k8
  have hs41 : s4.1.1 = st.1.1 := by rw [hst4.2]
  have hs42 : s4.1.2 = st.1.2 := by rw [hst4.2]
  obtain ⟨st5, I5, A5, b, ms1, n, bb, ms2, g1, g2, g3, g4, g5, g6, g7, g8, g9, g10, g11, g12⟩ := value_lock (q := q) (cw := cw) (R := R) (Q := Q) hk 4 0 0 s3 s4 _ _ A me 0 rfl rfl c2 k1 k3 hT5 ⟨hW.1, hW.2⟩ k7 (by rw [x1]; show (0 : Int32) = ms'.1 3; rw [hm3]) rfl (by decide) (by rw [x1]; show (ms'.1 4).toInt = _; rw [hm4]; rfl) (by omega) (by omega)
  have hn48 : n ≤ 48 := by
    rcases g12 with ⟨a, N, L9, e1, e2, e3, e4, e5, e6, e7, e8, -⟩ | ⟨e1, e2, e3, e4⟩
    · omega
    · omega
  obtain ⟨t2, ht2⟩ : ∃ t2 : Int32, m_readValue_l1 4096 (b, 0, ms1) = m_readValue_l1 (4096 - n) (bb, t2, ms2) := by
    obtain ⟨t2, -, e⟩ := g3 (4096 - n) 0 (by decide) (by show (0 : Int) + n ≤ 199; omega)
    rw [show 4096 - n + n = 4096 by omega] at e
    exact ⟨t2, e⟩
  have hstop : (0 ≤ (ms2.1 2).toInt ∨ (ms2.1 2 = -1 ∧ ms2.1 4 = 0 ∧ bb = 0)) → m_readValue_l1 (4096 - n) (bb, t2, ms2) = some (bb, t2, ms2) := by
    intro hs
    obtain ⟨f, hf⟩ : ∃ f, 4096 - n = f + 1 := ⟨4095 - n, by omega⟩
    rw [hf, m_readValue_l1_s]
    dsimp only
    by_cases e2 : (200 : Int32) ≤ t2
    · rw [if_pos e2]
    · rw [if_neg e2]
      rcases hs with e | ⟨e, e4, e5⟩
      · rw [if_pos (i32n e)]
      · rw [e, if_neg neg1, e4, if_neg (by decide), if_pos e5]
  have hrv : (0 ≤ (ms2.1 2).toInt ∨ (ms2.1 2 = -1 ∧ ms2.1 4 = 0 ∧ bb = 0)) → m_readValue ms = (m_blanks ms2).bind fun st19 => (if (0 : Int32) ≤ (st19.1 2) then (some st19) else (if (st19.1 0) ≤ (st19.1 1) then (some st19) else ((m_fault st19).bind fun st26 => some st26))).bind fun e22 => some e22 := by
    intro hs
    rw [hrv0, k2, Option.bind_some, hme, Option.bind_some, g1, Option.bind_some, ht2, hstop hs, Option.bind_some]
  have hkI : kI3 I I5 := (kI3.v I 0).tr ((kI.p _ _).k3.tr ((kI.f _ _).k3.tr ((kI.p _ _).k3.tr g7)))
  have hlow : lowM 1920 ms ms2 := hlow1.tr (((kM.p ms' p ms'.2.1).low 1920).tr (x3.tr g9))
  have hle5 : le K st st5 := hst4.1.tr g5
  have hI50 : I5 0 = I 0 := hkI 0 (by decide) (by decide) (by decide) (by decide) (by decide)
  -- the class, behind the value
  have hcl : ∀ cv, c_ValueParser_value Zd K 6 (q 2) (some (q 1)) 0 s3 = some (cv, st5) → ∀ s6, c_Text_skipBlanks Zd K (q 1) st5 = some s6 → isO K s6 (q 1) 1 = some () → c_ValueParser_parse Zd K (q 2) (some (q 1)) st = (c_Text_atEnd Zd K (q 1) s6).bind fun x22 => (if x22 = (0 : Int32) then ((isO K s6 (q 1) 1).bind fun _ => (c_Text_fail Zd K (q 1) s6).bind fun st35 => some st35) else (some s6)).bind fun e25 => (isO K e25 (q 1) 1).bind fun _ => (c_Text_isRight Zd K (q 1) e25).bind fun x27 => (if x27 = (0 : Int32) then (some none) else (some cv)).bind fun e30 => some (e30, e25) := by
    intro cv hcv s6 hs6 ho6
    simp only [c_ValueParser_parse, a1, Option.bind_some, fo_1 a2.1, hbg, fo_2 c2.1, hcv, fo_1 g4.1, hs6, ho6]
  rcases g12 with ⟨a, N, L5, e1, e2, e3, e4, e5, e6, e7, e8, e9, e10, e11⟩ | ⟨e1, e2, e3, e4⟩
  · rcases e11 with ⟨f1, f2, f3, f4, f5, f6, f7, f8⟩ | f1
    · -- a value, well read
      obtain ⟨p2, s6, y1, y2, y3, y4, y5, y6, y7, y8⟩ := skip_blanks (Zd := Zd) g4 f1
      have hbad : ms2.1 2 = -1 := f1.2.2.2.2.1
      have hml : m_readValue ms = _ := hrv (Or.inr ⟨hbad, by rw [f4, x1]; exact hm4, f2⟩)
      rw [y2, Option.bind_some] at hml
      have hm0 : ms2.1 0 = I5 0 := f1.2.1.symm
      have hp0 : 0 ≤ p2.toInt := by have := f1.2.2.2.2.2.1; omega
      have hp8 : p2.toInt ≤ 80 := by rw [hI50] at y6; omega
      have hs6 : s6.1.1 = st5.1.1 ∧ s6.1.2 = st5.1.2 := by rw [y4.2]; exact ⟨rfl, rfl⟩
      have hc := hcl _ e1 s6 y1 (fo_1 y3.1)
      by_cases hend : p2 < I5 0
      · have hnl : ¬ I5 0 ≤ p2 := fun e => by have := i32le.mp e; have := i32lt.mp hend; omega
        obtain ⟨s7, w1, w2, w3⟩ := c_fail1 (Zd := Zd) y3 (show upd I5 1 p2 2 = -1 from f1.2.2.2.1)
        have hs7 : s7.1.1 = st5.1.1 ∧ s7.1.2 = st5.1.2 := by rw [w3.2]; exact hs6
        have hr := c_right0 (Zd := Zd) w2 hp0
        rw [c_atEnd0 (Zd := Zd) y3 hend, Option.bind_some, if_pos rfl, fo_1 y3.1, Option.bind_some, w1, Option.bind_some, Option.bind_some, fo_1 w2.1, Option.bind_some, hr, Option.bind_some, if_pos rfl, Option.bind_some] at hc
        have hmf := m_fault1 y8
        have hml2 : m_readValue ms = some (upd (upd ms2.1 1 p2) 2 p2, ms2.2.1, ms2.2.2.1, ms2.2.2.2) := by
          rw [hml]
          show Option.bind (if (0 : Int32) ≤ ms2.1 2 then (some _ : Option MS) else if ms2.1 0 ≤ p2 then some _ else _) _ = _
          rw [hbad, if_neg neg1, hm0, if_neg hnl, hmf]
          rfl
        exact ⟨s7, _, A5, _, hml2, w2, hle5.tr (y4.1.tr w3.1), ⟨g6.1, g6.2⟩, hkI.tr ((kI.p _ _).tr (kI.f _ _)).k3, g8, hlow.tr (((kM.p ms2 p2 ms2.2.1).tr (kM.f _ _ _)).low _), by omega, by omega, Or.inr ⟨hc, hp0, hp8, rfl, hp0⟩⟩
      · have hle : I5 0 ≤ p2 := i32le.mpr (by
          rcases Int.lt_or_le p2.toInt (I5 0).toInt with h9 | h9
          · exact absurd (i32lt.mpr h9) hend
          · exact h9)
        have hr := c_right1 (Zd := Zd) y3 (show upd I5 1 p2 2 = -1 from f1.2.2.2.1)
        rw [c_atEnd1 (Zd := Zd) y3 hend, Option.bind_some, if_neg h10, Option.bind_some, fo_1 y3.1, Option.bind_some, hr, Option.bind_some, if_neg h10, Option.bind_some] at hc
        have hml2 : m_readValue ms = some (upd ms2.1 1 p2, ms2.2.1, ms2.2.2.1, ms2.2.2.2) := by
          rw [hml]
          show Option.bind (if (0 : Int32) ≤ ms2.1 2 then (some _ : Option MS) else if ms2.1 0 ≤ p2 then some _ else _) _ = _
          rw [hbad, if_neg neg1, hm0, if_pos hle]
          rfl
        exact ⟨s6, _, A5, _, hml2, y3, hle5.tr y4.1, ⟨g6.1, g6.2⟩, hkI.tr (kI.p _ _).k3, g8, hlow.tr ((kM.p ms2 p2 ms2.2.1).low _), by omega, by omega, Or.inl ⟨a, N, L5, hc, Tw.le hk.2.2 y4.1 _ _ _ _ _ e2, e3, e4, fun x hx => by have := e5 x hx; omega, by omega, f1.2.2.2.1, hbad, f6⟩⟩
    · -- a digit too many
      obtain ⟨q1, ⟨q2, q3, q4⟩, q5, q6⟩ := f1
      have hskip := c_skip_id (Zd := Zd) g4 q2 q4 (dg_nbl q5)
      have hb : 0 ≤ (ms2.1 2).toInt := by rw [q6]; exact q2
      have hml := hrv (Or.inl hb)
      rw [m_blanksB hb, Option.bind_some, if_pos (i32n hb), Option.bind_some] at hml
      obtain ⟨d1, d2, d3⟩ := chr_lt (c := chr (A5 0) (I5 0) (I5 1)) rfl (by have := q5.1; omega)
      obtain ⟨s7, w1, w2, w3⟩ := c_fail1 (Zd := Zd) g4 q1
      have hs7 : s7.1.1 = st5.1.1 ∧ s7.1.2 = st5.1.2 := by rw [w3.2]; exact ⟨rfl, rfl⟩
      have hr := c_right0 (Zd := Zd) w2 q2
      have hc := hcl _ e1 st5 hskip (fo_1 g4.1)
      rw [c_atEnd0 (Zd := Zd) g4 (i32lt.mpr d3), Option.bind_some, if_pos rfl, fo_1 g4.1, Option.bind_some, w1, Option.bind_some, Option.bind_some, fo_1 w2.1, Option.bind_some, hr, Option.bind_some, if_pos rfl, Option.bind_some] at hc
      exact ⟨s7, _, A5, ms2, hml, w2, hle5.tr w3.1, ⟨g6.1, g6.2⟩, hkI.tr (kI.f _ _).k3, g8, hlow, by omega, by omega, Or.inr ⟨hc, q2, q3, q6, q2⟩⟩
  · -- a fault
    obtain ⟨u1, u2, u3, u4⟩ := e2
    have hb : 0 ≤ (ms2.1 2).toInt := by rw [u3]; exact u1
    have hml := hrv (Or.inl hb)
    rw [m_blanksB hb, Option.bind_some, if_pos (i32n hb), Option.bind_some] at hml
    obtain ⟨p2, s6, y1, y2, y3, y4⟩ := skipA (Zd := Zd) g4 u4 (by rw [hI50]; exact hl8)
    have hs6 : s6.1.1 = st5.1.1 ∧ s6.1.2 = st5.1.2 := by rw [y3.2]; exact ⟨rfl, rfl⟩
    have hr := c_right0 (Zd := Zd) y2 (show 0 ≤ (I5 2).toInt from u1)
    have hne : ¬ upd I5 1 p2 2 = -1 := fun e9 => by
      have e9 : I5 2 = -1 := e9
      rw [e9] at u1
      exact absurd u1 (by decide)
    have hc := hcl _ e1 s6 y1 (fo_1 y2.1)
    refine ⟨s6, _, A5, ms2, hml, y2, hle5.tr y3.1, ⟨g6.1, g6.2⟩, hkI.tr (kI.p _ _).k3, g8, hlow, by omega, by omega, Or.inr ⟨?_, u1, u2, u3, y4⟩⟩
    rw [hc]
    by_cases hend : upd I5 1 p2 1 < upd I5 1 p2 0
    · rw [c_atEnd0 (Zd := Zd) y2 hend, Option.bind_some, if_pos rfl, fo_1 y2.1, Option.bind_some, c_fail0 (Zd := Zd) y2 hne, Option.bind_some, Option.bind_some, fo_1 y2.1, Option.bind_some, hr, Option.bind_some, if_pos rfl, Option.bind_some]
    · rw [c_atEnd1 (Zd := Zd) y2 hend, Option.bind_some, if_neg h10, Option.bind_some, fo_1 y2.1, Option.bind_some, hr, Option.bind_some, if_pos rfl, Option.bind_some]
end PARSE3
