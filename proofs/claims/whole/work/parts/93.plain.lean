/-! Words and numbers: class and model. -/
def musts : List Int32 → MS → Option MS
  | [], ms => some ms
  | c :: cs, ms => (m_must c ms).bind fun m1 => musts cs m1
theorem four_eq (a b c d : Int32) (ms : MS) : m_four a b c d ms = musts [a, b, c, d] ms := rfl
theorem mustsB {ms : MS} (h : 0 ≤ (ms.1 2).toInt) : ∀ cs, musts cs ms = some ms := by
  intro cs
  induction cs with
  | nil => rfl
  | cons c cs ih =>
    show ((m_must c ms).bind fun m1 => musts cs m1) = _
    rw [m_mustB h, Option.bind_some, ih]
theorem u8_id {c : Int32} (h0 : 0 ≤ c.toInt) (h1 : c.toInt < 256) : u8 c = c := by
  have hu : (u8 c).toBitVec.toNat = c.toBitVec.toNat &&& 255 := by
    unfold u8
    rw [Int32.toBitVec_and, BitVec.toNat_and]
    rfl
  have hm : c.toBitVec.toNat &&& 255 = c.toBitVec.toNat % 256 := Nat.and_two_pow_sub_one_eq_mod _ 8
  have hb := bv_of h0
  apply i32eq
  rw [int_of (hu.trans hm) (by omega)]
  omega
theorem mul10 {v : Int32} (h0 : 0 ≤ v.toInt) (h1 : v.toInt ≤ 1000000) : (10 * v).toInt = 10 * v.toInt ∧ (v * 10).toInt = 10 * v.toInt := by
  have h : (10 : Int32).toInt = 10 := by decide
  constructor
  · rw [i32mul (by rw [h]; omega) (by rw [h]; omega), h]
  · rw [i32mul (by rw [h]; omega) (by rw [h]; omega), h]; omega
def isDg (c : Int32) : Prop := 48 ≤ c.toInt ∧ c.toInt ≤ 57
theorem n48 : (48 : Int32).toInt = 48 ∧ (57 : Int32).toInt = 57 ∧ (45 : Int32).toInt = 45 ∧ (10 : Int32).toInt = 10 ∧ (6 : Int32).toInt = 6 ∧ (999999 : Int32).toInt = 999999 ∧ (24 : Int32).toInt = 24 := by decide
theorem m_dig1 {c : Int32} (h : isDg c) : m_isDigit c = some 1 := by
  have N := n48
  have e1 : ¬ c < 48 := fun e => by have := i32lt.mp e; have := h.1; omega
  have e2 : ¬ (57 : Int32) < c := fun e => by have := i32lt.mp e; have := h.2; omega
  simp only [m_isDigit, e1, e2, if_false, Option.bind_some]
  rfl
theorem m_dig0 {c : Int32} (h : ¬ isDg c) : m_isDigit c = some 0 := by
  have N := n48
  by_cases e1 : c < 48
  · simp only [m_isDigit, e1, if_true, Option.bind_some]
    rfl
  · have e2 : (57 : Int32) < c := i32lt.mpr (by
      have h9 : ¬ c.toInt < (48 : Int32).toInt := fun e => e1 (i32lt.mpr e)
      have h8 : ¬ (48 ≤ c.toInt ∧ c.toInt ≤ 57) := h
      omega)
    simp only [m_isDigit, e1, e2, if_false, if_true, Option.bind_some]
    rfl
theorem c_dig1 {Zd : Nat → Nat} {K : KE} {st : CS} {c : Int32} (h : isDg c) : c_Text_isDigit Zd K c st = some 1 := m_dig1 h
theorem c_dig0 {Zd : Nat → Nat} {K : KE} {st : CS} {c : Int32} (h : ¬ isDg c) : c_Text_isDigit Zd K c st = some 0 := m_dig0 h
section PLAIN
variable {Zd : Nat → Nat} {K : KE} {st : CS} {ms : MS} {q : Nat → Nat} {cw : Nat} {I : Nat → Int32} {A : Nat → Nat → Int32} {R : Nat → Option Nat} {Q : Nat → Nat → Option Nat}
theorem word_l {b : Nat} {ls : List Int32} (hb : ∀ s, wf K s → strOf K s b = some ls) (hl : ls.length ≤ 10) (hc : ∀ c ∈ ls, 0 ≤ c.toInt ∧ c.toInt < 128) : ∀ (rs ds : List Int32) (fuel : Nat) (n : Int32) (sk : CS) (Ik : Nat → Int32) (mk : MS), ls = ds ++ rs → n.toInt = ds.length → rs.length < fuel → Cx K sk q cw Ik A R Q → Tq Ik A mk →
    (∃ s1 p e, c_ValueParser_word_l1 Zd K (some (q 1)) (some b) fuel (n, sk) = some (.inr (e, s1)) ∧ musts rs mk = some (upd mk.1 1 p, mk.2.1, mk.2.2.1, mk.2.2.2) ∧ Cx K s1 q cw (upd Ik 1 p) A R Q ∧ stp K sk s1 ∧ Tq (upd Ik 1 p) A (upd mk.1 1 p, mk.2.1, mk.2.2.1, mk.2.2.2)) ∨
    ∃ s1 p, c_ValueParser_word_l1 Zd K (some (q 1)) (some b) fuel (n, sk) = some (.inl (none, s1)) ∧ musts rs mk = some (upd (upd mk.1 1 p) 2 p, mk.2.1, mk.2.2.1, mk.2.2.2) ∧ Cx K s1 q cw (upd (upd Ik 1 p) 2 p) A R Q ∧ stp K sk s1 ∧ 0 ≤ p.toInt ∧ p.toInt ≤ 80 := by
  have L := nums
  intro rs
  induction rs with
  | nil =>
    intro ds fuel n sk Ik mk hls hn hf hC hT
    left
    obtain ⟨g, rfl⟩ : ∃ g, fuel = g + 1 := ⟨fuel - 1, by omega⟩
    have hs := hb sk hC.2.1
    rw [List.append_nil] at hls
    have hle : Int32.ofNat ls.length ≤ n := i32le.mpr (by rw [ofNat_i (by omega), hls]; omega)
    have e0 : upd Ik 1 (Ik 1) = Ik := upd_id rfl
    have e1 : upd mk.1 1 (Ik 1) = mk.1 := upd_id hT.2.2.1.symm
    refine ⟨sk, Ik 1, n, ?_, by rw [e1]; rfl, by rw [e0]; exact hC, stp.rf K sk, by rw [e0, e1]; exact hT⟩
    rw [c_ValueParser_word_l1_s]
    simp only [Option.bind_some, str_isO hs, str_len hs, hle, if_true]
  | cons c rs ih =>
    intro ds fuel n sk Ik mk hls hn hf hC hT
    obtain ⟨g, rfl⟩ : ∃ g, fuel = g + 1 := ⟨fuel - 1, by omega⟩
    have hs := hb sk hC.2.1
    have hll : ls.length = ds.length + (rs.length + 1) := by rw [hls, List.length_append]; rfl
    have hrl : (c :: rs).length = rs.length + 1 := rfl
    have hle : ¬ Int32.ofNat ls.length ≤ n := fun e => by have := i32le.mp e; rw [ofNat_i (by omega)] at this; omega
    have hcm : c ∈ ls := by rw [hls]; simp
    obtain ⟨c0, c1⟩ := hc c hcm
    have hgc : ls.getD n.toInt.toNat 0 = c := by
      rw [hls, hn, List.getD_eq_getElem?_getD]
      simp
    have hch := str_char (Zd := Zd) hs (by omega) (i := n) (by omega) (by omega)
    rw [hgc, u8_id c0 (by omega)] at hch
    have hT0 := hT
    obtain ⟨t1, t2, t3, t4, t5, t6, t7, t8⟩ := hT
    have k1 : (n + 1).toInt = n.toInt + 1 := by rw [i32add (by omega) (by omega)]; omega
    by_cases hq : chr (A 0) (Ik 0) (Ik 1) = c
    · obtain ⟨s1, f1, f2, f3⟩ := c_need1 (Zd := Zd) hC t6 t8 c0 hq
      obtain ⟨d1, d2, d3⟩ := chr_lt hq c0
      have kp : (Ik 1 + 1).toInt = (Ik 1).toInt + 1 := by rw [i32add (by omega) (by omega)]; omega
      have hT1 := hT0.up (p := Ik 1 + 1) (J := mk.2.1) (B := mk.2.2.2) (by omega) (by omega)
      have i1 := ih (ds ++ [c]) g (n + 1) s1 _ _ (by rw [hls, List.append_assoc]; rfl) (by rw [List.length_append, List.length_singleton]; omega) (by omega) f2 hT1
      have hstep : c_ValueParser_word_l1 Zd K (some (q 1)) (some b) (g + 1) (n, sk) = c_ValueParser_word_l1 Zd K (some (q 1)) (some b) g (n + 1, s1) := by
        rw [c_ValueParser_word_l1_s]
        simp only [Option.bind_some, str_isO hs, str_len hs, hle, if_false, hch, fo_1 hC.1, f1, show ¬ ((1 : Int32) = 0) from by decide]
      have hm : musts (c :: rs) mk = musts rs (upd mk.1 1 (Ik 1 + 1), mk.2.1, mk.2.2.1, mk.2.2.2) := by
        show ((m_must c mk).bind fun m1 => musts rs m1) = _
        rw [m_must1 hT0 hq, Option.bind_some]
      rw [hstep, hm]
      rcases i1 with ⟨s2, p, e, j1, j2, j3, j4, j5⟩ | ⟨s2, p, j1, j2, j3, j4, j5, j6⟩
      · left
        rw [upd_upd] at j3 j5
        have j2 : musts rs (upd mk.1 1 (Ik 1 + 1), mk.2.1, mk.2.2.1, mk.2.2.2) = some (upd (upd mk.1 1 (Ik 1 + 1)) 1 p, mk.2.1, mk.2.2.1, mk.2.2.2) := j2
        rw [upd_upd] at j2
        have j5 : Tq (upd Ik 1 p) A (upd (upd mk.1 1 (Ik 1 + 1)) 1 p, mk.2.1, mk.2.2.1, mk.2.2.2) := j5
        rw [upd_upd] at j5
        exact ⟨s2, p, e, j1, j2, j3, f3.tr j4, j5⟩
      · right
        rw [upd_upd] at j3
        have j2 : musts rs (upd mk.1 1 (Ik 1 + 1), mk.2.1, mk.2.2.1, mk.2.2.2) = some (upd (upd (upd mk.1 1 (Ik 1 + 1)) 1 p) 2 p, mk.2.1, mk.2.2.1, mk.2.2.2) := j2
        rw [upd_upd] at j2
        exact ⟨s2, p, j1, j2, j3, f3.tr j4, j5, j6⟩
    · right
      obtain ⟨s1, f1, f2, f3⟩ := c_need0 (Zd := Zd) hC t6 t8 hq t4
      have e0 : upd Ik 1 (Ik 1) = Ik := upd_id rfl
      have e1 : upd mk.1 1 (Ik 1) = mk.1 := upd_id hT0.2.2.1.symm
      refine ⟨s1, Ik 1, ?_, ?_, by rw [e0]; exact f2, f3, t6, by omega⟩
      · rw [c_ValueParser_word_l1_s]
        simp only [Option.bind_some, str_isO hs, str_len hs, hle, if_false, hch, fo_1 hC.1, f1, if_true]
      · show ((m_must c mk).bind fun m1 => musts rs m1) = _
        rw [m_must0 hT0 hq, Option.bind_some, e1]
        exact mustsB (ms := (upd mk.1 2 (Ik 1), mk.2.1, mk.2.2.1, mk.2.2.2)) t6 rs
/-- what the reader of a plain value comes to -/
def plOut (Zd : Nat → Nat) (K : KE) (st : CS) (q : Nat → Nat) (cw : Nat) (I : Nat → Int32) (A : Nat → Nat → Int32) (R : Nat → Option Nat) (Q : Nat → Nat → Option Nat) (ms : MS) (cv : Option (Option Nat × CS)) (mp : Option (Int32 × MS)) : Prop :=
  ∃ st1 I1 A1 ms1 o, mp = some (o, ms1) ∧ (0 ≤ o.toInt ∧ o.toInt < 5) ∧ Cx K st1 q cw I1 A1 R Q ∧ le K st st1 ∧ Wq I1 A1 ∧ kI I I1 ∧ kA A A1 ∧ kM ms ms1 ∧ st1.1.1 ≤ st.1.1 + 3 ∧ st1.1.2 ≤ st.1.2 + 20 ∧
    ((∃ a num cs, cv = some (some a, st1) ∧ st.1.1 ≤ a ∧ Nv Zd K st1 a o num cs [] none none ∧ okS cs ∧ (-999999 ≤ num.toInt ∧ num.toInt ≤ 999999) ∧
      ((Tq I1 A1 ms1 ∧ ms1.2.1 0 = payA (o, 1, num, cs, []) ∧ ms1.2.1 1 = payB (o, 1, num, cs, [])) ∨ (I1 2 = -1 ∧ (0 ≤ (I1 1).toInt ∧ (I1 1).toInt ≤ 80 ∧ (I1 0).toInt ≤ 80) ∧ isDg (chr (A1 0) (I1 0) (I1 1)) ∧ ms1.1 2 = I1 1))) ∨
     (cv = some (none, st1) ∧ Fq I1 ms1))
theorem word_lock (hk : kc Zd K) (h : Cx K st q cw I A R Q) (hT : Tq I A ms) (hW : Wq I A) {b i : Nat} (hi : i < 3) {ls : List Int32} (hb : ∀ s, wf K s → strOf K s b = some ls) (hl : ls.length ≤ 10) (hc : ∀ c ∈ ls, 0 ≤ c.toInt ∧ c.toInt < 128) (z6 : st.1.1 + 3 ≤ Zd 6) (z7 : st.1.2 + 20 ≤ Zd 7) :
    plOut Zd K st q cw I A R Q ms (c_ValueParser_word Zd K (q 2) (some (q 1)) (some b) (some (Zd (8 + i))) st) ((m_clear ms).bind fun m0 => (musts ls m0).bind fun m1 => some (([0, 1, 2, 3, 4, 5, 6] : List Int32).getD i 0, m1)) := by
  have ho : 0 ≤ (([0, 1, 2, 3, 4, 5, 6] : List Int32).getD i 0).toInt ∧ (([0, 1, 2, 3, 4, 5, 6] : List Int32).getD i 0).toInt < 5 := by
    rcases (show i = 0 ∨ i = 1 ∨ i = 2 by omega) with rfl | rfl | rfl <;> decide
  have ho3 : ([0, 1, 2, 3, 4, 5, 6] : List Int32).getD i 0 ≠ 3 ∧ ([0, 1, 2, 3, 4, 5, 6] : List Int32).getD i 0 ≠ 4 := by
    rcases (show i = 0 ∨ i = 1 ∨ i = 2 by omega) with rfl | rfl | rfl <;> decide
  have hT1 : Tq I A (ms.1, vp_updL (vp_updL ms.2.1 0 0) 1 0, ms.2.2.1, ms.2.2.2) := hT
  have hkM : kM ms (ms.1, vp_updL (vp_updL ms.2.1 0 0) 1 0, ms.2.2.1, ms.2.2.2) := ⟨fun _ _ _ => rfl, rfl, rfl⟩
  rcases word_l (Zd := Zd) hb hl hc ls [] 4096 0 st I _ rfl rfl (by omega) h hT1 with ⟨s1, p, e, j1, j2, j3, j4, j5⟩ | ⟨s1, p, j1, j2, j3, j4, j5, j6⟩
  · have z61 : s1.1.1 + 1 ≤ Zd 6 := by rw [j4.2]; omega
    have z71 : s1.1.2 + 6 ≤ Zd 7 := by rw [j4.2]; omega
    obtain ⟨s2, s3, g1, g2, g3, g4, g5, g6⟩ := new_val (num := 0) hk j3 (show i < 7 by omega) (hk.str j3.2.1 (i := 0) rfl) z61 z71
    refine ⟨s3, _, _, _, _, by simp only [m_clear, Option.bind_some, j2], ho, g3, j4.1.tr g4, ⟨hW.1, hW.2⟩, kI.p _ _, fun _ _ => rfl, hkM.tr (kM.p _ _ _), by rw [g5, j4.2]; dsimp only; omega, by rw [g5, j4.2]; dsimp only; omega, Or.inl ⟨s1.1.1, 0, [], ?_, by rw [j4.2]; exact Nat.le_refl _, g6, ⟨by decide, fun c hc => by cases hc⟩, by decide, Or.inl ⟨j5, ?_, ?_⟩⟩⟩
    · simp only [c_ValueParser_word, j1, Option.bind_some, g1, g2]
    · unfold payA
      rw [if_neg ho3.1, if_neg ho3.2]
      rfl
    · unfold payB
      rw [if_neg ho3.2]
      rfl
  · refine ⟨s1, upd (upd I 1 p) 2 p, A, (upd (upd ms.1 1 p) 2 p, vp_updL (vp_updL ms.2.1 0 0) 1 0, ms.2.2.1, ms.2.2.2), _, by simp only [m_clear, Option.bind_some, j2], ho, j3, j4.1, ⟨hW.1, hW.2⟩, (kI.p _ _).tr (kI.f _ _), fun _ _ => rfl, (kM.p ms p (vp_updL (vp_updL ms.2.1 0 0) 1 0)).tr (kM.f _ _ _), by rw [j4.2]; omega, by rw [j4.2]; omega, Or.inr ⟨?_, j5, j6, rfl, j5⟩⟩
    simp only [c_ValueParser_word, j1, Option.bind_some]
theorem str_lock (hk : kc Zd K) (h : Cx K st q cw I A R Q) (hT : Tq I A ms) (hW : Wq I A) (z6 : st.1.1 + 3 ≤ Zd 6) (z7 : st.1.2 + 20 ≤ Zd 7) :
    plOut Zd K st q cw I A R Q ms (c_ValueParser_string Zd K (q 2) (some (q 1)) st) ((m_string ms).bind fun m1 => some ((4 : Int32), m1)) := by
  rcases string_lock (Zd := Zd) h hT hW (by omega) (by omega) with ⟨s1, m1, I1, A1, cs, j1, j2, j3, j4, j5, j6, j7, j8, j9, j10, j11, j12, j13, j14, j15, j16⟩ | ⟨s1, m1, I1, A1, j1, j2, j3, j4, j5, j6, j7, j8, j9⟩
  · obtain ⟨s2, s3, g1, g2, g3, g4, g5, g6⟩ := new_val (num := 0) hk j3 (show 4 < 7 by decide) j9 (by omega) (by omega)
    refine ⟨s3, I1, A1, m1, 4, by rw [j2]; rfl, by decide, g3, j4.tr g4, j8, j14, j15, j16, by rw [g5]; dsimp only; omega, by rw [g5]; dsimp only; omega, Or.inl ⟨s1.1.1, 0, cs.map i2b, ?_, by omega, g6, okS_i2b j11, by decide, Or.inl ⟨j7, ?_, ?_⟩⟩⟩
    · have hr := c_right1 (Zd := Zd) j3 j7.2.2.2.1
      simp only [c_ValueParser_string, Option.bind_some, fo_1 h.1, j1, fo_1 j3.1, hr, show ¬ ((1 : Int32) = 0) from by decide, if_false, g1, g2]
    · show _ = (enc (cs.map i2b)).1
      rw [enc_i2b j10, ← j12]
    · show _ = (enc (cs.map i2b)).2
      rw [enc_i2b j10, ← j12]
  · refine ⟨s1, I1, A1, m1, 4, by rw [j2]; rfl, by decide, j3, j4.1, j6, j7, j8, j9, by rw [j4.2]; omega, by rw [j4.2]; omega, Or.inr ⟨?_, j5⟩⟩
    have hr := c_right0 (Zd := Zd) j3 j5.1
    simp only [c_ValueParser_string, Option.bind_some, fo_1 h.1, j1, fo_1 j3.1, hr, if_true]
theorem dig_l : ∀ (m f1 f2 : Nat) (v n : Int32) (P : Int) (sk : CS) (Ik : Nat → Int32) (mk : MS), n.toInt + m = 6 → 0 ≤ n.toInt → P * 10 ^ m = 1000000 → 0 ≤ v.toInt → v.toInt < P → (P ≤ 10 * v.toInt ∨ (v = 0 ∧ P = 1 ∧ ¬ chr (A 0) (Ik 0) (Ik 1) = 48)) → m < f1 → m + 2 < f2 → Cx K sk q cw Ik A R Q → Tq Ik A mk →
    ∃ v1 n1 s1 p, c_Text_digits_l1 Zd K (q 1) 6 f1 (v, n, sk) = some (v1, n1, s1) ∧ Cx K s1 q cw (upd Ik 1 p) A R Q ∧ stp K sk s1 ∧ 0 ≤ v1.toInt ∧ v1.toInt ≤ 999999 ∧ (Ik 1).toInt ≤ p.toInt ∧ p.toInt ≤ (Ik 0).toInt ∧
      ((∃ n2, m_number_l1 0 f2 (v, n, mk) = some (v1, n2, (upd mk.1 1 p, mk.2.1, mk.2.2.1, mk.2.2.2))) ∨ (∃ v2 n2, isDg (chr (A 0) (Ik 0) p) ∧ m_number_l1 0 f2 (v, n, mk) = some (v2, n2, (upd (upd mk.1 1 p) 2 p, mk.2.1, mk.2.2.1, mk.2.2.2)))) := by
  have L := nums
  have N := n48
  intro m
  induction m with
  | zero =>
    intro f1 f2 v n P sk Ik mk h1 h2 hP v0 v1 hv hf1 hf2 hC hT
    obtain ⟨f1, rfl⟩ : ∃ g, f1 = g + 1 := ⟨f1 - 1, by omega⟩
    obtain ⟨f2, rfl⟩ : ∃ g, f2 = g + 2 := ⟨f2 - 2, by omega⟩
    have hT0 := hT
    obtain ⟨t1, t2, t3, t4, t5, t6, t7, t8⟩ := hT
    have hP : P = 1000000 := by simpa using hP
    have hle : (6 : Int32) ≤ n := i32le.mpr (by omega)
    have e0 : upd Ik 1 (Ik 1) = Ik := upd_id rfl
    have e1 : upd mk.1 1 (Ik 1) = mk.1 := upd_id t3.symm
    refine ⟨v, n, sk, Ik 1, ?_, by rw [e0]; exact hC, stp.rf K sk, v0, by omega, Int.le_refl _, t7, ?_⟩
    · rw [c_Text_digits_l1_s, if_pos hle]
    · by_cases hd : isDg (chr (A 0) (Ik 0) (Ik 1))
      · right
        have hv9 : 1000000 ≤ 10 * v.toInt := by
          rcases hv with h9 | ⟨h9, h8, -⟩
          · omega
          · omega
        have e2 : (10 * v).toInt = 10 * v.toInt := (mul10 v0 (by omega)).1
        have e3 : (10 * v + chr (A 0) (Ik 0) (Ik 1)).toInt = 10 * v.toInt + (chr (A 0) (Ik 0) (Ik 1)).toInt := by rw [i32add (by have := hd.1; have := hd.2; omega) (by have := hd.1; have := hd.2; omega)]; omega
        have e4 : (10 * v + chr (A 0) (Ik 0) (Ik 1) - 48).toInt = 10 * v.toInt + (chr (A 0) (Ik 0) (Ik 1)).toInt - 48 := by rw [i32sub (by have := hd.1; have := hd.2; omega) (by have := hd.1; have := hd.2; omega)]; omega
        have e5 : (999999 : Int32) < 10 * v + chr (A 0) (Ik 0) (Ik 1) - 48 := i32lt.mpr (by have := hd.1; omega)
        refine ⟨10 * v + chr (A 0) (Ik 0) (Ik 1) - 48, n + 1, hd, ?_⟩
        rw [m_number_l1_s]
        simp only [t5, neg1, if_false, mh hT0, Option.bind_some, m_dig1 hd, show ¬ ((1 : Int32) = 0) from by decide, e5, if_true, m_fault1 hT0]
        rw [m_number_l1_s]
        have hb2 : (0 : Int32) ≤ upd mk.1 2 (Ik 1) 2 := i32n t6
        simp only [hb2, if_true, e1]
      · left
        refine ⟨n, ?_⟩
        rw [m_number_l1_s]
        simp only [t5, neg1, if_false, mh hT0, Option.bind_some, m_dig0 hd, if_true, e1]
  | succ m ih =>
    intro f1 f2 v n P sk Ik mk h1 h2 hP v0 v1 hv hf1 hf2 hC hT
    obtain ⟨f1, rfl⟩ : ∃ g, f1 = g + 1 := ⟨f1 - 1, by omega⟩
    obtain ⟨f2, rfl⟩ : ∃ g, f2 = g + 1 := ⟨f2 - 1, by omega⟩
    have hT0 := hT
    obtain ⟨t1, t2, t3, t4, t5, t6, t7, t8⟩ := hT
    have hle : ¬ (6 : Int32) ≤ n := fun e => by have := i32le.mp e; omega
    have hP10 : 10 * P ≤ 1000000 := by
      have hp : (1 : Int) ≤ 10 ^ m := by
        have : (0 : Int) < 10 ^ m := Int.pow_pos (by decide)
        omega
      rw [Int.pow_succ] at hP
      have hP1 : 0 ≤ P := by omega
      have : P * 1 ≤ P * 10 ^ m := Int.mul_le_mul_of_nonneg_left hp hP1
      have h9 : P * (10 ^ m * 10) = P * 10 ^ m * 10 := by rw [Int.mul_assoc]
      omega
    have hch := c_here (Zd := Zd) hC t6 t8
    have e0 : upd Ik 1 (Ik 1) = Ik := upd_id rfl
    have e1 : upd mk.1 1 (Ik 1) = mk.1 := upd_id t3.symm
    by_cases hd : isDg (chr (A 0) (Ik 0) (Ik 1))
    · generalize hcc : chr (A 0) (Ik 0) (Ik 1) = c at *
      have hd1 := hd.1
      have hd2 := hd.2
      obtain ⟨d1, d2, d3⟩ := chr_lt hcc (by omega)
      have k1 : (Ik 1 + 1).toInt = (Ik 1).toInt + 1 := by rw [i32add (by omega) (by omega)]; omega
      have k2 : (n + 1).toInt = n.toInt + 1 := by rw [i32add (by omega) (by omega)]; omega
      have m1 : (10 * v).toInt = 10 * v.toInt := (mul10 v0 (by omega)).1
      have m2 : (v * 10).toInt = 10 * v.toInt := (mul10 v0 (by omega)).2
      have m3 : (c - 48).toInt = c.toInt - 48 := by rw [i32sub (by omega) (by omega)]; omega
      have m4 : (v * 10 + (c - 48)).toInt = 10 * v.toInt + (c.toInt - 48) := by rw [i32add (by omega) (by omega)]; omega
      have m5 : (10 * v + c).toInt = 10 * v.toInt + c.toInt := by rw [i32add (by omega) (by omega)]; omega
      have m6 : 10 * v + c - 48 = v * 10 + (c - 48) := i32eq (by rw [i32sub (by omega) (by omega)]; omega)
      have m7 : ¬ (999999 : Int32) < v * 10 + (c - 48) := fun e => by have := i32lt.mp e; omega
      obtain ⟨s2, g1, g2, g3⟩ := tw3 hC (Ik 1 + 1)
      have hT1 := hT0.up (p := Ik 1 + 1) (J := mk.2.1) (B := mk.2.2.2) (by omega) (by omega)
      have hv9 : 10 * P ≤ 10 * (v * 10 + (c - 48)).toInt := by
        rcases hv with h9 | ⟨h9, h8, h7⟩
        · omega
        · have : c.toInt ≠ 48 := fun e => h7 (i32eq (by omega))
          rw [h9] at m4
          rw [h9, m4, h8]
          omega
      obtain ⟨w1, n1, s1, p, i1, i2, i3, i4, i5, i6, i7, i8⟩ := ih f1 f2 (v * 10 + (c - 48)) (n + 1) (10 * P) s2 _ _ (by omega) (by omega) (by
        rw [Int.pow_succ] at hP
        rw [← hP, Int.mul_comm 10 P, Int.mul_assoc, Int.mul_comm 10 (10 ^ m)]) (by omega) (by omega) (Or.inl hv9) (by omega) (by omega) g2 hT1
      rw [upd_upd] at i2
      have i6 : (Ik 1 + 1).toInt ≤ p.toInt := i6
      refine ⟨w1, n1, s1, p, ?_, i2, g3.tr i3, i4, i5, by omega, i7, ?_⟩
      · rw [c_Text_digits_l1_s]
        simp only [hle, if_false, fo_1 hC.1, Option.bind_some, hch, c_dig1 hd, show ¬ ((1 : Int32) = 0) from by decide, fg_1_3 hC.1, g1]
        exact i1
      · have hst : m_number_l1 0 (f2 + 1) (v, n, mk) = m_number_l1 0 f2 (v * 10 + (c - 48), n + 1, (upd mk.1 1 (Ik 1 + 1), mk.2.1, mk.2.2.1, mk.2.2.2)) := by
          have hmh := mh hT0
          rw [hcc] at hmh
          rw [m_number_l1_s]
          simp only [t5, neg1, if_false, hmh, Option.bind_some, m_dig1 hd, show ¬ ((1 : Int32) = 0) from by decide, m6, m7, if_true, ← t3]
        rw [hst]
        rcases i8 with ⟨n2, i8⟩ | ⟨v2, n2, i8, i9⟩
        · left
          refine ⟨n2, ?_⟩
          rw [i8]
          dsimp only
          rw [upd_upd]
        · right
          refine ⟨v2, n2, i8, ?_⟩
          rw [i9]
          dsimp only
          rw [upd_upd]
    · refine ⟨v, n, sk, Ik 1, ?_, by rw [e0]; exact hC, stp.rf K sk, v0, by omega, Int.le_refl _, t7, Or.inl ⟨n, ?_⟩⟩
      · rw [c_Text_digits_l1_s]
        simp only [hle, if_false, fo_1 hC.1, Option.bind_some, hch, c_dig0 hd, if_true]
      · rw [m_number_l1_s]
        simp only [t5, neg1, if_false, mh hT0, Option.bind_some, m_dig0 hd, if_true, e1]
end PLAIN
