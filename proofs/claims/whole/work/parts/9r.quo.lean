/-! Queries: a name in quotes, a number; class and model. -/
section QUO
variable {Zd : Nat → Nat} {K : KE} {st : CS} {ms : MS} {q : Nat → Nat} {cw : Nat} {I : Nat → Int32} {A : Nat → Nat → Int32} {R : Nat → Option Nat} {Q : Nat → Nat → Option Nat}
theorem quo_l : ∀ (m f1 f2 : Nat) (sk : CS) (Ik : Nat → Int32) (Ak : Nat → Nat → Int32) (mk : MS) (cs : List Int32) (n : Int32), cs.length + m = 10 → n.toInt = cs.length → m < f1 → m + 1 < f2 → Cx K sk q cw Ik Ak R Q → Tq Ik Ak mk → Sq Ik Ak mk cs → sk.1.1 + 2 ≤ Zd 6 → sk.1.2 + 14 ≤ Zd 7 →
    strOut Zd K sk q cw Ik Ak R Q mk ((c_Text_quoted_l1 Zd K (q 1) 39 0 f1 (n, sk)).bind fun e20 => match e20 with | .inl o9 => some o9 | .inr e8 => (isO K e8.2 (q 1) 1).bind fun _ => (c_Text_fail Zd K (q 1) e8.2).bind fun st26 => some (some (Zd 0), st26)) ((m_quoted_l1 f2 mk).bind fun e7 => (m_must (39 : Int32) e7).bind fun st12 => some st12) := by
  have L := nums
  have L10 : (10 : Int32).toInt = 10 := by decide
  have L39 : (39 : Int32).toInt = 39 ∧ (32 : Int32).toInt = 32 ∧ (255 : Int32).toInt = 255 ∧ (92 : Int32).toInt = 92 := by decide
  have h10 : ¬ ((1 : Int32) = 0) := by decide
  intro m
  induction m with
  | zero =>
    intro f1 f2 sk Ik Ak mk cs n h1 hn h2 h3 hC hT hS z6 z7
    obtain ⟨f1, rfl⟩ : ∃ f, f1 = f + 1 := ⟨f1 - 1, by omega⟩
    obtain ⟨f2, rfl⟩ : ∃ f, f2 = f + 2 := ⟨f2 - 2, by omega⟩
    have hT0 := hT
    obtain ⟨t1, t2, t3, t4, t5, t6, t7, t8⟩ := hT
    have hn10 : n = 10 := i32eq (by omega)
    subst hn10
    by_cases hq : chr (Ak 0) (Ik 0) (Ik 1) = 39
    · obtain ⟨s1, g1, g2, g3⟩ := c_take1 (Zd := Zd) hC t6 t8 (c := 39) (by decide) hq
      obtain ⟨d1, d2, d3⟩ := chr_lt hq (by decide)
      have k1 : (Ik 1 + 1).toInt = (Ik 1).toInt + 1 := by rw [i32add (by omega) (by omega)]; omega
      have hl15 := hS.1
      obtain ⟨s2, f1', f2', f3', f4', f5'⟩ := word_str (Zd := Zd) g2 (show 0 ≤ (Ik 15).toInt by omega) (show (Ik 15).toInt < 16 by omega) hS.2.2.2.2.2 (by rw [g3.2]; omega) (by rw [g3.2]; show sk.1.2 + 4 + (Ik 15).toInt.toNat ≤ _; omega)
      rw [g3.2] at f1' f2' f5'
      have hds : (List.range (upd Ik 1 (Ik 1 + 1) 15).toInt.toNat).map (Ak 7) = cs.map i2b := by
        show (List.range (Ik 15).toInt.toNat).map (Ak 7) = _
        rw [hl15, Int.toNat_natCast]
        exact map_i2b hS.2.2.2.1
      have hm := m_must1 hT0 (c := 39) hq
      left
      refine ⟨s2, _, _, _, cs, ?_, ?_, f3', g3.1.tr f4', by rw [f2'], by rw [f2']; show sk.1.2 + 4 + (Ik 15).toInt.toNat ≤ _; omega, hT0.up (J := mk.2.1) (B := mk.2.2.2) (p := Ik 1 + 1) (by omega) (by omega), ⟨hS.wq.1, hS.wq.2⟩, by rw [f5', hds], hS.2.1, hS.2.2.1, hS.2.2.2.2.1, by show (Ik 1).toInt < (Ik 1 + 1).toInt; omega, kI.p _ _, fun _ _ => rfl, kM.p _ _ _⟩
      · rw [c_Text_quoted_l1_s]
        simp only [show ¬ ((10 : Int32) < 10) from by decide, if_false, fo_1 hC.1, Option.bind_some, g1, h10, fg_1_1 g2.1, fo_9 g2.1, f1']
      · rw [m_quoted_l1_s]
        simp only [t5, neg1, if_false, mh hT0, Option.bind_some, hq, if_true, hm]
    · right
      obtain ⟨s1, g1, g2, g3⟩ := c_fail1 (Zd := Zd) hC t4
      have hb2 : (0 : Int32) ≤ upd mk.1 2 (Ik 1) 2 := i32n t6
      have hb : 0 ≤ (((upd mk.1 2 (Ik 1), mk.2.1, mk.2.2.1, mk.2.2.2) : MS).1 2).toInt := t6
      have hlen : m_lengthOf (mk.2.1 0) = some 10 := by
        rw [hS.len, show cs.length = 10 by omega]
        rfl
      refine ⟨s1, (upd mk.1 2 (Ik 1), mk.2.1, mk.2.2.1, mk.2.2.2), _, _, ?_, ?_, g2, g3, ⟨t6, by show (Ik 1).toInt ≤ 80; omega, rfl, t6⟩, ⟨hS.wq.1, hS.wq.2⟩, kI.f _ _, fun k _ => rfl, kM.f mk _ _⟩
      · rw [c_Text_quoted_l1_s]
        simp only [show ¬ ((10 : Int32) < 10) from by decide, if_false, fo_1 hC.1, Option.bind_some, c_take0 (Zd := Zd) hC t6 t8 hq, if_true, g1]
      · rw [m_quoted_l1_s]
        simp only [t5, neg1, if_false, mh hT0, Option.bind_some, hq, m_fault1 hT0, hlen, if_true, ite_self]
        rw [m_quoted_l1_s]
        simp only [hb2, if_true, Option.bind_some, m_mustB hb]
  | succ m ih =>
    intro f1 f2 sk Ik Ak mk cs n h1 hn h2 h3 hC hT hS z6 z7
    obtain ⟨f1, rfl⟩ : ∃ f, f1 = f + 1 := ⟨f1 - 1, by omega⟩
    obtain ⟨f2, rfl⟩ : ∃ f, f2 = f + 2 := ⟨f2 - 2, by omega⟩
    have hT0 := hT
    obtain ⟨t1, t2, t3, t4, t5, t6, t7, t8⟩ := hT
    have hn11 : ¬ (10 : Int32) < n := fun e => by have := i32lt.mp e; omega
    have hn10 : ¬ n = 10 := fun e => by rw [e] at hn; omega
    have hch := c_here (Zd := Zd) hC t6 t8
    have hl10 : ¬ Int32.ofNat cs.length = 10 := fun e => by
      have := ofNat_i (n := cs.length) (by omega)
      rw [e] at this
      omega
    by_cases hq : chr (Ak 0) (Ik 0) (Ik 1) = 39
    · obtain ⟨s1, g1, g2, g3⟩ := c_take1 (Zd := Zd) hC t6 t8 (c := 39) (by decide) hq
      obtain ⟨d1, d2, d3⟩ := chr_lt hq (by decide)
      have k1 : (Ik 1 + 1).toInt = (Ik 1).toInt + 1 := by rw [i32add (by omega) (by omega)]; omega
      have hl15 := hS.1
      obtain ⟨s2, f1', f2', f3', f4', f5'⟩ := word_str (Zd := Zd) g2 (show 0 ≤ (Ik 15).toInt by omega) (show (Ik 15).toInt < 16 by omega) hS.2.2.2.2.2 (by rw [g3.2]; omega) (by rw [g3.2]; show sk.1.2 + 4 + (Ik 15).toInt.toNat ≤ _; omega)
      rw [g3.2] at f1' f2' f5'
      have hds : (List.range (upd Ik 1 (Ik 1 + 1) 15).toInt.toNat).map (Ak 7) = cs.map i2b := by
        show (List.range (Ik 15).toInt.toNat).map (Ak 7) = _
        rw [hl15, Int.toNat_natCast]
        exact map_i2b hS.2.2.2.1
      have hm := m_must1 hT0 (c := 39) hq
      left
      refine ⟨s2, _, _, _, cs, ?_, ?_, f3', g3.1.tr f4', by rw [f2'], by rw [f2']; show sk.1.2 + 4 + (Ik 15).toInt.toNat ≤ _; omega, hT0.up (J := mk.2.1) (B := mk.2.2.2) (p := Ik 1 + 1) (by omega) (by omega), ⟨hS.wq.1, hS.wq.2⟩, by rw [f5', hds], hS.2.1, hS.2.2.1, hS.2.2.2.2.1, by show (Ik 1).toInt < (Ik 1 + 1).toInt; omega, kI.p _ _, fun _ _ => rfl, kM.p _ _ _⟩
      · rw [c_Text_quoted_l1_s]
        simp only [hn11, if_false, fo_1 hC.1, Option.bind_some, g1, h10, fg_1_1 g2.1, fo_9 g2.1, f1']
      · rw [m_quoted_l1_s]
        simp only [t5, neg1, if_false, mh hT0, Option.bind_some, hq, if_true, hm]
    · by_cases hgood : 32 ≤ (chr (Ak 0) (Ik 0) (Ik 1)).toInt ∧ (chr (Ak 0) (Ik 0) (Ik 1)).toInt ≤ 255 ∧ ¬ chr (Ak 0) (Ik 0) (Ik 1) = 92
      · obtain ⟨u1, u2, u3⟩ := hgood
        have v1 : ¬ chr (Ak 0) (Ik 0) (Ik 1) < 32 := fun e => by have := i32lt.mp e; omega
        have v2 : ¬ (255 : Int32) < chr (Ak 0) (Ik 0) (Ik 1) := fun e => by have := i32lt.mp e; omega
        have v3 : chr (Ak 0) (Ik 0) (Ik 1) ≤ 255 := i32le.mpr (by omega)
        obtain ⟨s1, s2, ms1, I1, A1, b1, b2, b3, b4, b5, b6, b7, b8, b9, b10, b11, b12⟩ := app_lock (Zd := Zd) hC hT0 hS (by omega) rfl (by omega) (by omega)
        have kn : (n + 1).toInt = n.toInt + 1 := by rw [i32add (by omega) (by omega)]; omega
        have i1 := ih f1 (f2 + 1) s2 I1 A1 ms1 _ (n + 1) (by rw [List.length_append, List.length_singleton]; omega) (by rw [kn, hn, List.length_append]; rfl) (by omega) (by omega) b5 b7 b8 (by rw [b6.2]; exact z6) (by rw [b6.2]; exact z7)
        have hcl : c_Text_quoted_l1 Zd K (q 1) 39 0 (f1 + 1) (n, sk) = c_Text_quoted_l1 Zd K (q 1) 39 0 f1 (n + 1, s2) := by
          rw [c_Text_quoted_l1_s]
          simp only [hn11, hn10, if_false, fo_1 hC.1, Option.bind_some, c_take0 (Zd := Zd) hC t6 t8 hq, if_true, c_Text_takeCharacter, hch, u3, v1, v3, fg_1_1 hC.1, c16 (show 0 ≤ (chr (Ak 0) (Ik 0) (Ik 1)).toInt by omega) (by omega), fo_9 hC.1, b1, b2, b3, h10]
        have hml : m_quoted_l1 (f2 + 2) mk = m_quoted_l1 (f2 + 1) ms1 := by
          rw [m_add_eq] at b4
          simp only [Option.bind_some] at b4
          have b4 := Option.some.inj b4
          rw [m_quoted_l1_s]
          simp only [t5, neg1, if_false, mh hT0, Option.bind_some, hq, v1, v2, u3, hS.len, hl10, m_add_eq]
          rw [b4]
        rw [hcl, hml]
        rcases i1 with ⟨s3, m3, I3, A3, ds, j1, j2, j3, j4, j5, j6, j7, j8, j9, j10, j11, j12, j13, j14, j15, j16⟩ | ⟨s3, m3, I3, A3, j1, j2, j3, j4, j5, j6, j7, j8, j9⟩
        · left
          rw [b6.2] at j1 j5 j6 j9
          exact ⟨s3, m3, I3, A3, ds, j1, j2, j3, b6.1.tr j4, j5, j6, j7, j8, j9, j10, j11, j12, by omega, b10.tr j14, b11.tr j15, b12.tr j16⟩
        · right
          exact ⟨s3, m3, I3, A3, j1, j2, j3, b6.tr j4, j5, j6, b10.tr j7, b11.tr j8, b12.tr j9⟩
      · right
        obtain ⟨s1, g1, g2, g3⟩ := c_fail1 (Zd := Zd) hC t4
        have hb2 : (0 : Int32) ≤ upd mk.1 2 (Ik 1) 2 := i32n t6
        have hb : 0 ≤ (((upd mk.1 2 (Ik 1), mk.2.1, mk.2.2.1, mk.2.2.2) : MS).1 2).toInt := t6
        have htc : c_Text_takeCharacter Zd K (q 1) 39 0 sk = some (0, sk) := by
          simp only [c_Text_takeCharacter, fo_1 hC.1, Option.bind_some, hch]
          by_cases e92 : chr (Ak 0) (Ik 0) (Ik 1) = 92
          · simp only [e92, if_true]
          · by_cases e32 : chr (Ak 0) (Ik 0) (Ik 1) < 32
            · simp only [e92, if_false, e32, if_true]
            · have e255 : ¬ chr (Ak 0) (Ik 0) (Ik 1) ≤ 255 := fun e => hgood ⟨by
                have : ¬ (chr (Ak 0) (Ik 0) (Ik 1)).toInt < 32 := fun e9 => e32 (i32lt.mpr (by omega))
                omega, by have := i32le.mp e; omega, e92⟩
              simp only [e92, e32, e255, if_false]
        have hmf : (if chr (Ak 0) (Ik 0) (Ik 1) < (32 : Int32) then ((m_fault mk).bind fun st26 => some st26) else (if (255 : Int32) < chr (Ak 0) (Ik 0) (Ik 1) then ((m_fault mk).bind fun st30 => some st30) else (if chr (Ak 0) (Ik 0) (Ik 1) = (92 : Int32) then ((m_fault mk).bind fun st34 => some st34) else ((m_lengthOf (mk.2.1 0)).bind fun x36 => if x36 = (10 : Int32) then ((m_fault mk).bind fun st45 => some st45) else ((m_add (chr (Ak 0) (Ik 0) (Ik 1)) mk).bind fun st41 => (some ((st41.1 1) + 1)).bind fun y43 => some (upd st41.1 1 y43, st41.2.1, st41.2.2.1, st41.2.2.2)))))) = some (upd mk.1 2 (Ik 1), mk.2.1, mk.2.2.1, mk.2.2.2) := by
          by_cases e32 : chr (Ak 0) (Ik 0) (Ik 1) < 32
          · rw [if_pos e32, m_fault1 hT0]; rfl
          · rw [if_neg e32]
            by_cases e255 : (255 : Int32) < chr (Ak 0) (Ik 0) (Ik 1)
            · rw [if_pos e255, m_fault1 hT0]; rfl
            · rw [if_neg e255]
              by_cases e92 : chr (Ak 0) (Ik 0) (Ik 1) = 92
              · rw [if_pos e92, m_fault1 hT0]; rfl
              · exact absurd ⟨by
                  have : ¬ (chr (Ak 0) (Ik 0) (Ik 1)).toInt < 32 := fun e9 => e32 (i32lt.mpr (by omega))
                  omega, by
                  have : ¬ 255 < (chr (Ak 0) (Ik 0) (Ik 1)).toInt := fun e9 => e255 (i32lt.mpr (by omega))
                  omega, e92⟩ hgood
        refine ⟨s1, (upd mk.1 2 (Ik 1), mk.2.1, mk.2.2.1, mk.2.2.2), _, _, ?_, ?_, g2, g3, ⟨t6, by show (Ik 1).toInt ≤ 80; omega, rfl, t6⟩, ⟨hS.wq.1, hS.wq.2⟩, kI.f _ _, fun k _ => rfl, kM.f mk _ _⟩
        · rw [c_Text_quoted_l1_s]
          simp only [hn11, hn10, if_false, fo_1 hC.1, Option.bind_some, c_take0 (Zd := Zd) hC t6 t8 hq, if_true, htc, g1]
        · rw [m_quoted_l1_s]
          simp only [t5, neg1, if_false, mh hT0, Option.bind_some, hq]
          simp only [Option.bind_some] at hmf
          rw [hmf, Option.bind_some, m_quoted_l1_s]
          simp only [hb2, if_true, Option.bind_some, m_mustB hb]
theorem quo_lock (h : Cx K st q cw I A R Q) (hT : Tq I A ms) (hW : Wq I A) (hq : chr (A 0) (I 0) (I 1) = 39) (z6 : st.1.1 + 2 ≤ Zd 6) (z7 : st.1.2 + 14 ≤ Zd 7) : strOut Zd K st q cw I A R Q ms (c_Text_quoted Zd K (q 1) 39 0 st) (m_quoted ms) := by
  have L := nums
  have hT0 := hT
  obtain ⟨t1, t2, t3, t4, t5, t6, t7, t8⟩ := hT
  obtain ⟨m1, s1, e1, e2, e3⟩ := word_set0 (Zd := Zd) h hW.1
  have hT1 : Tq (upd (upd I 14 m1) 15 0) A (ms.1, vp_updL (vp_updL ms.2.1 0 0) 1 0, ms.2.2.1, ms.2.2.2) := hT0
  have hkI : kI I (upd (upd I 14 m1) 15 0) := fun k _ _ h14 h15 => (upd_ne h15).trans (upd_ne h14)
  have hkM : kM ms (ms.1, vp_updL (vp_updL ms.2.1 0 0) 1 0, ms.2.2.1, ms.2.2.2) := ⟨fun _ _ _ => rfl, rfl, rfl⟩
  obtain ⟨s2, g1, g2, g3⟩ := c_need1 (Zd := Zd) e2 (show 0 ≤ (I 1).toInt from t6) t8 (c := 39) (by decide) hq
  obtain ⟨d1, d2, d3⟩ := chr_lt hq (by decide)
  have k1 : (I 1 + 1).toInt = (I 1).toInt + 1 := by rw [i32add (by omega) (by omega)]; omega
  have hT2 : Tq (upd (upd (upd I 14 m1) 15 0) 1 (I 1 + 1)) A (upd ms.1 1 (I 1 + 1), vp_updL (vp_updL ms.2.1 0 0) 1 0, ms.2.2.1, ms.2.2.2) := hT1.up (by omega) (by show (I 1 + 1).toInt ≤ (I 0).toInt; omega)
  have hS2 : Sq (upd (upd (upd I 14 m1) 15 0) 1 (I 1 + 1)) A (upd ms.1 1 (I 1 + 1), vp_updL (vp_updL ms.2.1 0 0) 1 0, ms.2.2.1, ms.2.2.2) [] := ⟨rfl, (by intro c hc; cases hc), by decide, fun i hi => absurd hi (Nat.not_lt_zero i), rfl, hW.2.2⟩
  have i1 := quo_l (Zd := Zd) 10 4096 4096 s2 _ A _ [] 0 rfl rfl (by decide) (by decide) g2 hT2 hS2 (by rw [g3.2, e3.2]; exact z6) (by rw [g3.2, e3.2]; exact z7)
  have hcl : c_Text_quoted Zd K (q 1) 39 0 st = ((c_Text_quoted_l1 Zd K (q 1) 39 0 4096 (0, s2)).bind fun e20 => match e20 with | .inl o9 => some o9 | .inr e8 => (isO K e8.2 (q 1) 1).bind fun _ => (c_Text_fail Zd K (q 1) e8.2).bind fun st26 => some (some (Zd 0), st26)) := by
    simp only [c_Text_quoted, fg_1_1 h.1, Option.bind_some, fo_9 h.1, e1, fo_1 e2.1, g1, show ¬ ((1 : Int32) = 0) from by decide, if_false]
    rfl
  have hml : m_quoted ms = ((m_quoted_l1 4096 (upd ms.1 1 (I 1 + 1), vp_updL (vp_updL ms.2.1 0 0) 1 0, ms.2.2.1, ms.2.2.2)).bind fun e7 => (m_must (39 : Int32) e7).bind fun st12 => some st12) := by
    have hm : m_must 39 (ms.1, vp_updL (vp_updL ms.2.1 0 0) 1 0, ms.2.2.1, ms.2.2.2) = some (upd ms.1 1 (I 1 + 1), vp_updL (vp_updL ms.2.1 0 0) 1 0, ms.2.2.1, ms.2.2.2) := m_must1 hT1 (c := 39) hq
    simp only [m_quoted, m_clear, Option.bind_some, hm]
  rw [hcl, hml]
  rcases i1 with ⟨s3, m2, I2, A2, ds, j1, j2, j3, j4, j5, j6, j7, j8, j9, j10, j11, j12, j13, j14, j15, j16⟩ | ⟨s3, m2, I2, A2, j1, j2, j3, j4, j5, j6, j7, j8, j9⟩
  · left
    rw [g3.2, e3.2] at j1 j5 j6 j9
    have j13 : (I 1 + 1).toInt < (I2 1).toInt := j13
    exact ⟨s3, m2, I2, A2, ds, j1, j2, j3, e3.1.tr (g3.1.tr j4), j5, j6, j7, j8, j9, j10, j11, j12, by omega, hkI.tr ((kI.p _ _).tr j14), j15, hkM.tr ((kM.p _ _ _).tr j16)⟩
  · right
    exact ⟨s3, m2, I2, A2, j1, j2, j3, e3.tr (g3.tr j4), j5, j6, hkI.tr ((kI.p _ _).tr j7), j8, hkM.tr ((kM.p _ _ _).tr j9)⟩
end QUO
