/-! Queries: names, texts in quotes, numbers; class and model. -/
def isLt (c : Int32) : Prop := (97 ≤ c.toInt ∧ c.toInt ≤ 122) ∨ (65 ≤ c.toInt ∧ c.toInt ≤ 90) ∨ c.toInt = 95
def isNc (c : Int32) : Prop := isLt c ∨ isDg c
theorem nL : (97 : Int32).toInt = 97 ∧ (122 : Int32).toInt = 122 ∧ (65 : Int32).toInt = 65 ∧ (90 : Int32).toInt = 90 ∧ (95 : Int32).toInt = 95 := by decide
theorem isLt_iff {c : Int32} : m_isLetter c = some (if (97 ≤ c.toInt ∧ c.toInt ≤ 122) ∨ (65 ≤ c.toInt ∧ c.toInt ≤ 90) ∨ c.toInt = 95 then 1 else 0) := by
  have N := nL
  have a1 : c < 97 ↔ c.toInt < 97 := ⟨fun e => by have := i32lt.mp e; omega, fun e => i32lt.mpr (by omega)⟩
  have a2 : c < 65 ↔ c.toInt < 65 := ⟨fun e => by have := i32lt.mp e; omega, fun e => i32lt.mpr (by omega)⟩
  have a3 : c ≤ 90 ↔ c.toInt ≤ 90 := ⟨fun e => by have := i32le.mp e; omega, fun e => i32le.mpr (by omega)⟩
  have a4 : c ≤ 122 ↔ c.toInt ≤ 122 := ⟨fun e => by have := i32le.mp e; omega, fun e => i32le.mpr (by omega)⟩
  have a5 : c = 95 ↔ c.toInt = 95 := ⟨fun e => by rw [e]; exact N.2.2.2.2, fun e => i32eq (by omega)⟩
  have b1 : bz 1 = some () := rfl
  have b0 : bz 0 = some () := rfl
  unfold m_isLetter
  simp only [a1, a2, a3, a4, a5]
  repeat' split
  all_goals first | rfl | (exfalso; omega)
theorem m_let1 {c : Int32} (h : isLt c) : m_isLetter c = some 1 := by unfold isLt at h; rw [isLt_iff, if_pos h]
theorem m_let0 {c : Int32} (h : ¬ isLt c) : m_isLetter c = some 0 := by unfold isLt at h; rw [isLt_iff, if_neg h]
theorem c_ns1 {Zd : Nat → Nat} {K : KE} {st : CS} {c : Int32} (h : isLt c) : c_Text_isNameStart Zd K c st = some 1 := m_let1 h
theorem c_ns0 {Zd : Nat → Nat} {K : KE} {st : CS} {c : Int32} (h : ¬ isLt c) : c_Text_isNameStart Zd K c st = some 0 := m_let0 h
theorem c_nc1 {Zd : Nat → Nat} {K : KE} {st : CS} {c : Int32} (h : isNc c) : c_Text_isNameCharacter Zd K c st = some 1 := by
  have h10 : ¬ ((1 : Int32) = 0) := by decide
  have b1 : bz 1 = some () := rfl
  by_cases hl : isLt c
  · simp only [c_Text_isNameCharacter, c_ns1 hl, Option.bind_some, h10, if_false, b1]
  · simp only [c_Text_isNameCharacter, c_ns0 hl, Option.bind_some, if_true, c_dig1 (h.resolve_left hl), h10, if_false, b1]
theorem c_nc0 {Zd : Nat → Nat} {K : KE} {st : CS} {c : Int32} (h : ¬ isNc c) : c_Text_isNameCharacter Zd K c st = some 0 := by
  have b0 : bz 0 = some () := rfl
  simp only [c_Text_isNameCharacter, c_ns0 (fun e => h (Or.inl e)), Option.bind_some, if_true, c_dig0 (fun e => h (Or.inr e)), b0]
theorem isNc.r {c : Int32} (h : isNc c) : 48 ≤ c.toInt ∧ c.toInt ≤ 122 := by
  rcases h with (h | h | h) | h
  · omega
  · omega
  · omega
  · unfold isDg at h; omega
/-- a letter or digit stands where none may stand -/
def Pn (I : Nat → Int32) (A : Nat → Nat → Int32) (ms : MS) : Prop := I 2 = -1 ∧ (0 ≤ (I 1).toInt ∧ (I 1).toInt ≤ 80 ∧ (I 0).toInt ≤ 80) ∧ isNc (chr (A 0) (I 0) (I 1)) ∧ ms.1 2 = I 1
section NAMES
variable {Zd : Nat → Nat} {K : KE} {st : CS} {ms : MS} {q : Nat → Nat} {cw : Nat} {I : Nat → Int32} {A : Nat → Nat → Int32} {R : Nat → Option Nat} {Q : Nat → Nat → Option Nat}
theorem Sq.len {cs : List Int32} (h : Sq I A ms cs) : m_lengthOf (ms.2.1 0) = some (Int32.ofNat cs.length) := by
  have h1 : ms.2.1 0 = (encU cs).1 := by rw [← h.2.2.2.2.1]
  rw [h1]
  exact enc_len h.2.1 h.2.2.1
/-- a letter more, on both sides -/
theorem app_lock (h : Cx K st q cw I A R Q) (hT : Tq I A ms) {cs : List Int32} (hS : Sq I A ms cs) (hl : cs.length < 10) {c : Int32} (hc : chr (A 0) (I 0) (I 1) = c) (c0 : 0 ≤ c.toInt) (c1 : c.toInt ≤ 255) : ∃ s1 s2 ms1 I1 A1, c_StringBuilder_append_C Zd K (q 9) c st = some (some (q 9), s1) ∧ gI K s1 (q 1) 1 3 = some (I 1) ∧ sF s1 (q 1) 1 3 (.int (I 1 + 1)) = some s2 ∧ ((m_add c ms).bind fun st48 => (some ((st48.1 1) + 1)).bind fun y50 => some (upd st48.1 1 y50, st48.2.1, st48.2.2.1, st48.2.2.2)) = some ms1 ∧ Cx K s2 q cw I1 A1 R Q ∧ stp K st s2 ∧ Tq I1 A1 ms1 ∧ Sq I1 A1 ms1 (cs ++ [c]) ∧ (I 1).toInt < (I1 1).toInt ∧ kI I I1 ∧ kA A A1 ∧ kM ms ms1 := by
  have L := nums
  have hT0 := hT
  obtain ⟨t1, t2, t3, t4, t5, t6, t7, t8⟩ := hT
  obtain ⟨d1, d2, d3⟩ := chr_lt hc c0
  have k1 : (I 1 + 1).toInt = (I 1).toInt + 1 := by rw [i32add (by omega) (by omega)]; omega
  have hI15 := hS.1
  obtain ⟨s1, e1, e2, e3⟩ := word_app (Zd := Zd) h (by omega) (by omega) c1
  obtain ⟨s2, f1, f2, f3⟩ := tw3 e2 (I 1 + 1)
  refine ⟨s1, s2, (upd ms.1 1 (I 1 + 1), vp_updL (vp_updL ms.2.1 1 (addE (ms.2.1 0, ms.2.1 1) c).2) 0 (addE (ms.2.1 0, ms.2.1 1) c).1, ms.2.2.1, ms.2.2.2), _, _, e1, fg_1_3 (I := upd I 15 (I 15 + 1)) e2.1, f1, ?_, f2, e3.tr f3, ?_, hS.add hl c0 (by omega), ?_, ?_, fun k hk => va_up_ne _ _ hk, ⟨fun k a b => upd_ne a, rfl, rfl⟩⟩
  · rw [m_add_eq]
    simp only [Option.bind_some, t3]
  · refine ⟨?_, t2, rfl, t4, t5, by show 0 ≤ (I 1 + 1).toInt; omega, by show (I 1 + 1).toInt ≤ (I 0).toInt; omega, t8⟩
    show va_up A 7 _ 0 = _
    rw [va_up_ne _ _ (by decide)]; exact t1
  · show (I 1).toInt < (I 1 + 1).toInt
    omega
  · exact fun k a b c d => (upd_ne a).trans (upd_ne d)
theorem name_l : ∀ (m f1 f2 : Nat) (sk : CS) (Ik : Nat → Int32) (Ak : Nat → Nat → Int32) (mk : MS) (cs : List Int32) (n : Int32), cs.length + m = 10 → n.toInt = cs.length → m < f1 → m + 1 < f2 → Cx K sk q cw Ik Ak R Q → Tq Ik Ak mk → Sq Ik Ak mk cs → ∃ e s1 I1 A1 ms1 ds, c_Text_plainName_l1 Zd K (q 1) f1 (n, sk) = some (e, s1) ∧ m_queryName_l1 f2 mk = some ms1 ∧ Cx K s1 q cw I1 A1 R Q ∧ stp K sk s1 ∧ Sq I1 A1 ms1 ds ∧ kI Ik I1 ∧ kA Ak A1 ∧ kM mk ms1 ∧ (Tq I1 A1 ms1 ∨ Pn I1 A1 ms1) := by
  have L := nums
  have N48 := n48
  have h10 : ¬ ((1 : Int32) = 0) := by decide
  intro m
  induction m with
  | zero =>
    intro f1 f2 sk Ik Ak mk cs n h1 hn h2 h3 hC hT hS
    obtain ⟨f1, rfl⟩ : ∃ f, f1 = f + 1 := ⟨f1 - 1, by omega⟩
    obtain ⟨f2, rfl⟩ : ∃ f, f2 = f + 2 := ⟨f2 - 2, by omega⟩
    have hT0 := hT
    obtain ⟨t1, t2, t3, t4, t5, t6, t7, t8⟩ := hT
    have hle : (10 : Int32) ≤ n := i32le.mpr (by omega)
    have hcl : c_Text_plainName_l1 Zd K (q 1) (f1 + 1) (n, sk) = some (n, sk) := by rw [c_Text_plainName_l1_s, if_pos hle]
    have hlen : m_lengthOf (mk.2.1 0) = some 10 := by
      rw [hS.len, show cs.length = 10 by omega]
      rfl
    by_cases hc : isNc (chr (Ak 0) (Ik 0) (Ik 1))
    · have hb2 : (0 : Int32) ≤ upd mk.1 2 (Ik 1) 2 := i32n t6
      refine ⟨n, sk, Ik, Ak, (upd mk.1 2 (Ik 1), mk.2.1, mk.2.2.1, mk.2.2.2), cs, hcl, ?_, hC, stp.rf K sk, hS, fun _ _ _ _ _ => rfl, fun _ _ => rfl, kM.f mk _ _, Or.inr ⟨t4, ⟨t6, by omega, t8⟩, hc, rfl⟩⟩
      rw [m_queryName_l1_s]
      by_cases hl : isLt (chr (Ak 0) (Ik 0) (Ik 1))
      · simp only [t5, neg1, if_false, mh hT0, Option.bind_some, m_let1 hl, h10, hlen, if_true, m_fault1 hT0]
        rw [m_queryName_l1_s]
        simp only [hb2, if_true]
      · simp only [t5, neg1, if_false, mh hT0, Option.bind_some, m_let0 hl, if_true, m_dig1 (hc.resolve_left hl), h10, hlen, m_fault1 hT0]
        rw [m_queryName_l1_s]
        simp only [hb2, if_true]
    · refine ⟨n, sk, Ik, Ak, mk, cs, hcl, ?_, hC, stp.rf K sk, hS, fun _ _ _ _ _ => rfl, fun _ _ => rfl, ⟨fun _ _ _ => rfl, rfl, rfl⟩, Or.inl hT0⟩
      rw [m_queryName_l1_s]
      simp only [t5, neg1, if_false, mh hT0, Option.bind_some, m_let0 (fun e => hc (Or.inl e)), if_true, m_dig0 (fun e => hc (Or.inr e))]
  | succ m ih =>
    intro f1 f2 sk Ik Ak mk cs n h1 hn h2 h3 hC hT hS
    obtain ⟨f1, rfl⟩ : ∃ f, f1 = f + 1 := ⟨f1 - 1, by omega⟩
    obtain ⟨f2, rfl⟩ : ∃ f, f2 = f + 1 := ⟨f2 - 1, by omega⟩
    have hT0 := hT
    obtain ⟨t1, t2, t3, t4, t5, t6, t7, t8⟩ := hT
    have hle : ¬ (10 : Int32) ≤ n := fun e => by have := i32le.mp e; omega
    have hch := c_here (Zd := Zd) hC t6 t8
    have hlen : m_lengthOf (mk.2.1 0) = some (Int32.ofNat cs.length) := hS.len
    have hl10 : ¬ Int32.ofNat cs.length = 10 := fun e => by
      have := ofNat_i (n := cs.length) (by omega)
      rw [e] at this
      omega
    by_cases hc : isNc (chr (Ak 0) (Ik 0) (Ik 1))
    · obtain ⟨r1, r2⟩ := hc.r
      obtain ⟨s1, s2, ms1, I1, A1, b1, b2, b3, b4, b5, b6, b7, b8, b9, b10, b11, b12⟩ := app_lock (Zd := Zd) hC hT0 hS (by omega) rfl (by omega) (by omega)
      have kn : (n + 1).toInt = n.toInt + 1 := by rw [i32add (by omega) (by omega)]; omega
      obtain ⟨e, s3, I3, A3, ms3, ds, i1, i2, i3, i4, i5, i6, i7, i8, i9⟩ := ih f1 f2 s2 I1 A1 ms1 _ (n + 1) (by rw [List.length_append, List.length_singleton]; omega) (by rw [kn, hn, List.length_append]; rfl) (by omega) (by omega) b5 b7 b8
      refine ⟨e, s3, I3, A3, ms3, ds, ?_, ?_, i3, b6.tr i4, i5, b10.tr i6, b11.tr i7, b12.tr i8, i9⟩
      · rw [c_Text_plainName_l1_s, if_neg hle]
        simp only [fo_1 hC.1, Option.bind_some, hch, c_nc1 hc, h10, if_false, fg_1_1 hC.1, c16 (show 0 ≤ (chr (Ak 0) (Ik 0) (Ik 1)).toInt by omega) (by omega), fo_9 hC.1, b1, b2, b3]
        exact i1
      · rw [m_add_eq] at b4
        simp only [Option.bind_some] at b4
        have b4 := Option.some.inj b4
        rw [← b4] at i2
        rw [m_queryName_l1_s]
        by_cases hl : isLt (chr (Ak 0) (Ik 0) (Ik 1))
        · simp only [t5, neg1, if_false, mh hT0, Option.bind_some, m_let1 hl, h10, hlen, hl10, m_add_eq]
          exact i2
        · simp only [t5, neg1, if_false, mh hT0, Option.bind_some, m_let0 hl, if_true, m_dig1 (hc.resolve_left hl), h10, hlen, hl10, m_add_eq]
          exact i2
    · refine ⟨n, sk, Ik, Ak, mk, cs, ?_, ?_, hC, stp.rf K sk, hS, fun _ _ _ _ _ => rfl, fun _ _ => rfl, ⟨fun _ _ _ => rfl, rfl, rfl⟩, Or.inl hT0⟩
      · rw [c_Text_plainName_l1_s, if_neg hle]
        simp only [fo_1 hC.1, Option.bind_some, hch, c_nc0 hc, if_true]
      · rw [m_queryName_l1_s]
        simp only [t5, neg1, if_false, mh hT0, Option.bind_some, m_let0 (fun e => hc (Or.inl e)), if_true, m_dig0 (fun e => hc (Or.inr e))]
theorem name_lock (h : Cx K st q cw I A R Q) (hT : Tq I A ms) (hW : Wq I A) (hl : isLt (chr (A 0) (I 0) (I 1))) (z6 : st.1.1 + 2 ≤ Zd 6) (z7 : st.1.2 + 14 ≤ Zd 7) : ∃ s1 ms1 I1 A1 ds, c_Text_plainName Zd K (q 1) st = some (some st.1.1, s1) ∧ m_queryName ms = some ms1 ∧ Cx K s1 q cw I1 A1 R Q ∧ le K st s1 ∧ s1.1.1 = st.1.1 + 2 ∧ s1.1.2 ≤ st.1.2 + 14 ∧ Wq I1 A1 ∧ strOf K s1 st.1.1 = some (ds.map i2b) ∧ okC ds ∧ ds.length ≤ 10 ∧ (ms1.2.1 0, ms1.2.1 1) = encU ds ∧ kI I I1 ∧ kA A A1 ∧ kM ms ms1 ∧ (Tq I1 A1 ms1 ∨ Pn I1 A1 ms1) := by
  have L := nums
  have h10 : ¬ ((1 : Int32) = 0) := by decide
  obtain ⟨m1, s1, e1, e2, e3⟩ := word_set0 (Zd := Zd) h hW.1
  have hT1 : Tq (upd (upd I 14 m1) 15 0) A (ms.1, vp_updL (vp_updL ms.2.1 0 0) 1 0, ms.2.2.1, ms.2.2.2) := hT
  have hkI : kI I (upd (upd I 14 m1) 15 0) := fun k _ _ h14 h15 => (upd_ne h15).trans (upd_ne h14)
  have hkM : kM ms (ms.1, vp_updL (vp_updL ms.2.1 0 0) 1 0, ms.2.2.1, ms.2.2.2) := ⟨fun _ _ _ => rfl, rfl, rfl⟩
  have hS : Sq (upd (upd I 14 m1) 15 0) A (ms.1, vp_updL (vp_updL ms.2.1 0 0) 1 0, ms.2.2.1, ms.2.2.2) [] := ⟨rfl, (by intro c hc; cases hc), by decide, fun i hi => absurd hi (Nat.not_lt_zero i), rfl, hW.2.2⟩
  obtain ⟨e, s2, I2, A2, ms2, ds, i1, i2, i3, i4, i5, i6, i7, i8, i9⟩ := name_l (Zd := Zd) 10 4096 4096 s1 _ A _ [] 0 rfl rfl (by decide) (by decide) e2 hT1 hS
  have hs21 : s2.1 = st.1 := by rw [i4.2, e3.2]
  have hl15 := i5.1
  have hl10 := i5.2.2.1
  obtain ⟨s3, f1, f2, f3, f4, f5⟩ := word_str (Zd := Zd) i3 (by omega) (by omega) i5.2.2.2.2.2 (by rw [hs21]; exact z6) (by rw [hs21]; omega)
  rw [hs21] at f1 f2 f5
  have hds : (List.range (I2 15).toInt.toNat).map (A2 7) = ds.map i2b := by
    rw [hl15, Int.toNat_natCast]
    exact map_i2b i5.2.2.2.1
  refine ⟨s3, ms2, I2, A2, ds, ?_, ?_, f3, e3.1.tr (i4.1.tr f4), by rw [f2], by rw [f2]; dsimp only; omega, i5.wq, by rw [f5, hds], i5.2.1, hl10, i5.2.2.2.2.1, hkI.tr i6, i7, hkM.tr i8, i9⟩
  · simp only [c_Text_plainName, fg_1_1 h.1, Option.bind_some, fo_9 h.1, e1, i1, fg_1_1 i3.1, fo_9 i3.1, f1]
  · have hmh : m_here (ms.1, vp_updL (vp_updL ms.2.1 0 0) 1 0, ms.2.2.1, ms.2.2.2) = some (chr (A 0) (I 0) (I 1)) := mh hT1
    have t5 : ms.1 2 = -1 := hT.2.2.2.2.1
    simp only [m_queryName, m_clear, Option.bind_some, t5, neg1, if_false, hmh, m_let1 hl, h10, i2]
end NAMES
