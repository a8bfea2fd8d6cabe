/-! result, output, page, open. -/
section SIM
variable {Zd : Nat → Nat} {K : KE} {st : CS} {ms : MS} {q : Nat → Nat} {cw : Nat} {I : Nat → Int32} {A : Nat → Nat → Int32} {R : Nat → Option Nat} {Q : Nat → Nat → Option Nat}
theorem c_has (hF : Fx st q cw I A R Q) (i : Int32) : c_Finder_has Zd K (q 5) i st = some (if i < 0 then 0 else if I 5 ≤ i then 0 else 1) := by
  by_cases h1 : i < 0
  · simp only [c_Finder_has, h1, if_true, Option.bind_some, bz]; rfl
  · by_cases h2 : I 5 ≤ i
    · simp only [c_Finder_has, h1, h2, fg_5_4 hF, if_true, if_false, Option.bind_some, bz]; rfl
    · simp only [c_Finder_has, h1, h2, fg_5_4 hF, if_false, Option.bind_some, bz]; rfl
theorem wi_0 {i n : Int32} (h0 : 0 ≤ n.toInt) (h : i < 0 ∨ n ≤ i) : m_within i 0 (n - 1) = some 0 := by
  have L := nums
  refine m_within_0 (h.imp id (fun e => i32lt.mpr ?_))
  have e1 := i32le.mp e
  rw [i32sub (by omega) (by have := n.toInt_lt; omega)]
  omega
theorem wi_1 {i n : Int32} (h1 : ¬ i < 0) (h2 : ¬ n ≤ i) : m_within i 0 (n - 1) = some 1 := by
  have L := nums
  have e0 : ¬ i.toInt < (0 : Int32).toInt := fun e => h1 (i32lt.mpr e)
  have e1 : ¬ n.toInt ≤ i.toInt := fun e => h2 (i32le.mpr e)
  refine m_within_1 h1 (fun e => ?_)
  have e2 := i32lt.mp e
  rw [i32sub (by omega) (by have := n.toInt_lt; omega)] at e2
  omega
theorem sim_result (h : Rv Zd K st ms q cw I A R Q) (i : Int32) : ∃ r, c_PagedValues_result Zd K (q 0) i st = some r ∧ m_result i ms = some r := by
  have L := nums
  obtain ⟨hF, hw, hT, hS, hP, hk, hd, ⟨r1, r2, r3, r4⟩, ho, hb, hz⟩ := h
  by_cases h1 : i < 0
  · refine ⟨-1, ?_, ?_⟩
    · simp only [c_PagedValues_result, fg_0_4 hF, fo_5 hF, Option.bind_some, c_has hF, h1, if_true]
    · simp only [m_result, Option.bind_some, ← r1, wi_0 r2 (Or.inl h1), if_true]
  by_cases h2 : I 5 ≤ i
  · refine ⟨-1, ?_, ?_⟩
    · simp only [c_PagedValues_result, fg_0_4 hF, fo_5 hF, Option.bind_some, c_has hF, h1, h2, if_true, if_false]
    · simp only [m_result, Option.bind_some, ← r1, wi_0 r2 (Or.inr h2), if_true]
  have e0 : ¬ i.toInt < (0 : Int32).toInt := fun e => h1 (i32lt.mpr e)
  have e1 : ¬ (I 5).toInt ≤ i.toInt := fun e => h2 (i32le.mpr e)
  have hin : vp_in i 32 := vp_of (by omega) (by omega)
  obtain ⟨b1, -⟩ := r4 i.toNatClampNeg (by rw [tnn]; omega)
  refine ⟨A 1 i.toNatClampNeg, ?_, ?_⟩
  · simp only [c_PagedValues_result, fg_0_4 hF, fo_5 hF, Option.bind_some, c_has hF, h1, h2, if_false, fg_5_1 hF, fr_13 hF hin, show ¬ ((1 : Int32) = 0) from by decide]
  · simp only [m_result, Option.bind_some, ← r1, wi_1 h1 h2, rd_in hin, if_false, show ¬ ((1 : Int32) = 0) from by decide, b1]
theorem sim_output (h : Rv Zd K st ms q cw I A R Q) (i : Int32) : ∃ r, c_PagedValues_output Zd K (q 0) i st = some r ∧ m_output i ms = some r := by
  have L := nums
  obtain ⟨hF, hw, hT, hS, hP, hk, hd, hr, ⟨o1, o2, o3, o4, o5, o6, o7⟩, hb, hz⟩ := h
  have hlen : c_StringBuilder_length Zd K (q 7) st = some (I 13) := by
    simp only [c_StringBuilder_length, fo_7 hF, Option.bind_some, c_AbstractStringBuilder_length, fg_7_3 hF]
  by_cases h1 : i < 0
  · refine ⟨-1, ?_, ?_⟩
    · simp only [c_PagedValues_output, h1, if_true, Option.bind_some]
    · simp only [m_output, Option.bind_some, ← o1, wi_0 o2 (Or.inl h1), if_true]
  by_cases h2 : I 13 ≤ i
  · refine ⟨-1, ?_, ?_⟩
    · simp only [c_PagedValues_output, h1, h2, if_true, if_false, fg_0_6 hF, fo_7 hF, Option.bind_some, hlen]
    · simp only [m_output, Option.bind_some, ← o1, wi_0 o2 (Or.inr h2), if_true]
  have e0 : ¬ i.toInt < (0 : Int32).toInt := fun e => h1 (i32lt.mpr e)
  have e1 : ¬ (I 13).toInt ≤ i.toInt := fun e => h2 (i32le.mpr e)
  have hin : vp_in i cw := vp_of (by omega) (by omega)
  have hin2 : vp_in i 1200 := vp_of (by omega) (by omega)
  have b1 := o7 i.toNatClampNeg (by rw [tnn]; omega)
  obtain ⟨u1, u2⟩ := u8_r (A 6 i.toNatClampNeg)
  have hcw : (Int32.ofNat cw).toInt = cw := ofNat_i (by omega)
  have hmin : (if Int32.ofNat cw < I 13 then Int32.ofNat cw else I 13) = I 13 := if_neg (fun e => by have := i32lt.mp e; omega)
  have hlt : i < I 13 := i32lt.mpr (by omega)
  have hla : lA K st (q 22) 2 = some cw := lA_ar ⟨(hF.fl (i := 22) rfl).1, (hF.fl (i := 22) rfl).2⟩
  have hch : c_StringBuilder_charAt Zd K (q 7) i st = some (u8 (A 6 i.toNatClampNeg)) := by
    simp only [c_StringBuilder_charAt, fo_7 hF, Option.bind_some, c_AbstractStringBuilder_charAt, fg_7_1 hF, fg_7_0 hF, fg_7_3 hF, hla, shr0, hmin, c_String_checkIndex, c_Preconditions_checkIndex, h1, hlt, if_true, if_false, fr_22 hF hin]
    show ((some (((u8 (A 6 i.toNatClampNeg)).toUInt32 % 65536).toInt32)).bind fun y25 => (nrC y25).bind fun _ => some y25).bind _ = _
    rw [c16 u1 (by omega)]
    simp only [Option.bind_some, nrC_in u1 (show (u8 (A 6 i.toNatClampNeg)).toInt < 65536 by omega)]
  refine ⟨u8 (A 6 i.toNatClampNeg), ?_, ?_⟩
  · simp only [c_PagedValues_output, h1, h2, if_false, fg_0_6 hF, fo_7 hF, Option.bind_some, hlen, hch]
  · simp only [m_output, Option.bind_some, ← o1, wi_1 h1 h2, rd_in hin2, if_false, show ¬ ((1 : Int32) = 0) from by decide, b1]
/-- how a root uses a page -/
def useU (A : Nat → Nat → Int32) (r p : Int32) : Int32 := if r = p then 1 else if leafS A r 0 = p then 2 else if leafS A r 1 = p then 2 else 0
theorem c_useU (hF : Fx st q cw I A R Q) {r : Int32} (hr : pgr r) (p : Int32) : c_Store_useUnder Zd K (q 6) r p st = some (useU A r p) := by
  by_cases h1 : r = p
  · simp only [c_Store_useUnder, useU, h1, if_true]
  · by_cases h2 : leafS A r 0 = p
    · simp only [c_Store_useUnder, useU, h1, h2, if_true, if_false, fo_6 hF, Option.bind_some, c_leaf hF hr (Or.inl rfl)]
    · by_cases h3 : leafS A r 1 = p
      · simp only [c_Store_useUnder, useU, h1, h2, h3, if_true, if_false, fo_6 hF, Option.bind_some, c_leaf hF hr (Or.inl rfl), c_leaf hF hr (Or.inr rfl)]
      · simp only [c_Store_useUnder, useU, h1, h2, h3, if_false, fo_6 hF, Option.bind_some, c_leaf hF hr (Or.inl rfl), c_leaf hF hr (Or.inr rfl)]
theorem m_reach (hp : Rp A ms) {r p : Int32} (hr : pgr r) (hp0 : 0 ≤ p.toInt) : m_reaches r p ms = some (if useU A r p = 0 then 0 else 1) := by
  have L := nums
  by_cases h0 : r = -1
  · subst h0
    have e1 : ¬ (-1 : Int32) = p := fun e => by rw [← e] at hp0; omega
    have e2 : useU A (-1) p = 0 := by simp only [useU, leafS, e1, if_true, if_false]
    rw [e2, if_pos rfl]
    simp only [m_reaches, show (-1 : Int32) < 0 from by decide, if_true, Option.bind_some, bz]; rfl
  · obtain ⟨h2, h3, h4⟩ := pgr_in hr h0
    have hr0 : ¬ r < 0 := fun e => by have := i32lt.mp e; omega
    have hr5 : r.toNatClampNeg < 12 := by rw [tnn]; omega
    have m1 : ((2 : Int32) * r).toInt = 2 * r.toInt := i32mulk 2 (by decide) (by omega) (by omega)
    have m2 : ((2 : Int32) * r + 1).toInt = 2 * r.toInt + 1 := by rw [i32add (by omega) (by omega)]; omega
    have hk1 : ((2 : Int32) * r).toNatClampNeg = 2 * r.toNatClampNeg + 0 := by rw [tnn, tnn, m1]; omega
    have hk2 : ((2 : Int32) * r + 1).toNatClampNeg = 2 * r.toNatClampNeg + 1 := by rw [tnn, tnn, m2]; omega
    have l0 : leafS A r 0 = ms.2.2.1 13 (2 * r.toNatClampNeg + 0) := by unfold leafS; rw [if_neg h0]; exact (hp _ hr5 0 (by decide)).1
    have l1 : leafS A r 1 = ms.2.2.1 13 (2 * r.toNatClampNeg + 1) := by unfold leafS; rw [if_neg h0]; exact (hp _ hr5 1 (by decide)).1
    have i1 : vp_in ((2 : Int32) * r) 24 := vp_of (by omega) (by omega)
    have i2 : vp_in ((2 : Int32) * r + 1) 24 := vp_of (by omega) (by omega)
    by_cases e1 : r = p
    · simp only [m_reaches, useU, hr0, e1, if_true, if_false, Option.bind_some, bz]
      rw [if_neg (fun e => hr0 (by rw [e1]; exact e))]
      rfl
    · by_cases e2 : ms.2.2.1 13 (2 * r.toNatClampNeg + 0) = p
      · simp only [m_reaches, useU, hr0, e1, l0, e2, if_true, if_false, Option.bind_some, rd_in i1, hk1, bz]; rfl
      · by_cases e3 : ms.2.2.1 13 (2 * r.toNatClampNeg + 1) = p
        · simp only [m_reaches, useU, hr0, e1, l0, l1, e2, e3, if_true, if_false, Option.bind_some, rd_in i1, rd_in i2, hk1, hk2, bz]; rfl
        · simp only [m_reaches, useU, hr0, e1, l0, l1, e2, e3, if_true, if_false, Option.bind_some, rd_in i1, rd_in i2, hk1, hk2, bz]; rfl
end SIM
