/-! The store's reads. -/
theorem i32lt {a b : Int32} : a < b ↔ a.toInt < b.toInt := Int32.lt_iff_toInt_lt
theorem i32le {a b : Int32} : a ≤ b ↔ a.toInt ≤ b.toInt := Int32.le_iff_toInt_le
theorem i32ne {a b : Int32} (h : ¬ a = b) : a.toInt ≠ b.toInt := fun e => h (i32eq e)
theorem nums : (0 : Int32).toInt = 0 ∧ (1 : Int32).toInt = 1 ∧ (2 : Int32).toInt = 2 ∧ (3 : Int32).toInt = 3 ∧ (4 : Int32).toInt = 4 ∧ (7 : Int32).toInt = 7 ∧ (8 : Int32).toInt = 8 ∧ (11 : Int32).toInt = 11 ∧ (12 : Int32).toInt = 12 ∧ (20 : Int32).toInt = 20 ∧ (24 : Int32).toInt = 24 ∧ (32 : Int32).toInt = 32 ∧ (80 : Int32).toInt = 80 ∧ (-1 : Int32).toInt = -1 := by decide
theorem i32mulk {c x : Int32} (n : Int) (hc : c.toInt = n) (h1 : -2147483648 ≤ n * x.toInt) (h2 : n * x.toInt < 2147483648) : (c * x).toInt = n * x.toInt := by
  rw [i32mul (by rw [hc]; exact h1) (by rw [hc]; exact h2), hc]
theorem pgr_in {r : Int32} (h : pgr r) (h1 : ¬ r = -1) : vp_in r 12 ∧ 0 ≤ r.toInt ∧ r.toInt < 12 := by
  have L := nums
  have h2 := i32ne h1
  obtain ⟨h3, h4⟩ := h
  exact ⟨vp_of (by omega) (by omega), by omega, by omega⟩
def leafS (A : Nat → Nat → Int32) (r h : Int32) : Int32 := if r = -1 then -1 else A (10 + r.toNatClampNeg) h.toNatClampNeg
theorem id8 {d : Int32} (h0 : ¬ d < 0) (h8 : ¬ 8 ≤ d) : d = 0 ∨ d = 1 ∨ d = 2 ∨ d = 3 ∨ d = 4 ∨ d = 5 ∨ d = 6 ∨ d = 7 := by
  have L := nums
  rw [i32lt] at h0
  rw [i32le] at h8
  have h9 : d.toInt = 0 ∨ d.toInt = 1 ∨ d.toInt = 2 ∨ d.toInt = 3 ∨ d.toInt = 4 ∨ d.toInt = 5 ∨ d.toInt = 6 ∨ d.toInt = 7 := by omega
  rcases h9 with h | h | h | h | h | h | h | h
  · exact Or.inl (i32eq (h.trans (by decide)))
  · exact Or.inr (Or.inl (i32eq (h.trans (by decide))))
  · exact Or.inr (Or.inr (Or.inl (i32eq (h.trans (by decide)))))
  · exact Or.inr (Or.inr (Or.inr (Or.inl (i32eq (h.trans (by decide))))))
  · exact Or.inr (Or.inr (Or.inr (Or.inr (Or.inl (i32eq (h.trans (by decide)))))))
  · exact Or.inr (Or.inr (Or.inr (Or.inr (Or.inr (Or.inl (i32eq (h.trans (by decide))))))))
  · exact Or.inr (Or.inr (Or.inr (Or.inr (Or.inr (Or.inr (Or.inl (i32eq (h.trans (by decide)))))))))
  · exact Or.inr (Or.inr (Or.inr (Or.inr (Or.inr (Or.inr (Or.inr (i32eq (h.trans (by decide)))))))))
/-- half and place of an id -/
theorem id_half {d : Int32} (h0 : ¬ d < 0) (h8 : ¬ 8 ≤ d) : (d / 4 = 0 ∨ d / 4 = 1) ∧ 0 ≤ (d - d / 4 * 4).toInt ∧ (d - d / 4 * 4).toInt < 4 ∧ d.toInt = 4 * (d / 4).toInt + (d - d / 4 * 4).toInt := by
  rcases id8 h0 h8 with rfl | rfl | rfl | rfl | rfl | rfl | rfl | rfl <;> decide
def docS (A : Nat → Nat → Int32) (Q : Nat → Nat → Option Nat) (r d : Int32) : Option Nat := if d < 0 then none else if 8 ≤ d then none else if leafS A r (d / 4) = -1 then none else Q (10 + (leafS A r (d / 4)).toNatClampNeg) (d - d / 4 * 4).toNatClampNeg
section STORE
variable {Zd : Nat → Nat} {K : KE} {st : CS} {ms : MS} {q : Nat → Nat} {cw : Nat} {I : Nat → Int32} {A : Nat → Nat → Int32} {R : Nat → Option Nat} {Q : Nat → Nat → Option Nat}
theorem pg_read (hF : Fx st q cw I A R Q) {r : Int32} (h0 : 0 ≤ r.toInt) (h1 : r.toInt < 12) : rQ K st (q 16) 6 r = some (some (q (100 + 3 * r.toNatClampNeg))) := by
  rw [fr_16 hF (vp_of h0 (by omega))]
  have h2 : r.toNatClampNeg < 12 := by rw [tnn]; omega
  rw [(hF.2.1 _ h2).1]
theorem c_leaf (hF : Fx st q cw I A R Q) {r h : Int32} (hr : pgr r) (hh : h = 0 ∨ h = 1) : c_Store_leafOf Zd K (q 6) r h st = some (leafS A r h) := by
  by_cases h1 : r = -1
  · simp only [c_Store_leafOf, h1, if_true, Option.bind_some, leafS]
  · obtain ⟨h2, h3, h4⟩ := pgr_in hr h1
    have h5 : r.toNatClampNeg < 12 := by rw [tnn]; omega
    obtain ⟨p1, p2, p3, p4⟩ := hF.2.1 _ h5
    have hin : vp_in h 2 := by rcases hh with rfl | rfl <;> unfold vp_in <;> decide
    simp only [c_Store_leafOf, h1, if_false, fg_6_0 hF, Option.bind_some, pg_read hF h3 h4, gQ_ob (k := 1) (r := some (q (102 + 3 * r.toNatClampNeg))) p2 rfl, rA_ar p4 hin, leafS]
theorem leaf_r (hp : Rp A ms) {r h : Int32} (hr : pgr r) (hh : h = 0 ∨ h = 1) : pgr (leafS A r h) := by
  unfold leafS
  by_cases h1 : r = -1
  · rw [if_pos h1]; unfold pgr; decide
  · rw [if_neg h1]
    obtain ⟨h2, h3, h4⟩ := pgr_in hr h1
    have h5 : r.toNatClampNeg < 12 := by rw [tnn]; omega
    refine (hp _ h5 _ ?_).2
    rcases hh with rfl | rfl <;> decide
theorem c_doc (hF : Fx st q cw I A R Q) (hp : Rp A ms) {r : Int32} (hr : pgr r) (d : Int32) : c_Store_document Zd K (q 6) r d st = some (docS A Q r d) := by
  by_cases h0 : d < 0
  · simp only [c_Store_document, c_PagedValues_isId, docS, h0, if_true, Option.bind_some, bz]; rfl
  · by_cases h8 : 8 ≤ d
    · simp only [c_Store_document, c_PagedValues_isId, docS, h0, h8, if_true, if_false, Option.bind_some, bz]; rfl
    · obtain ⟨g1, g2, g3, g4⟩ := id_half h0 h8
      have hid : c_PagedValues_isId Zd K d st = some 1 := by
        simp only [c_PagedValues_isId, h0, h8, if_false, Option.bind_some, bz]; rfl
      by_cases h1 : leafS A r (d / 4) = -1
      · simp only [c_Store_document, hid, docS, h0, h8, h1, if_true, if_false, Option.bind_some, fo_6 hF, c_leaf hF hr g1, show ¬ ((1 : Int32) = 0) from by decide]
      · obtain ⟨h2, h3, h4⟩ := pgr_in (leaf_r hp hr g1) h1
        have h5 : (leafS A r (d / 4)).toNatClampNeg < 12 := by rw [tnn]; omega
        obtain ⟨p1, p2, p3, p4⟩ := hF.2.1 _ h5
        simp only [c_Store_document, hid, docS, h0, h8, h1, if_false, Option.bind_some, fo_6 hF, c_leaf hF hr g1, show ¬ ((1 : Int32) = 0) from by decide, fg_6_0 hF, pg_read hF h3 h4, gQ_ob (k := 0) (r := some (q (101 + 3 * (leafS A r (d / 4)).toNatClampNeg))) p2 rfl, rQ_ar p3 (vp_of g2 (by omega))]
/-- a row of the model: -1 or its number -/
def rowS (ms : MS) (r d : Int32) : Int32 := if r < 0 then -1 else if d < 0 then -1 else if 8 ≤ d then -1 else if ms.2.2.1 13 (2 * r.toNatClampNeg + (d / 4).toNatClampNeg) < 0 then -1 else if ms.2.2.1 14 (4 * (ms.2.2.1 13 (2 * r.toNatClampNeg + (d / 4).toNatClampNeg)).toNatClampNeg + (d - d / 4 * 4).toNatClampNeg) = 0 then -1 else 4 * ms.2.2.1 13 (2 * r.toNatClampNeg + (d / 4).toNatClampNeg) + (d - d / 4 * 4)
theorem m_row (hp : Rp A ms) {r : Int32} (hr : pgr r) (d : Int32) : m_rowOf r d ms = some (rowS ms r d) := by
  have L := nums
  by_cases hr0 : r < 0
  · simp only [m_rowOf, rowS, hr0, if_true, Option.bind_some, show (-1 : Int32) < 0 from by decide]
  · by_cases h0 : d < 0
    · simp only [m_rowOf, rowS, hr0, h0, if_true, if_false, Option.bind_some, m_within_0 (Or.inl h0), show (-1 : Int32) < 0 from by decide]
    · by_cases h8 : 8 ≤ d
      · have h7 : 7 < d := i32lt.mpr (by have := i32le.mp h8; omega)
        simp only [m_rowOf, rowS, hr0, h0, h8, if_true, if_false, Option.bind_some, m_within_0 (Or.inr h7), show (-1 : Int32) < 0 from by decide]
      · obtain ⟨g1, g2, g3, g4⟩ := id_half h0 h8
        have h7 : ¬ 7 < d := fun e => h8 (i32le.mpr (by have := i32lt.mp e; omega))
        have hr1 : 0 ≤ r.toInt := by
          have : ¬ r.toInt < (0 : Int32).toInt := fun e => hr0 (i32lt.mpr e)
          omega
        have hr2 := hr.2
        have hh : 0 ≤ (d / 4).toInt ∧ (d / 4).toInt ≤ 1 := by rcases g1 with e | e <;> rw [e] <;> decide
        have m1 : ((2 : Int32) * r).toInt = 2 * r.toInt := i32mulk 2 (by decide) (by omega) (by omega)
        have m2 : ((2 : Int32) * r + d / 4).toInt = 2 * r.toInt + (d / 4).toInt := by rw [i32add (by omega) (by omega)]; omega
        have hk : ((2 : Int32) * r + d / 4).toNatClampNeg = 2 * r.toNatClampNeg + (d / 4).toNatClampNeg := by
          rw [tnn, tnn, tnn, m2]; omega
        have hin : vp_in ((2 : Int32) * r + d / 4) 24 := vp_of (by omega) (by omega)
        have hr5 : r.toNatClampNeg < 12 := by rw [tnn]; omega
        have hh5 : (d / 4).toNatClampNeg < 2 := by rw [tnn]; omega
        have hlf := (hp _ hr5 _ hh5)
        rw [hlf.1] at hlf
        have hlf := hlf.2
        by_cases h1 : ms.2.2.1 13 (2 * r.toNatClampNeg + (d / 4).toNatClampNeg) < 0
        · simp only [m_rowOf, rowS, hr0, h0, h8, h1, if_true, if_false, Option.bind_some, m_within_1 h0 h7, rd_in hin, hk, show ¬ ((1 : Int32) = 0) from by decide]
        · have hl0 : 0 ≤ (ms.2.2.1 13 (2 * r.toNatClampNeg + (d / 4).toNatClampNeg)).toInt := by
            have : ¬ (ms.2.2.1 13 (2 * r.toNatClampNeg + (d / 4).toNatClampNeg)).toInt < (0 : Int32).toInt := fun e => h1 (i32lt.mpr e)
            omega
          have hl1 := hlf.2
          generalize hx : ms.2.2.1 13 (2 * r.toNatClampNeg + (d / 4).toNatClampNeg) = x at *
          have n1 : ((4 : Int32) * x).toInt = 4 * x.toInt := i32mulk 4 (by decide) (by omega) (by omega)
          have n2 : ((4 : Int32) * x + (d - d / 4 * 4)).toInt = 4 * x.toInt + (d - d / 4 * 4).toInt := by rw [i32add (by omega) (by omega)]; omega
          have hk2 : ((4 : Int32) * x + (d - d / 4 * 4)).toNatClampNeg = 4 * x.toNatClampNeg + (d - d / 4 * 4).toNatClampNeg := by
            rw [tnn, tnn, tnn, n2]; omega
          have hin2 : vp_in ((4 : Int32) * x + (d - d / 4 * 4)) 48 := vp_of (by omega) (by omega)
          by_cases h2 : ms.2.2.1 14 (4 * x.toNatClampNeg + (d - d / 4 * 4).toNatClampNeg) = 0
          · simp only [m_rowOf, rowS, hr0, h0, h8, h1, h2, hx, if_true, if_false, Option.bind_some, m_within_1 h0 h7, rd_in hin, rd_in hin2, hk, hk2, show ¬ ((1 : Int32) = 0) from by decide]
          · simp only [m_rowOf, rowS, hr0, h0, h8, h1, h2, hx, if_true, if_false, Option.bind_some, m_within_1 h0 h7, rd_in hin, rd_in hin2, hk, hk2, show ¬ ((1 : Int32) = 0) from by decide]
end STORE
