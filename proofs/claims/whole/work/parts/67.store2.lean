/-! Documents and rows; counts; pages in use. -/
section STORE
variable {Zd : Nat → Nat} {K : KE} {st : CS} {ms : MS} {q : Nat → Nat} {cw : Nat} {I : Nat → Int32} {A : Nat → Nat → Int32} {R : Nat → Option Nat} {Q : Nat → Nat → Option Nat}
theorem doc_row (hp : Rp A ms) (hd : Rd Zd K st Q ms) {r : Int32} (hr : pgr r) (d : Int32) : (docS A Q r d = none ∧ rowS ms r d = -1) ∨ ∃ (a n : Nat), docS A Q r d = some a ∧ n < 48 ∧ (rowS ms r d).toInt = n ∧ docIs Zd K st ms (24 * n) (some a) 1 := by
  have L := nums
  by_cases h0 : d < 0
  · left
    simp only [docS, rowS, h0, if_true]
    exact ⟨trivial, by split <;> rfl⟩
  by_cases h8 : 8 ≤ d
  · left
    simp only [docS, rowS, h0, h8, if_true, if_false]
    exact ⟨trivial, by split <;> rfl⟩
  obtain ⟨g1, g2, g3, g4⟩ := id_half h0 h8
  by_cases h1 : r = -1
  · left
    subst h1
    simp only [docS, rowS, leafS, h0, h8, if_true, if_false, show (-1 : Int32) < 0 from by decide]
    exact ⟨trivial, trivial⟩
  obtain ⟨h2, h3, h4⟩ := pgr_in hr h1
  have hr0 : ¬ r < 0 := fun e => by have := i32lt.mp e; omega
  have hr5 : r.toNatClampNeg < 12 := by rw [tnn]; omega
  have hh : 0 ≤ (d / 4).toInt ∧ (d / 4).toInt ≤ 1 := by rcases g1 with e | e <;> rw [e] <;> decide
  have hh5 : (d / 4).toNatClampNeg < 2 := by rw [tnn]; omega
  obtain ⟨l1, l2⟩ := hp _ hr5 _ hh5
  have hlf : leafS A r (d / 4) = ms.2.2.1 13 (2 * r.toNatClampNeg + (d / 4).toNatClampNeg) := by
    unfold leafS
    rw [if_neg h1]; exact l1
  rw [l1] at l2
  generalize hx : ms.2.2.1 13 (2 * r.toNatClampNeg + (d / 4).toNatClampNeg) = x at *
  by_cases h5 : x = -1
  · left
    subst h5
    simp only [docS, rowS, h0, h8, hr0, hlf, hx, if_true, if_false, show (-1 : Int32) < 0 from by decide]
    exact ⟨trivial, trivial⟩
  obtain ⟨h6, h7, h9⟩ := pgr_in l2 h5
  have hx0 : ¬ x < 0 := fun e => by have := i32lt.mp e; omega
  have hx5 : x.toNatClampNeg < 12 := by rw [tnn]; omega
  have hi4 : (d - d / 4 * 4).toNatClampNeg < 4 := by rw [tnn]; omega
  have hdoc := hd _ hx5 _ hi4
  have e1 : docS A Q r d = Q (10 + x.toNatClampNeg) (d - d / 4 * 4).toNatClampNeg := by
    simp only [docS, h0, h8, hlf, h5, if_false]
  cases hq : Q (10 + x.toNatClampNeg) (d - d / 4 * 4).toNatClampNeg with
  | none =>
    left
    rw [hq] at hdoc
    have ht : ms.2.2.1 14 (4 * x.toNatClampNeg + (d - d / 4 * 4).toNatClampNeg) = 0 := hdoc
    refine ⟨e1.trans hq, ?_⟩
    simp only [rowS, h0, h8, hr0, hx, hx0, ht, if_true, if_false]
  | some a =>
    right
    rw [hq] at hdoc
    obtain ⟨t1, t2⟩ := hdoc
    refine ⟨a, 4 * x.toNatClampNeg + (d - d / 4 * 4).toNatClampNeg, e1.trans hq, by omega, ?_, rfl, t2⟩
    simp only [rowS, h0, h8, hr0, hx, hx0, t1, if_false, show ¬ ((1 : Int32) = 0) from by decide]
    have n1 : ((4 : Int32) * x).toInt = 4 * x.toInt := i32mulk 4 (by decide) (by omega) (by omega)
    rw [i32add (by omega) (by omega), n1, tnn, tnn]
    omega
theorem row_neg (hp : Rp A ms) (hd : Rd Zd K st Q ms) {r : Int32} (hr : pgr r) (d : Int32) : (docS A Q r d = none ↔ rowS ms r d < 0) := by
  have L := nums
  rcases doc_row hp hd hr d with ⟨e1, e2⟩ | ⟨a, n, e1, e2, e3, e4⟩
  · rw [e1, e2]; exact ⟨fun _ => by decide, fun _ => rfl⟩
  · rw [e1]
    exact ⟨(fun e => by cases e), (fun e => by have := i32lt.mp e; omega)⟩
theorem count_lock (hF : Fx st q cw I A R Q) (hp : Rp A ms) (hd : Rd Zd K st Q ms) (hr : pgr (A 3 (curM (A 2)).toNatClampNeg)) : ∀ (n fuel : Nat) (acc k : Int32), k.toInt + n = 8 → 0 ≤ k.toInt → n < fuel → ∃ x, c_Store_documentCount_l1 Zd K (q 6) st fuel (acc, k) = some (x, 8) ∧ m_documents_l1 (A 3 (curM (A 2)).toNatClampNeg) ms fuel (acc, k) = some (x, 8) := by
  have L := nums
  intro n
  induction n with
  | zero =>
    intro fuel acc k h1 h2 h3
    obtain ⟨f, rfl⟩ : ∃ f, fuel = f + 1 := ⟨fuel - 1, by omega⟩
    have hk : k = 8 := i32eq (by omega)
    subst hk
    exact ⟨acc, by rw [c_Store_documentCount_l1_s, if_pos (show (8 : Int32) ≤ 8 from by decide)], by rw [m_documents_l1_s, if_pos (show (8 : Int32) ≤ 8 from by decide)]⟩
  | succ n ih =>
    intro fuel acc k h1 h2 h3
    obtain ⟨f, rfl⟩ : ∃ f, fuel = f + 1 := ⟨fuel - 1, by omega⟩
    have hk8 : ¬ 8 ≤ k := fun e => by have := i32le.mp e; omega
    have k1 : (k + 1).toInt = k.toInt + 1 := by rw [i32add (by omega) (by omega)]; omega
    rcases doc_row hp hd hr k with ⟨e1, e2⟩ | ⟨a, m, e1, e2, e3, e4⟩
    · obtain ⟨x, i1, i2⟩ := ih f acc (k + 1) (by omega) (by omega) (by omega)
      refine ⟨x, ?_, ?_⟩
      · rw [c_Store_documentCount_l1_s, if_neg hk8]
        simp only [fo_6 hF, Option.bind_some, c_cr hF, c_doc hF hp hr, e1, nl, Int32.add_zero]
        exact i1
      · rw [m_documents_l1_s, if_neg hk8]
        simp only [m_row hp hr, Option.bind_some, e2, show (-1 : Int32) < 0 from by decide, if_true]
        exact i2
    · obtain ⟨x, i1, i2⟩ := ih f (acc + 1) (k + 1) (by omega) (by omega) (by omega)
      have hneg : ¬ rowS ms (A 3 (curM (A 2)).toNatClampNeg) k < 0 := fun e => by have := i32lt.mp e; omega
      refine ⟨x, ?_, ?_⟩
      · rw [c_Store_documentCount_l1_s, if_neg hk8]
        simp only [fo_6 hF, Option.bind_some, c_cr hF, c_doc hF hp hr, e1, nl]
        exact i1
      · rw [m_documents_l1_s, if_neg hk8]
        simp only [m_row hp hr, Option.bind_some, hneg, if_false]
        exact i2
theorem readers_lock (hF : Fx st q cw I A R Q) (hs : A 4 = ms.2.2.1 17) : ∀ (n fuel : Nat) (acc k : Int32), k.toInt + n = 3 → 0 ≤ k.toInt → n < fuel → ∃ x, c_Store_openReaders_l1 K (q 6) st fuel (acc, k) = some (x, 3) ∧ m_size_l1 ms fuel (acc, k) = some (x, 3) := by
  have L := nums
  intro n
  induction n with
  | zero =>
    intro fuel acc k h1 h2 h3
    obtain ⟨f, rfl⟩ : ∃ f, fuel = f + 1 := ⟨fuel - 1, by omega⟩
    have hk : k = 3 := i32eq (by omega)
    subst hk
    exact ⟨acc, by rw [c_Store_openReaders_l1_s, if_pos (show (3 : Int32) ≤ 3 from by decide)], by rw [m_size_l1_s, if_pos (show (3 : Int32) ≤ 3 from by decide)]⟩
  | succ n ih =>
    intro fuel acc k h1 h2 h3
    obtain ⟨f, rfl⟩ : ∃ f, fuel = f + 1 := ⟨fuel - 1, by omega⟩
    have hk8 : ¬ 3 ≤ k := fun e => by have := i32le.mp e; omega
    have k1 : (k + 1).toInt = k.toInt + 1 := by rw [i32add (by omega) (by omega)]; omega
    have hin : vp_in k 3 := vp_of h2 (by omega)
    by_cases h0 : A 4 k.toNatClampNeg = 0
    · obtain ⟨x, i1, i2⟩ := ih f acc (k + 1) (by omega) (by omega) (by omega)
      refine ⟨x, ?_, ?_⟩
      · rw [c_Store_openReaders_l1_s, if_neg hk8]
        simp only [fg_6_3 hF, Option.bind_some, fr_19 hF hin, h0, if_true, Int32.add_zero]
        exact i1
      · rw [m_size_l1_s, if_neg hk8]
        simp only [rd_in hin, ← hs, h0, Option.bind_some, if_true]
        exact i2
    · obtain ⟨x, i1, i2⟩ := ih f (acc + 1) (k + 1) (by omega) (by omega) (by omega)
      refine ⟨x, ?_, ?_⟩
      · rw [c_Store_openReaders_l1_s, if_neg hk8]
        simp only [fg_6_3 hF, Option.bind_some, fr_19 hF hin, h0, if_false]
        exact i1
      · rw [m_size_l1_s, if_neg hk8]
        simp only [rd_in hin, ← hs, h0, Option.bind_some, if_false]
        exact i2
theorem sim_size (h : Rv Zd K st ms q cw I A R Q) (w : Int32) : ∃ r, c_PagedValues_size Zd K (q 0) w st = some r ∧ m_size w ms = some r := by
  obtain ⟨hF, hw, ⟨t1, t2, t3, t4⟩, ⟨⟨s1, s2, s3⟩, ⟨s4, s5, s6⟩, ⟨s7, s8, s9, s10⟩, s11, s12, s13⟩, hP, hk, hd, hr, ho, hb, hz⟩ := h
  obtain ⟨x, x1, x2⟩ := readers_lock (K := K) hF s9 3 4096 0 0 (by decide) (by decide) (by decide)
  have hcr : pgr (A 3 (curM (A 2)).toNatClampNeg) := by
    rcases curM_or (A 2) with e | e <;> rw [e]
    · exact s12 0 (by decide)
    · exact s12 1 (by decide)
  by_cases w0 : w = 0
  · subst w0
    refine ⟨I 0, ?_, ?_⟩
    · simp only [c_PagedValues_size, if_true, fg_0_0 hF, fg_1_2 hF, Option.bind_some]
    · simp only [m_size, x2, Option.bind_some, if_true, t2]
  by_cases w1 : w = 1
  · subst w1
    obtain ⟨y, y1, y2⟩ := count_lock hF hP hd hcr 8 4096 0 0 (by decide) (by decide) (by decide)
    refine ⟨y, ?_, ?_⟩
    · simp only [c_PagedValues_size, w0, if_true, if_false, fg_0_5 hF, fo_6 hF, Option.bind_some, c_Store_documentCount, y1]
    · simp only [m_size, x2, Option.bind_some, w0, if_true, if_false, m_cm, ← s7, ← s8, rd_in (curM_in _), m_documents, y2]
  by_cases w2 : w = 2
  · subst w2
    refine ⟨x, ?_, ?_⟩
    · simp only [c_PagedValues_size, w0, w1, if_true, if_false, fg_0_5 hF, fo_6 hF, Option.bind_some, c_Store_openReaders, x1]
    · simp only [m_size, x2, Option.bind_some, w0, w1, if_true, if_false]
  by_cases w3 : w = 3
  · subst w3
    refine ⟨I 9, ?_, ?_⟩
    · simp only [c_PagedValues_size, w0, w1, w2, if_true, if_false, fg_0_5 hF, fg_6_6 hF, Option.bind_some]
    · simp only [m_size, x2, Option.bind_some, w0, w1, w2, if_true, if_false, s1]
  by_cases w4 : w = 4
  · subst w4
    refine ⟨curM (A 2), ?_, ?_⟩
    · simp only [c_PagedValues_size, w0, w1, w2, w3, if_true, if_false, fg_0_5 hF, fo_6 hF, Option.bind_some, c_cm hF]
    · simp only [m_size, x2, Option.bind_some, w0, w1, w2, w3, if_true, if_false, m_cm, ← s7]
  by_cases w5 : w = 5
  · subst w5
    refine ⟨A 2 (curM (A 2)).toNatClampNeg, ?_, ?_⟩
    · simp only [c_PagedValues_size, w0, w1, w2, w3, w4, if_true, if_false, fg_0_5 hF, fg_6_1 hF, fo_6 hF, Option.bind_some, c_cm hF, fr_17 hF (curM_in _)]
    · simp only [m_size, x2, Option.bind_some, w0, w1, w2, w3, w4, if_true, if_false, m_cm, ← s7, rd_in (curM_in _)]
  by_cases w6 : w = 6
  · subst w6
    by_cases hdn : I 11 = 0
    · refine ⟨0, ?_, ?_⟩
      · simp only [c_PagedValues_size, w0, w1, w2, w3, w4, w5, if_true, if_false, fg_0_5 hF, fg_6_8 hF, Option.bind_some, hdn]
      · simp only [m_size, x2, Option.bind_some, w0, w1, w2, w3, w4, w5, if_true, if_false, ← s3, hdn]
    · refine ⟨1, ?_, ?_⟩
      · simp only [c_PagedValues_size, w0, w1, w2, w3, w4, w5, if_true, if_false, fg_0_5 hF, fg_6_8 hF, Option.bind_some, hdn]
      · simp only [m_size, x2, Option.bind_some, w0, w1, w2, w3, w4, w5, if_true, if_false, ← s3, hdn]
  · refine ⟨-1, ?_, ?_⟩
    · simp only [c_PagedValues_size, w0, w1, w2, w3, w4, w5, w6, if_false]
    · simp only [m_size, x2, Option.bind_some, w0, w1, w2, w3, w4, w5, w6, if_false]
end STORE
