/-- numbers -/
theorem lits : (0 : Int32).toInt = 0 ∧ (1 : Int32).toInt = 1 ∧ (2 : Int32).toInt = 2 ∧ (3 : Int32).toInt = 3 ∧ (4 : Int32).toInt = 4 ∧ (5 : Int32).toInt = 5 ∧ (6 : Int32).toInt = 6 ∧ (7 : Int32).toInt = 7 ∧ (8 : Int32).toInt = 8 ∧ (11 : Int32).toInt = 11 ∧ (12 : Int32).toInt = 12 ∧ (20 : Int32).toInt = 20 ∧ (-1 : Int32).toInt = -1 := by decide
def wt (v lo hi : Int32) : Int32 := if lo.toInt ≤ v.toInt ∧ v.toInt ≤ hi.toInt then 1 else 0
theorem wt_0 {v lo hi : Int32} (h : wt v lo hi = 0) : ¬ (lo.toInt ≤ v.toInt ∧ v.toInt ≤ hi.toInt) := by
  intro h2
  unfold wt at h
  rw [if_pos h2] at h
  exact absurd h (by decide)
theorem wt_1 {v lo hi : Int32} (h : ¬ wt v lo hi = 0) : lo.toInt ≤ v.toInt ∧ v.toInt ≤ hi.toInt := by
  by_cases h2 : lo.toInt ≤ v.toInt ∧ v.toInt ≤ hi.toInt
  · exact h2
  · unfold wt at h
    rw [if_neg h2] at h
    exact absurd rfl h
theorem wt_e {v lo hi : Int32} (h : hi.toInt < lo.toInt) : wt v lo hi = 0 := by
  unfold wt
  rw [if_neg (by omega)]
theorem wt_in {v hi : Int32} {n : Nat} (h : 0 ≤ v.toInt ∧ v.toInt ≤ hi.toInt) (hn : hi.toInt < n) : vp_in v n := vp_in_iff.mpr ⟨h.1, by omega⟩
def an_put (id : Int32) : Int32 := if 0 ≤ id.toInt ∧ id.toInt ≤ 7 then -100 else -1
def an_query (r id : Int32) : Int32 := if r.toInt = -1 ∧ id.toInt = -1 then -100 else -1
def an_fuse (k : Int32) : Int32 := if 1 ≤ k.toInt ∧ k.toInt ≤ 20 then 1 else 0
def an_page (n : Int32) : Int32 := if 0 ≤ n.toInt ∧ n.toInt ≤ 11 then 0 else -1
def an_size (n : Int32) : Int32 := if 0 ≤ n.toInt ∧ n.toInt ≤ 6 then 0 else -1
def an_rd (r : Int32) : Int32 := if r.toInt = -1 then 1 else 0
theorem an_rd_0 {r : Int32} (h : an_rd r = 0) : ¬ r.toInt = -1 := by
  intro h2
  unfold an_rd at h
  rw [if_pos h2] at h
  exact absurd h (by decide)
theorem an_rd_1 {r : Int32} (h : ¬ an_rd r = 0) : r = -1 := by
  by_cases h2 : r.toInt = -1
  · exact Int32.toInt_inj.mp (by rw [h2]; decide)
  · unfold an_rd at h
    rw [if_neg h2] at h
    exact absurd rfl h
