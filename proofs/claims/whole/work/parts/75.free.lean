/-! The first free page. -/
section FREE
variable {Zd : Nat → Nat} {K : KE} {st : CS} {ms : MS} {q : Nat → Nat} {cw : Nat} {I : Nat → Int32} {A : Nat → Nat → Int32} {R : Nat → Option Nat} {Q : Nat → Nat → Option Nat}
theorem ff_lock (hF : Fx st q cw I A R Q) (hS : Rs I A ms) (hP : Rp A ms) (hk : Rk ms) : ∀ (m f1 f2 : Nat) (k : Int32), k.toInt + m = 12 → 0 ≤ k.toInt → m < f1 → m < f2 → (c_Store_freeFrom_l1 Zd K (q 6) st f1 k = some (.inr 12) ∧ ∀ b : Int32, b.toInt < k.toInt → m_freePage_l1 b ms f2 k = some (.inr 12)) ∨ ∃ p : Int32, k.toInt ≤ p.toInt ∧ p.toInt < 12 ∧ c_Store_freeFrom_l1 Zd K (q 6) st f1 k = some (.inl p) ∧ (∀ b : Int32, b.toInt < k.toInt → m_freePage_l1 b ms f2 k = some (.inl p)) ∧ (∀ r, isRoot ms r → useU A r p = 0) ∧ ∀ j : Int32, k.toInt ≤ j.toInt → j.toInt < p.toInt → m_isFree j ms = some 0 := by
  have L := nums
  intro m
  induction m with
  | zero =>
    intro f1 f2 k h1 h2 h3 h4
    obtain ⟨g1, rfl⟩ : ∃ f, f1 = f + 1 := ⟨f1 - 1, by omega⟩
    obtain ⟨g2, rfl⟩ : ∃ f, f2 = f + 1 := ⟨f2 - 1, by omega⟩
    have hk : k = 12 := i32eq (by omega)
    subst hk
    exact Or.inl ⟨by rw [c_Store_freeFrom_l1_s, if_pos (show (12 : Int32) ≤ 12 from by decide)], fun b _ => by rw [m_freePage_l1_s, if_pos (show (12 : Int32) ≤ 12 from by decide)]⟩
  | succ m ih =>
    intro f1 f2 k h1 h2 h3 h4
    obtain ⟨g1, rfl⟩ : ∃ f, f1 = f + 1 := ⟨f1 - 1, by omega⟩
    obtain ⟨g2, rfl⟩ : ∃ f, f2 = f + 1 := ⟨f2 - 1, by omega⟩
    have hk8 : ¬ 12 ≤ k := fun e => by have := i32le.mp e; omega
    have k1 : (k + 1).toInt = k.toInt + 1 := by rw [i32add (by omega) (by omega)]; omega
    obtain ⟨x, x1, x2, x3, x4⟩ := use_fr (Zd := Zd) (K := K) hF hS hP hk h2
    by_cases hx : x = 0
    · right
      refine ⟨k, Int.le_refl _, by omega, ?_, fun b hb => ?_, x4 hx, fun j j1 j2 => by omega⟩
      · rw [c_Store_freeFrom_l1_s, if_neg hk8]
        simp only [fo_6 hF, x2, Option.bind_some, hx, if_true]
      · have hne : ¬ k = b := fun e => by rw [e] at hb; omega
        rw [m_freePage_l1_s, if_neg hk8, if_neg hne, x3, if_pos hx]
        simp only [Option.bind_some, show ¬ ((1 : Int32) = 0) from by decide, if_false]
    · have x5 : m_isFree k ms = some 0 := by rw [x3, if_neg hx]
      rcases ih g1 g2 (k + 1) (by omega) (by omega) (by omega) (by omega) with ⟨i1, i2⟩ | ⟨p, p1, p2, i1, i2, i3, i4⟩
      · left
        refine ⟨?_, fun b hb => ?_⟩
        · rw [c_Store_freeFrom_l1_s, if_neg hk8]
          simp only [fo_6 hF, x2, Option.bind_some, hx, if_false]
          exact i1
        · have hne : ¬ k = b := fun e => by rw [e] at hb; omega
          rw [m_freePage_l1_s, if_neg hk8, if_neg hne, x5]
          simp only [Option.bind_some, if_true]
          exact i2 b (by omega)
      · right
        refine ⟨p, by omega, p2, ?_, fun b hb => ?_, i3, fun j j1 j2 => ?_⟩
        · rw [c_Store_freeFrom_l1_s, if_neg hk8]
          simp only [fo_6 hF, x2, Option.bind_some, hx, if_false]
          exact i1
        · have hne : ¬ k = b := fun e => by rw [e] at hb; omega
          rw [m_freePage_l1_s, if_neg hk8, if_neg hne, x5]
          simp only [Option.bind_some, if_true]
          exact i2 b (by omega)
        · by_cases e : j = k
          · rw [e]; exact x5
          · exact i4 j (by have := i32ne e; omega) j2
theorem skip_lock {p : Int32} (p0 : 0 ≤ p.toInt) (p1 : p.toInt < 12) (hfr : ∀ j : Int32, 0 ≤ j.toInt → j.toInt < p.toInt → m_isFree j ms = some 0) : ∀ (m f : Nat) (k : Int32), k.toInt + m = p.toInt + 1 → 0 ≤ k.toInt → m_freePage_l1 p ms (f + m) k = m_freePage_l1 p ms f (p + 1) := by
  have L := nums
  have p2 : (p + 1).toInt = p.toInt + 1 := by rw [i32add (by omega) (by omega)]; omega
  intro m
  induction m with
  | zero =>
    intro f k h1 h2
    have hk : k = p + 1 := i32eq (by omega)
    rw [hk, Nat.add_zero]
  | succ m ih =>
    intro f k h1 h2
    have hk8 : ¬ 12 ≤ k := fun e => by have := i32le.mp e; omega
    have k1 : (k + 1).toInt = k.toInt + 1 := by rw [i32add (by omega) (by omega)]; omega
    rw [← Nat.add_assoc, m_freePage_l1_s, if_neg hk8]
    by_cases e : k = p
    · rw [if_pos e]
      exact ih f (k + 1) (by omega) (by omega)
    · have e9 := i32ne e
      rw [if_neg e, hfr k h2 (by omega)]
      simp only [Option.bind_some, if_true]
      exact ih f (k + 1) (by omega) (by omega)
/-- the first free page for the leaf -/
theorem free_leaf (hF : Fx st q cw I A R Q) (hS : Rs I A ms) (hP : Rp A ms) (hk : Rk ms) : (c_Store_freeFrom Zd K (q 6) 0 st = some (-1) ∧ m_freePage (-1) ms = some (-1)) ∨ ∃ p : Int32, 0 ≤ p.toInt ∧ p.toInt < 12 ∧ c_Store_freeFrom Zd K (q 6) 0 st = some p ∧ m_freePage (-1) ms = some p ∧ (∀ r, isRoot ms r → useU A r p = 0) ∧ ∀ j : Int32, 0 ≤ j.toInt → j.toInt < p.toInt → m_isFree j ms = some 0 := by
  have L := nums
  rcases ff_lock (Zd := Zd) (K := K) hF hS hP hk 12 4096 4096 0 (by decide) (by decide) (by decide) (by decide) with ⟨i1, i2⟩ | ⟨p, p1, p2, i1, i2, i3, i4⟩
  · left
    refine ⟨?_, ?_⟩
    · simp only [c_Store_freeFrom, i1, Option.bind_some]
    · simp only [m_freePage, i2 (-1) (by decide), Option.bind_some]
  · right
    refine ⟨p, by omega, p2, ?_, ?_, i3, fun j j1 j2 => i4 j (by omega) j2⟩
    · simp only [c_Store_freeFrom, i1, Option.bind_some]
    · simp only [m_freePage, i2 (-1) (by decide), Option.bind_some]
/-- the next free page behind the leaf, for the root -/
theorem free_root (hF : Fx st q cw I A R Q) (hS : Rs I A ms) (hP : Rp A ms) (hk : Rk ms) {p : Int32} (p0 : 0 ≤ p.toInt) (p1 : p.toInt < 12) (hfr : ∀ j : Int32, 0 ≤ j.toInt → j.toInt < p.toInt → m_isFree j ms = some 0) : (c_Store_freeFrom Zd K (q 6) (p + 1) st = some (-1) ∧ m_freePage p ms = some (-1)) ∨ ∃ r : Int32, p.toInt < r.toInt ∧ r.toInt < 12 ∧ c_Store_freeFrom Zd K (q 6) (p + 1) st = some r ∧ m_freePage p ms = some r ∧ ∀ x, isRoot ms x → useU A x r = 0 := by
  have L := nums
  have p2 : (p + 1).toInt = p.toInt + 1 := by rw [i32add (by omega) (by omega)]; omega
  have hsk := skip_lock (ms := ms) p0 p1 hfr (p.toInt.toNat + 1) (4096 - (p.toInt.toNat + 1)) 0 (by omega) (by decide)
  rw [show 4096 - (p.toInt.toNat + 1) + (p.toInt.toNat + 1) = 4096 by omega] at hsk
  rcases ff_lock (Zd := Zd) (K := K) hF hS hP hk (11 - p.toInt.toNat) 4096 (4096 - (p.toInt.toNat + 1)) (p + 1) (by omega) (by omega) (by omega) (by omega) with ⟨i1, i2⟩ | ⟨r, r1, r2, i1, i2, i3, i4⟩
  · left
    refine ⟨?_, ?_⟩
    · simp only [c_Store_freeFrom, i1, Option.bind_some]
    · simp only [m_freePage, hsk, i2 p (by omega), Option.bind_some]
  · right
    refine ⟨r, by omega, r2, ?_, ?_, i3⟩
    · simp only [c_Store_freeFrom, i1, Option.bind_some]
    · simp only [m_freePage, hsk, i2 p (by omega), Option.bind_some]
end FREE
