/-! Pages in use. -/
def mx (a b : Int32) : Int32 := if a < b then b else a
/-- none, or what the page is marked as -/
def uk (k a : Int32) : Prop := a = 0 ∨ (a = k ∧ (k = 1 ∨ k = 2))
theorem mx_k {k a u : Int32} (ha : uk k a) (hu : uk k u) : uk k (mx a u) ∧ (mx a u = 0 ↔ a = 0 ∧ u = 0) := by
  rcases ha with rfl | ⟨rfl, h1⟩
  · rcases hu with rfl | ⟨rfl, h2⟩
    · exact ⟨Or.inl (by decide), by decide⟩
    · rcases h2 with rfl | rfl
      · exact ⟨Or.inr ⟨by decide, Or.inl rfl⟩, by decide⟩
      · exact ⟨Or.inr ⟨by decide, Or.inr rfl⟩, by decide⟩
  · rcases hu with rfl | ⟨rfl, h2⟩
    · rcases h1 with rfl | rfl
      · exact ⟨Or.inr ⟨by decide, Or.inl rfl⟩, by decide⟩
      · exact ⟨Or.inr ⟨by decide, Or.inr rfl⟩, by decide⟩
    · rcases h1 with rfl | rfl
      · exact ⟨Or.inr ⟨by decide, Or.inl rfl⟩, by decide⟩
      · exact ⟨Or.inr ⟨by decide, Or.inr rfl⟩, by decide⟩
section USE
variable {Zd : Nat → Nat} {K : KE} {st : CS} {ms : MS} {q : Nat → Nat} {cw : Nat} {I : Nat → Int32} {A : Nat → Nat → Int32} {R : Nat → Option Nat} {Q : Nat → Nat → Option Nat}
theorem useU_k (hk : Rk ms) (hp : Rp A ms) {r p : Int32} (hr : pgr r) (hroot : isRoot ms r) (p0 : 0 ≤ p.toInt) : uk (ms.2.2.1 12 p.toNatClampNeg) (useU A r p) := by
  have L := nums
  unfold useU
  by_cases e1 : r = p
  · rw [if_pos e1]
    subst e1
    have h1 := (hk r hroot p0).1
    exact Or.inr ⟨h1.symm, Or.inl h1⟩
  · rw [if_neg e1]
    by_cases h0 : r = -1
    · have e2 : ¬ leafS A r 0 = p := by
        unfold leafS; rw [if_pos h0]
        intro e; rw [← e] at p0; omega
      have e3 : ¬ leafS A r 1 = p := by
        unfold leafS; rw [if_pos h0]
        intro e; rw [← e] at p0; omega
      rw [if_neg e2, if_neg e3]
      exact Or.inl rfl
    · obtain ⟨h2, h3, h4⟩ := pgr_in hr h0
      have hr5 : r.toNatClampNeg < 12 := by rw [tnn]; omega
      have l0 : leafS A r 0 = ms.2.2.1 13 (2 * r.toNatClampNeg + 0) := by unfold leafS; rw [if_neg h0]; exact (hp _ hr5 0 (by decide)).1
      have l1 : leafS A r 1 = ms.2.2.1 13 (2 * r.toNatClampNeg + 1) := by unfold leafS; rw [if_neg h0]; exact (hp _ hr5 1 (by decide)).1
      have hh := (hk r hroot h3).2
      by_cases e2 : leafS A r 0 = p
      · rw [if_pos e2]
        have h5 := (hh 0 (by decide) (by rw [← l0, e2]; exact p0)).1
        rw [← l0, e2] at h5
        exact Or.inr ⟨h5.symm, Or.inr h5⟩
      · rw [if_neg e2]
        by_cases e3 : leafS A r 1 = p
        · rw [if_pos e3]
          have h5 := (hh 1 (by decide) (by rw [← l1, e3]; exact p0)).1
          rw [← l1, e3] at h5
          exact Or.inr ⟨h5.symm, Or.inr h5⟩
        · rw [if_neg e3]
          exact Or.inl rfl
theorem use_l1 (hF : Fx st q cw I A R Q) (s12 : ∀ k, k < 2 → pgr (A 3 k)) (p : Int32) : c_Store_useOf_l1 Zd K (q 6) p st 4096 (0, 0) = some (mx (mx 0 (useU A (A 3 0) p)) (useU A (A 3 1) p), 2) := by
  have h0 : vp_in 0 2 := by unfold vp_in; decide
  have h1 : vp_in (0 + 1) 2 := by unfold vp_in; decide
  rw [show (4096 : Nat) = 4093 + 1 + 1 + 1 from rfl, c_Store_useOf_l1_s, if_neg (show ¬ (2 : Int32) ≤ 0 from by decide)]
  simp only [fg_6_2 hF, fr_18 hF h0, fo_6 hF, Option.bind_some, c_useU hF (s12 (0 : Int32).toNatClampNeg (by decide))]
  rw [c_Store_useOf_l1_s, if_neg (show ¬ (2 : Int32) ≤ 0 + 1 from by decide)]
  simp only [fg_6_2 hF, fr_18 hF h1, fo_6 hF, Option.bind_some, c_useU hF (s12 ((0 : Int32) + 1).toNatClampNeg (by decide))]
  rw [c_Store_useOf_l1_s, if_pos (show (2 : Int32) ≤ 0 + 1 + 1 from by decide)]
  rfl
theorem use_lock (hF : Fx st q cw I A R Q) (hp : Rp A ms) (hk : Rk ms) (s9 : A 4 = ms.2.2.1 17) (s10 : A 5 = ms.2.2.1 18) (s13 : ∀ k, k < 3 → pgr (A 5 k)) {p : Int32} (p0 : 0 ≤ p.toInt) : ∀ (n fuel : Nat) (acc k : Int32), k.toInt + n = 3 → 0 ≤ k.toInt → n < fuel → uk (ms.2.2.1 12 p.toNatClampNeg) acc → ∃ x, uk (ms.2.2.1 12 p.toNatClampNeg) x ∧ c_Store_useOf_l2 Zd K (q 6) p st fuel (acc, k) = some (x, 3) ∧ m_isFree_l1 p ms fuel (if acc = 0 then 0 else 1, k) = some (if x = 0 then 0 else 1, 3) ∧ (x = 0 → acc = 0 ∧ ∀ i, k.toNatClampNeg ≤ i → i < 3 → A 4 i ≠ 0 → useU A (A 5 i) p = 0) := by
  have L := nums
  intro n
  induction n with
  | zero =>
    intro fuel acc k h1 h2 h3 ha
    obtain ⟨f, rfl⟩ : ∃ f, fuel = f + 1 := ⟨fuel - 1, by omega⟩
    have hk : k = 3 := i32eq (by omega)
    subst hk
    exact ⟨acc, ha, by rw [c_Store_useOf_l2_s, if_pos (show (3 : Int32) ≤ 3 from by decide)], by rw [m_isFree_l1_s, if_pos (show (3 : Int32) ≤ 3 from by decide)], fun hx => ⟨hx, fun i hi1 hi2 _ => absurd hi1 (by have e : (3 : Int32).toNatClampNeg = 3 := (rfl); omega)⟩⟩
  | succ n ih =>
    intro fuel acc k h1 h2 h3 ha
    obtain ⟨f, rfl⟩ : ∃ f, fuel = f + 1 := ⟨fuel - 1, by omega⟩
    have hk8 : ¬ 3 ≤ k := fun e => by have := i32le.mp e; omega
    have k1 : (k + 1).toInt = k.toInt + 1 := by rw [i32add (by omega) (by omega)]; omega
    have hin : vp_in k 3 := vp_of h2 (by omega)
    have hk3 : k.toNatClampNeg < 3 := by rw [tnn]; omega
    by_cases h0 : A 4 k.toNatClampNeg = 0
    · obtain ⟨x, x1, i1, i2, i3⟩ := ih f acc (k + 1) (by omega) (by omega) (by omega) ha
      refine ⟨x, x1, ?_, ?_, fun hx => ⟨(i3 hx).1, fun i hi1 hi2 hi3 => (i3 hx).2 i (by
        have e : i ≠ k.toNatClampNeg := fun e => hi3 (by rw [e]; exact h0)
        rw [tnn] at hi1 e ⊢
        omega) hi2 hi3⟩⟩
      · rw [c_Store_useOf_l2_s, if_neg hk8]
        simp only [fg_6_3 hF, Option.bind_some, fr_19 hF hin, h0, if_true]
        exact i1
      · rw [m_isFree_l1_s, if_neg hk8]
        by_cases hac : acc = 0
        · simp only [hac, if_true, rd_in hin, ← s9, h0, Option.bind_some] at i2 ⊢
          exact i2
        · simp only [hac, if_false, show ¬ ((1 : Int32) = 0) from by decide, Option.bind_some] at i2 ⊢
          exact i2
    · have hroot : isRoot ms (A 5 k.toNatClampNeg) := Or.inr ⟨_, hk3, by rw [← s9]; exact h0, by rw [s10]⟩
      have hu := useU_k hk hp (s13 _ hk3) hroot p0
      obtain ⟨m1, m2⟩ := mx_k ha hu
      obtain ⟨x, x1, i1, i2, i3⟩ := ih f (mx acc (useU A (A 5 k.toNatClampNeg) p)) (k + 1) (by omega) (by omega) (by omega) m1
      refine ⟨x, x1, ?_, ?_, fun hx => ⟨(m2.mp (i3 hx).1).1, fun i hi1 hi2 hi3 => ?_⟩⟩
      rotate_left 2
      · by_cases e : i = k.toNatClampNeg
        · rw [e]; exact (m2.mp (i3 hx).1).2
        · refine (i3 hx).2 i ?_ hi2 hi3
          rw [tnn] at hi1 e ⊢
          omega
      · rw [c_Store_useOf_l2_s, if_neg hk8]
        simp only [fg_6_3 hF, Option.bind_some, fr_19 hF hin, h0, if_false, fg_6_4 hF, fr_20 hF hin, fo_6 hF, c_useU hF (s13 _ hk3)]
        exact i1
      · rw [m_isFree_l1_s, if_neg hk8]
        by_cases hac : acc = 0
        · by_cases hu0 : useU A (A 5 k.toNatClampNeg) p = 0
          · have e9 : mx acc (useU A (A 5 k.toNatClampNeg) p) = 0 := m2.mpr ⟨hac, hu0⟩
            rw [if_pos e9] at i2
            simp only [hac, if_true, rd_in hin, ← s9, ← s10, h0, if_false, Option.bind_some, m_reach hp (s13 _ hk3) p0, hu0]
            exact i2
          · have e9 : ¬ mx acc (useU A (A 5 k.toNatClampNeg) p) = 0 := fun e => hu0 (m2.mp e).2
            rw [if_neg e9] at i2
            simp only [hac, if_true, rd_in hin, ← s9, ← s10, h0, if_false, Option.bind_some, m_reach hp (s13 _ hk3) p0, hu0, show ¬ ((1 : Int32) = 0) from by decide]
            exact i2
        · have e9 : ¬ mx acc (useU A (A 5 k.toNatClampNeg) p) = 0 := fun e => hac (m2.mp e).1
          rw [if_neg e9] at i2
          simp only [hac, if_false, show ¬ ((1 : Int32) = 0) from by decide, Option.bind_some]
          exact i2
/-- a page's use, and whether it is free -/
theorem use_fr (hF : Fx st q cw I A R Q) (hS : Rs I A ms) (hP : Rp A ms) (hk : Rk ms) {p : Int32} (p0 : 0 ≤ p.toInt) : ∃ x, uk (ms.2.2.1 12 p.toNatClampNeg) x ∧ c_Store_useOf Zd K (q 6) p st = some x ∧ m_isFree p ms = some (if x = 0 then 1 else 0) ∧ (x = 0 → ∀ r, isRoot ms r → useU A r p = 0) := by
  obtain ⟨⟨s1, s2, s3⟩, ⟨s4, s5, s6⟩, ⟨s7, s8, s9, s10⟩, s11, s12, s13⟩ := hS
  have u0 := useU_k (p := p) hk hP (s12 0 (by decide)) (Or.inl ⟨0, by decide, by rw [s8]⟩) p0
  have u1 := useU_k (p := p) hk hP (s12 1 (by decide)) (Or.inl ⟨1, by decide, by rw [s8]⟩) p0
  obtain ⟨a1, a2⟩ := mx_k (k := ms.2.2.1 12 p.toNatClampNeg) (a := 0) (Or.inl rfl) u0
  obtain ⟨b1, b2⟩ := mx_k a1 u1
  obtain ⟨x, x1, x2, x3, x4⟩ := use_lock (Zd := Zd) (K := K) hF hP hk s9 s10 s13 p0 3 4096 _ 0 (by decide) (by decide) (by decide) b1
  refine ⟨x, x1, ?_, ?_, ?_⟩
  · simp only [c_Store_useOf, use_l1 hF s12, Option.bind_some, x2]
  rotate_left
  · intro hx r hr
    obtain ⟨g1, g2⟩ := x4 hx
    obtain ⟨g3, g4⟩ := b2.mp g1
    rcases hr with ⟨k, k1, k2⟩ | ⟨k, k1, k2, k3⟩
    · rw [← s8] at k2
      rcases (show k = 0 ∨ k = 1 by omega) with rfl | rfl
      · rw [k2]; exact (a2.mp g3).2
      · rw [k2]; exact g4
    · rw [← s9] at k2
      rw [← s10] at k3
      rw [k3]
      exact g2 k (Nat.zero_le _) k1 k2
  · have i0 : vp_in 0 2 := by unfold vp_in; decide
    have i1 : vp_in 1 2 := by unfold vp_in; decide
    have e0 : (0 : Int32).toNatClampNeg = 0 := rfl
    have e1 : (1 : Int32).toNatClampNeg = 1 := rfl
    have hfin : ∀ y : Int32, (if y = 0 then (0 : Int32) else 1) = 0 ↔ y = 0 := by
      intro y
      by_cases h : y = 0
      · rw [if_pos h]; exact ⟨fun _ => h, fun _ => rfl⟩
      · rw [if_neg h]; exact ⟨(fun e => absurd e (by decide)), (fun e => absurd e h)⟩
    have hend : ((m_isFree_l1 p ms 4096 (if mx (mx 0 (useU A (A 3 0) p)) (useU A (A 3 1) p) = 0 then 0 else 1, 0)).bind fun e8 => (if e8.1 = (0 : Int32) then (some (1 : Int32)) else (some (0 : Int32))).bind fun e15 => (bz e15).bind fun _ => some e15) = some (if x = 0 then 1 else 0) := by
      rw [x3, Option.bind_some]
      by_cases hx : x = 0
      · simp only [hx, if_true, Option.bind_some, bz]; rfl
      · simp only [hx, if_false, show ¬ ((1 : Int32) = 0) from by decide, Option.bind_some, bz]; rfl
    rw [← hend]
    by_cases c0 : useU A (A 3 0) p = 0
    · by_cases c1 : useU A (A 3 1) p = 0
      · have e9 : mx (mx 0 (useU A (A 3 0) p)) (useU A (A 3 1) p) = 0 := b2.mpr ⟨a2.mpr ⟨rfl, c0⟩, c1⟩
        rw [if_pos e9]
        simp only [m_isFree, rd_in i0, rd_in i1, e0, e1, ← s8, Option.bind_some, m_reach hP (s12 0 (by decide)) p0, m_reach hP (s12 1 (by decide)) p0, c0, c1, if_true]
      · have e9 : ¬ mx (mx 0 (useU A (A 3 0) p)) (useU A (A 3 1) p) = 0 := fun e => c1 (b2.mp e).2
        rw [if_neg e9]
        simp only [m_isFree, rd_in i0, rd_in i1, e0, e1, ← s8, Option.bind_some, m_reach hP (s12 0 (by decide)) p0, m_reach hP (s12 1 (by decide)) p0, c0, c1, if_true, if_false, show ¬ ((1 : Int32) = 0) from by decide]
    · have e9 : ¬ mx (mx 0 (useU A (A 3 0) p)) (useU A (A 3 1) p) = 0 := fun e => c0 (a2.mp (b2.mp e).1).2
      simp only [m_isFree, rd_in i0, rd_in i1, e0, e1, ← s8, Option.bind_some, m_reach hP (s12 0 (by decide)) p0, c0, if_false, e9, show ¬ ((1 : Int32) = 0) from by decide]
theorem use_free (h : Rv Zd K st ms q cw I A R Q) {p : Int32} (p0 : 0 ≤ p.toInt) : ∃ x, uk (ms.2.2.1 12 p.toNatClampNeg) x ∧ c_Store_useOf Zd K (q 6) p st = some x ∧ m_isFree p ms = some (if x = 0 then 1 else 0) := by
  obtain ⟨x, x1, x2, x3, -⟩ := use_fr (Zd := Zd) (K := K) h.1 h.2.2.2.1 h.2.2.2.2.1 h.2.2.2.2.2.1 p0
  exact ⟨x, x1, x2, x3⟩
theorem sim_page (h : Rv Zd K st ms q cw I A R Q) (n : Int32) : ∃ r, c_PagedValues_page Zd K (q 0) n st = some r ∧ m_page n ms = some r := by
  have L := nums
  have hF := h.1
  by_cases h1 : n < 0
  · exact ⟨-1, by simp only [c_PagedValues_page, h1, if_true, Option.bind_some], by simp only [m_page, m_within_0 (Or.inl h1), if_true, Option.bind_some]⟩
  by_cases h2 : 12 ≤ n
  · have h3 : 11 < n := i32lt.mpr (by have := i32le.mp h2; omega)
    exact ⟨-1, by simp only [c_PagedValues_page, h1, h2, if_true, if_false, Option.bind_some], by simp only [m_page, m_within_0 (Or.inr h3), if_true, Option.bind_some]⟩
  have h3 : ¬ 11 < n := fun e => h2 (i32le.mpr (by have := i32lt.mp e; omega))
  have e0 : ¬ n.toInt < (0 : Int32).toInt := fun e => h1 (i32lt.mpr e)
  have e1 : ¬ (12 : Int32).toInt ≤ n.toInt := fun e => h2 (i32le.mpr e)
  have hin : vp_in n 12 := vp_of (by omega) (by omega)
  obtain ⟨x, x1, x2, x3⟩ := use_free h (p := n) (by omega)
  refine ⟨x, ?_, ?_⟩
  · simp only [c_PagedValues_page, h1, h2, if_false, fg_0_5 hF, fo_6 hF, Option.bind_some, x2]
  · by_cases hx : x = 0
    · simp only [m_page, m_within_1 h1 h3, Option.bind_some, show ¬ ((1 : Int32) = 0) from by decide, if_false, x3, hx, if_true]
    · rcases x1 with x1 | ⟨x1, -⟩
      · exact absurd x1 hx
      · simp only [m_page, m_within_1 h1 h3, Option.bind_some, show ¬ ((1 : Int32) = 0) from by decide, if_false, x3, hx, if_true, rd_in hin, ← x1]
end USE
