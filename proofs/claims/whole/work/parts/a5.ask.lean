/-! Finding: a query at a document, its segments; class and model. -/
section ASK
variable {Zd : Nat → Nat} {K : KE} {q : Nat → Nat} {cw : Nat} {A : Nat → Nat → Int32} {R : Nat → Option Nat}
theorem SO.wk {st st1 : CS} {I I1 : Nat → Int32} {Q Q1 : Nat → Nat → Option Nat} {ms ms1 : MS} {j : Nat} (h : SO K st I R ms j) (hf : WK Zd K st q cw I A R Q ms st1 I1 Q1 ms1) : SO K st1 I1 R ms1 j := by
  obtain ⟨-, hl, -, -, -, hi, -, -, -, ha, hb⟩ := hf
  unfold SO
  rw [hi (102 + 4 * j) (by omega) (by omega) (by omega), hi (103 + 4 * j) (by omega) (by omega) (by omega), ha 6 (by decide) (by decide), ha 7 (by decide) (by decide), hb]
  rcases h with ⟨a1, a2, a, cs, a3, a4, a5⟩ | h
  · exact Or.inl ⟨a1, a2, a, cs, a3, hl.str a4, a5⟩
  · exact Or.inr h
theorem QS.wk {st st1 : CS} {I I1 : Nat → Int32} {Q Q1 : Nat → Nat → Option Nat} {ms ms1 : MS} {g n : Nat} {E : Nat → Nat} (h : QS K st I R ms g n E) (hf : WK Zd K st q cw I A R Q ms st1 I1 Q1 ms1) : QS K st1 I1 R ms1 g n E := by
  obtain ⟨h1, h2, h3, h4⟩ := h
  have hi := hf.2.2.2.2.2.1
  have ha := hf.2.2.2.2.2.2.2.2.2.1
  refine ⟨h1, h2, by rw [hf.2.2.2.2.2.2.2.1 5 (by decide) (by decide) (by decide)]; exact h3, fun i hg => ?_⟩
  obtain ⟨g1, g2, g3⟩ := h4 i hg
  rw [ha 5 (by decide) (by decide), ha 4 (by decide) (by decide)]
  refine ⟨g1, g2, fun j x1 x2 => ?_⟩
  obtain ⟨y1, y2, y3⟩ := g3 j x1 x2
  exact ⟨y1.wk hf, by rw [hi _ (by omega) (by omega) (by omega)]; exact y2, fun e => by rw [hi _ (by omega) (by omega) (by omega)]; exact y3 e⟩
theorem se_l {st : CS} {I : Nat → Int32} {Q : Nat → Nat → Option Nat} (h : Cx K st q cw I A R Q) {e n : Nat} (hn : (I 4).toInt = n) (he : e ≤ n) (hn8 : n ≤ 8) (hend : e = n ∨ I (100 + 4 * e) = 1) : ∀ (m f : Nat) (c : Int32), c.toInt + m = e → 0 ≤ c.toInt → m < f → (∀ j : Nat, c.toInt ≤ j → j < e → I (100 + 4 * j) = 0) → ∃ c1 : Int32, c_Query_segmentEnd_l1 K (q 4) st f c = some c1 ∧ c1.toInt = e := by
  have N := nums
  intro m
  induction m with
  | zero =>
    intro f c hc c0 hf hz
    obtain ⟨f, rfl⟩ : ∃ k, f = k + 1 := ⟨f - 1, by omega⟩
    refine ⟨c, ?_, by omega⟩
    rw [c_Query_segmentEnd_l1_s]
    by_cases hle : I 4 ≤ c
    · simp only [fg_4_1 h.1, Option.bind_some, hle, if_true]
    · have hlt : ¬ (I 4).toInt ≤ c.toInt := fun e9 => hle (i32le.mpr e9)
      have hce : c.toInt = e := by omega
      have he8 : e < 8 := by omega
      have hin : vp_in c 8 := vp_of (by omega) (by omega)
      have tc : c.toNatClampNeg = e := by rw [tnn]; omega
      have hq := (h.1.2.2.1 e he8).1
      have r0 : gI K st (q (200 + e)) 7 0 = some (I (100 + 4 * e)) := gI_ob (k := 0) (h.1.sl he8) rfl
      have h1 : I (100 + 4 * e) = 1 := hend.resolve_left (by omega)
      rw [h1] at r0
      simp only [fg_4_1 h.1, Option.bind_some, hle, if_false, fg_4_0 h.1, fr_11 h.1 hin, tc, hq, r0, show ¬ ((1 : Int32) = 0) from by decide]
  | succ m ih =>
    intro f c hc c0 hf hz
    obtain ⟨f, rfl⟩ : ∃ k, f = k + 1 := ⟨f - 1, by omega⟩
    obtain ⟨j, hj⟩ : ∃ j : Nat, c.toInt = j := ⟨c.toInt.toNat, by omega⟩
    have kc1 : (c + 1).toInt = c.toInt + 1 := by rw [i32add (by omega) (by omega)]; omega
    have hj8 : j < 8 := by omega
    have hin : vp_in c 8 := vp_of (by omega) (by omega)
    have tc : c.toNatClampNeg = j := by rw [tnn]; omega
    have h0 := hz j (by omega) (by omega)
    have q1 : (c + 1).toInt + m = e := by omega
    have q2 : 0 ≤ (c + 1).toInt := by omega
    obtain ⟨c1, i1, i2⟩ := ih f (c + 1) q1 q2 (Nat.lt_of_succ_lt_succ hf) (fun j9 x1 x2 => hz j9 (by omega) x2)
    have hq := (h.1.2.2.1 j hj8).1
    have r0 : gI K st (q (200 + j)) 7 0 = some (I (100 + 4 * j)) := gI_ob (k := 0) (h.1.sl hj8) rfl
    rw [h0] at r0
    have hle : ¬ I 4 ≤ c := fun e9 => by have := i32le.mp e9; omega
    refine ⟨c1, ?_, i2⟩
    rw [c_Query_segmentEnd_l1_s]
    simp only [fg_4_1 h.1, Option.bind_some, hle, if_false, fg_4_0 h.1, fr_11 h.1 hin, tc, hq, r0, if_true]
    exact i1
/-- selectors that open no segment are passed over -/
theorem sk_l {st : CS} {I : Nat → Int32} {Q : Nat → Nat → Option Nat} (h : Cx K st q cw I A R Q) (h80 : I 8 = 0) {e n : Nat} (hn : (I 4).toInt = n) (he : e ≤ n) (hn8 : n ≤ 8) : ∀ (m f : Nat) (c : Int32), c.toInt + m = e → 0 ≤ c.toInt → (∀ j : Nat, c.toInt ≤ j → j < e → I (100 + 4 * j) = 0) → ∃ c1 : Int32, c_Finder_ask_l1 Zd K (q 5) (some (q 4)) (f + m) (c, st) = c_Finder_ask_l1 Zd K (q 5) (some (q 4)) f (c1, st) ∧ c1.toInt = e := by
  have N := nums
  intro m
  induction m with
  | zero => intro f c hc c0 hz; exact ⟨c, rfl, by omega⟩
  | succ m ih =>
    intro f c hc c0 hz
    obtain ⟨j, hj⟩ : ∃ j : Nat, c.toInt = j := ⟨c.toInt.toNat, by omega⟩
    have kc1 : (c + 1).toInt = c.toInt + 1 := by rw [i32add (by omega) (by omega)]; omega
    have hj8 : j < 8 := by omega
    have hin : vp_in c 8 := vp_of (by omega) (by omega)
    have tc : c.toNatClampNeg = j := by rw [tnn]; omega
    have h0 := hz j (by omega) (by omega)
    have q1 : (c + 1).toInt + m = e := by omega
    have q2 : 0 ≤ (c + 1).toInt := by omega
    obtain ⟨c1, i1, i2⟩ := ih f (c + 1) q1 q2 (fun j9 x1 x2 => hz j9 (by omega) x2)
    have hq := (h.1.2.2.1 j hj8).1
    have r0 : gI K st (q (200 + j)) 7 0 = some (I (100 + 4 * j)) := gI_ob (k := 0) (h.1.sl hj8) rfl
    rw [h0] at r0
    have g87 : gI K st (q 5) 8 7 = some 0 := by rw [fg_5_7 h.1, h80]
    have hle : ¬ I 4 ≤ c := fun e9 => by have := i32le.mp e9; omega
    refine ⟨c1, ?_, i2⟩
    rw [show f + (m + 1) = f + m + 1 by omega, c_Finder_ask_l1_s]
    simp only [Option.bind_some, fg_4_1 h.1, hle, if_false, g87, if_true, fg_4_0 h.1, fr_11 h.1 hin, tc, hq, r0]
    exact i1
/-- the segments, one after the other -/
theorem as_l (hk : kc Zd K) {g n : Nat} {E : Nat → Nat} (hn8 : n ≤ 8) : ∀ (m f1 f2 i : Nat) (c gJ : Int32) (st : CS) (I : Nat → Int32) (Q : Nat → Nat → Option Nat) (ms : MS), i + m = g → c.toInt = E i → gJ.toInt = i → 8 - E i < f1 → m < f2 → Cx K st q cw I A R Q → RR Zd K st I Q ms → I 8 = ms.1 9 → I 8 = 0 → (I 4).toInt = n → QS K st I R ms g n E → ∃ st1 I1 Q1 ms1 c1 g1, c_Finder_ask_l1 Zd K (q 5) (some (q 4)) f1 (c, st) = some (c1, st1) ∧ m_ask_l1 f2 (gJ, ms) = some (g1, ms1) ∧ WK Zd K st q cw I A R Q ms st1 I1 Q1 ms1 := by
  have N := nums
  intro m
  induction m with
  | zero =>
    intro f1 f2 i c gJ st I Q ms hi hc hg hf1 hf2 hC hR h8 h80 hn hQ
    obtain ⟨f1, rfl⟩ : ∃ k, f1 = k + 1 := ⟨f1 - 1, by omega⟩
    obtain ⟨f2, rfl⟩ : ∃ k, f2 = k + 1 := ⟨f2 - 1, by omega⟩
    have hig : i = g := by omega
    subst hig
    have hEn := hQ.2.1
    have h5 := hQ.2.2.1
    have hle : I 4 ≤ c := i32le.mpr (by omega)
    have hle2 : ms.1 5 ≤ gJ := i32le.mpr (by omega)
    refine ⟨st, I, Q, ms, c, gJ, ?_, ?_, hC, le.rf K st, rfl, hR, ⟨h8, Or.inl h80⟩, fun _ _ _ _ => rfl, fun _ _ _ => rfl, fun _ _ _ _ => rfl, rfl, fun _ _ _ => rfl, rfl⟩
    · rw [c_Finder_ask_l1_s]
      simp only [Option.bind_some, fg_4_1 hC.1, hle, if_true]
    · rw [m_ask_l1_s]
      simp only [hle2, if_true]
  | succ m ih =>
    intro f1 f2 i c gJ st I Q ms hi hc hg hf1 hf2 hC hR h8 h80 hn hQ
    obtain ⟨f2, rfl⟩ : ∃ k, f2 = k + 1 := ⟨f2 - 1, by omega⟩
    obtain ⟨b1, b2, b3⟩ := hQ.2.2.2 i (by omega)
    have hLe := hQ.le (i + 1) (by omega)
    have hLe0 := hQ.le i (by omega)
    have hEn : E (i + 1) ≤ n := by omega
    have hE8 : E i < 8 := by omega
    have h5 := hQ.2.2.1
    have hin : vp_in c 8 := vp_of (by omega) (by omega)
    have tc : c.toNatClampNeg = E i := by rw [tnn]; omega
    have kc1 : (c + 1).toInt = c.toInt + 1 := by rw [i32add (by omega) (by omega)]; omega
    have kg1 : (gJ + 1).toInt = gJ.toInt + 1 := by rw [i32add (by omega) (by omega)]; omega
    have hg8 : i < 8 := by omega
    obtain ⟨s1, s2, s3⟩ := b3 (E i) (Nat.le_refl _) b1
    rw [if_pos rfl] at s2
    have s3 := s3 rfl
    have hzero : ∀ j : Nat, (c + 1).toInt ≤ j → j < E (i + 1) → I (100 + 4 * j) = 0 := by
      intro j x1 x2
      obtain ⟨-, y2, -⟩ := b3 j (by omega) x2
      rw [y2, if_neg (by omega)]
    have hend : E (i + 1) = n ∨ I (100 + 4 * E (i + 1)) = 1 := by
      by_cases e9 : i + 1 = g
      · left; rw [e9]; exact hQ.2.1
      · right
        obtain ⟨x1, -, x3⟩ := hQ.2.2.2 (i + 1) (by omega)
        obtain ⟨-, y2, -⟩ := x3 (E (i + 1)) (Nat.le_refl _) x1
        rw [y2, if_pos rfl]
    have q0 : (c + 1).toInt + (E (i + 1) - (E i + 1) : Nat) = E (i + 1) := by omega
    have q00 : 0 ≤ (c + 1).toInt := by omega
    obtain ⟨eI, se1, se2⟩ := se_l hC hn hEn hn8 hend (E (i + 1) - (E i + 1)) 4096 (c + 1) q0 q00 (by omega) hzero
    -- the model's marks
    have hing : vp_in gJ 8 := vp_of (by omega) (by omega)
    have tg : gJ.toNatClampNeg = i := by rw [tnn]; omega
    have m5 : rd (ms.2.2.1 5) 8 gJ = some eI := by
      rw [rd_in hing, tg]
      congr 1
      exact i32eq (by rw [b2, se2])
    have m4 : rd (ms.2.2.1 4) 9 gJ = some (I (101 + 4 * E i)) := by
      rw [rd_in (vp_of (by omega) (by omega)), tg, s3]
    have m5b : (if gJ = (0 : Int32) then (some (0 : Int32)) else ((some (gJ - 1)).bind fun y83 => (rd (ms.2.2.1 5) 8 y83).bind fun x84 => some x84)) = some c := by
      by_cases e0 : gJ = 0
      · rw [if_pos e0]
        have : i = 0 := by rw [e0, N.1] at hg; omega
        congr 1
        exact i32eq (by rw [hc, this, hQ.1]; rfl)
      · rw [if_neg e0, Option.bind_some]
        have hi0 : i ≠ 0 := fun e9 => e0 (i32eq (by rw [hg, e9]; rfl))
        have kg : (gJ - 1).toInt = (i - 1 : Nat) := by rw [i32sub (by rw [N.2.1]; omega) (by rw [N.2.1]; omega), N.2.1]; omega
        rw [rd_in (vp_of (by rw [kg]; omega) (by rw [kg]; omega)), Option.bind_some, show (gJ - 1).toNatClampNeg = i - 1 by rw [tnn, kg]; rfl]
        obtain ⟨-, x2, -⟩ := hQ.2.2.2 (i - 1) (by omega)
        congr 1
        exact i32eq (by rw [x2, hc, show i - 1 + 1 = i by omega])
    have hDC : DC K st I R ms gJ c eI (E i) (E (i + 1)) := ⟨hc, se2, by omega, by omega, fun j x1 x2 => (b3 j x1 x2).1, m5, m5b⟩
    obtain ⟨t1, I1, Q1, m1, e39, e45, w1, w2, w3, w4⟩ := walk_lock hk hC hR h8 h80 hDC b1 m4
    have hq := (hC.1.2.2.1 (E i) hE8).1
    have r0 : gI K st (q (200 + E i)) 7 0 = some (I (100 + 4 * E i)) := gI_ob (k := 0) (hC.1.sl hE8) rfl
    rw [s2] at r0
    have g87 : gI K st (q 5) 8 7 = some 0 := by rw [fg_5_7 hC.1, h80]
    have hm0 : ms.1 9 = 0 := by rw [← h8]; exact h80
    obtain ⟨f1, rfl⟩ : ∃ k, f1 = k + 1 := ⟨f1 - 1, by omega⟩
    have hle : ¬ I 4 ≤ c := fun e9 => by have := i32le.mp e9; omega
    have hle2 : ¬ ms.1 5 ≤ gJ := fun e9 => by have := i32le.mp e9; omega
    have hcl : c_Finder_ask_l1 Zd K (q 5) (some (q 4)) (f1 + 1) (c, st) = c_Finder_ask_l1 Zd K (q 5) (some (q 4)) f1 (c + 1, t1) := by
      rw [c_Finder_ask_l1_s]
      simp only [Option.bind_some, fg_4_1 hC.1, hle, if_false, g87, if_true, fg_4_0 hC.1, fr_11 hC.1 hin, tc, hq, r0, show ¬ ((1 : Int32) = 0) from by decide, fo_4 hC.1, c_Query_segmentEnd, se1, fo_5 hC.1, w1]
    have hml : m_ask_l1 (f2 + 1) (gJ, ms) = m_ask_l1 f2 (gJ + 1, m1) := by
      rw [m_ask_l1_s]
      simp only [hle2, if_false, hm0, if_true, w2, Option.bind_some, w3]
    rw [hcl, hml]
    have hI4 : I1 4 = I 4 := w4.2.2.2.2.2.1 4 (by decide) (by decide) (by decide)
    rcases w4.2.2.2.2.1.2 with h0 | h1
    · have hI1z : ∀ j : Nat, (c + 1).toInt ≤ j → j < E (i + 1) → I1 (100 + 4 * j) = 0 := fun j x1 x2 => by rw [w4.2.2.2.2.2.1 _ (by omega) (by omega) (by omega)]; exact hzero j x1 x2
      obtain ⟨c1, k1, k2⟩ := sk_l (Zd := Zd) w4.1 h0 (by rw [hI4]; exact hn) hEn hn8 (E (i + 1) - (E i + 1)) (f1 - (E (i + 1) - (E i + 1))) (c + 1) q0 q00 hI1z
      obtain ⟨t2, I2, Q2, m2, c2, g2, i1, i2, i3⟩ := ih (f1 - (E (i + 1) - (E i + 1))) f2 (i + 1) c1 (gJ + 1) t1 I1 Q1 m1 (by omega) k2 (by rw [kg1, hg]; rfl) (by omega) (Nat.lt_of_succ_lt_succ hf2) w4.1 w4.2.2.2.1 w4.2.2.2.2.1.1 h0 (by rw [hI4]; exact hn) (hQ.wk w4)
      rw [show f1 = f1 - (E (i + 1) - (E i + 1)) + (E (i + 1) - (E i + 1)) by omega, k1]
      obtain ⟨a1, a2, a3, a4, a5, a6, a7, a8, a9, a10, a11⟩ := w4
      obtain ⟨z1, z2, z3, z4, z5, z6, z7, z8, z9, z10, z11⟩ := i3
      exact ⟨t2, I2, Q2, m2, c2, g2, i1, i2, z1, a2.tr z2, z3.trans a3, z4, z5, fun k x y w => (z6 k x y w).trans (a6 k x y w), fun k x y => (z7 k x y).trans (a7 k x y), fun k x y w => (z8 k x y w).trans (a8 k x y w), z9.trans a9, fun k x y => (z10 k x y).trans (a10 k x y), z11.trans a11⟩
    · have hm1 : ¬ m1.1 9 = 0 := by rw [← w4.2.2.2.2.1.1, h1]; decide
      obtain ⟨f1, rfl⟩ : ∃ k, f1 = k + 1 := ⟨f1 - 1, by omega⟩
      have g87' : gI K t1 (q 5) 8 7 = some 1 := by rw [fg_5_7 w4.1.1, h1]
      by_cases hz : f2 = 0
      · omega
      · obtain ⟨f2, rfl⟩ : ∃ k, f2 = k + 1 := ⟨f2 - 1, by omega⟩
        refine ⟨t1, I1, Q1, m1, c + 1, gJ + 1, ?_, ?_, w4⟩
        · rw [c_Finder_ask_l1_s]
          simp only [Option.bind_some, fg_4_1 w4.1.1, g87', show ¬ ((1 : Int32) = 0) from by decide, if_false, ite_self]
        · rw [m_ask_l1_s]
          simp only [hm1, if_false, ite_self]
end ASK
