/-! Finding: a segment at a value and at its parts; class and model. -/
section VISIT
variable {Zd : Nat → Nat} {K : KE} {st st1 : CS} {ms ms1 : MS} {q : Nat → Nat} {cw : Nat} {I I1 : Nat → Int32} {A : Nat → Nat → Int32} {R : Nat → Option Nat} {Q Q1 : Nat → Nat → Option Nat}
theorem SO.fk {j : Nat} (h : SO K st I R ms j) (hf : FK Zd K st q cw I A R Q ms st1 I1 Q1 ms1) : SO K st1 I1 R ms1 j := by
  obtain ⟨-, hl, -, -, hi, -, -, -, ha, hb, -⟩ := hf
  unfold SO
  rw [hi (102 + 4 * j) (by omega) (by omega), hi (103 + 4 * j) (by omega) (by omega), ha 6 (by decide), ha 7 (by decide), hb]
  rcases h with ⟨a1, a2, a, cs, a3, a4, a5⟩ | h
  · exact Or.inl ⟨a1, a2, a, cs, a3, hl.str a4, a5⟩
  · exact Or.inr h
/-- a segment: its selectors, where it begins and ends, whose turn it is -/
def DB (K : KE) (st : CS) (I : Nat → Int32) (R : Nat → Option Nat) (ms : MS) (gJ bI eI kI x66 : Int32) (b e : Nat) : Prop := bI.toInt = b ∧ eI.toInt = e ∧ b ≤ e ∧ e ≤ 8 ∧ (∀ j, b ≤ j → j < e → SO K st I R ms j) ∧ rd (ms.2.2.1 5) 8 gJ = some eI ∧ (if gJ = (0 : Int32) then (some (0 : Int32)) else ((some (gJ - 1)).bind fun y83 => (rd (ms.2.2.1 5) 8 y83).bind fun x84 => some x84)) = some bI ∧ rd (ms.2.2.1 8) 33 kI = some x66
theorem DB.fk {gJ bI eI kI x66 : Int32} {b e : Nat} (h : DB K st I R ms gJ bI eI kI x66 b e) (hf : FK Zd K st q cw I A R Q ms st1 I1 Q1 ms1) : DB K st1 I1 R ms1 gJ bI eI kI x66 b e := by
  obtain ⟨h1, h2, h3, h4, h5, h6, h7, h8⟩ := h
  refine ⟨h1, h2, h3, h4, fun j a c => (h5 j a c).fk hf, ?_, ?_, ?_⟩
  · rw [hf.2.2.2.2.2.2.2.2.1 5 (by decide)]; exact h6
  · rw [hf.2.2.2.2.2.2.2.2.1 5 (by decide)]; exact h7
  · rw [hf.2.2.2.2.2.2.2.2.1 8 (by decide)]; exact h8
theorem vis_l (hk : kc Zd K) {gJ eI x : Int32} {d p c e : Nat} {L : List Nd} (hd : d + 1 ≤ 5) (hx : x.toInt = c) (he : eI.toInt = e) (he8 : e ≤ 8) : ∀ (m f1 f2 : Nat) (n : Int32) (st : CS) (I : Nat → Int32) (Q : Nat → Nat → Option Nat) (ms : MS), n.toInt + m = e → 0 ≤ n.toInt → m < f1 → m < f2 → Cx K st q cw I A R Q → FR Zd K st I Q ms → (∀ j : Nat, n.toInt ≤ j → j < e → SO K st I R ms j) → vC Zd K st ms (d + 1) p c L → rd (ms.2.2.1 5) 8 gJ = some eI → ∃ st1 I1 Q1 ms1 n1 n2, c_Finder_visit_l1 Zd K (q 5) (some (q 4)) eI (some p) f1 (n, st) = some (n1, st1) ∧ m_ask_l6 gJ x f2 (n, ms) = some (n2, ms1) ∧ FK Zd K st q cw I A R Q ms st1 I1 Q1 ms1 := by
  have N := nums
  intro m
  induction m with
  | zero =>
    intro f1 f2 n st I Q ms hn n0 hf1 hf2 hC hF hS hv hr
    obtain ⟨f1, rfl⟩ : ∃ f, f1 = f + 1 := ⟨f1 - 1, by omega⟩
    obtain ⟨f2, rfl⟩ : ∃ f, f2 = f + 1 := ⟨f2 - 1, by omega⟩
    have hle : eI ≤ n := i32le.mpr (by omega)
    refine ⟨st, I, Q, ms, n, n, ?_, ?_, FK.rf hC hF⟩
    · rw [c_Finder_visit_l1_s, if_pos hle]
    · rw [m_ask_l6_s]
      simp only [hr, Option.bind_some, hle, if_true]
  | succ m ih =>
    intro f1 f2 n st I Q ms hn n0 hf1 hf2 hC hF hS hv hr
    obtain ⟨f1, rfl⟩ : ∃ f, f1 = f + 1 := ⟨f1 - 1, by omega⟩
    obtain ⟨f2, rfl⟩ : ∃ f, f2 = f + 1 := ⟨f2 - 1, by omega⟩
    obtain ⟨j, hj⟩ : ∃ j : Nat, n.toInt = j := ⟨n.toInt.toNat, by omega⟩
    have kn : (n + 1).toInt = n.toInt + 1 := by rw [i32add (by omega) (by omega)]; omega
    have hj8 : j < 8 := by omega
    have hin : vp_in n 8 := vp_of (by omega) (by omega)
    have tn : n.toNatClampNeg = j := by rw [tnn]; omega
    have e1 : j < e := by omega
    have e2 : (n + 1).toInt + m = e := by omega
    have e3 : 0 ≤ (n + 1).toInt := by omega
    obtain ⟨t1, I1, Q1, m1, a1, a2, a3⟩ := sel_find (Zd := Zd) hk hC hF hj8 (hS j (by omega) e1) hd hv hj hx
    obtain ⟨t2, I2, Q2, m2, n1, n2, i1, i2, i3⟩ := ih f1 f2 (n + 1) t1 I1 Q1 m1 e2 e3 (by omega) (by omega) a3.1 a3.2.2.2.1 (fun i h1 h2 => (hS i (by omega) h2).fk a3) (hv.sr a3.2.1 a3.sr) (by rw [a3.2.2.2.2.2.2.2.2.1 5 (by decide)]; exact hr)
    have hle : ¬ eI ≤ n := fun e9 => by have := i32le.mp e9; omega
    have hq := (hC.1.2.2.1 j hj8).1
    refine ⟨t2, I2, Q2, m2, n1, n2, ?_, ?_, a3.tr i3⟩
    · rw [c_Finder_visit_l1_s, if_neg hle]
      simp only [Option.bind_some, fg_4_0 hC.1, fr_11 hC.1 hin, tn, hq, fo_5 hC.1, a1]
      exact i1
    · rw [m_ask_l6_s]
      simp only [hr, Option.bind_some, hle, if_false, a2]
      exact i2
/-- a segment at a value -/
theorem nd_lock (hk : kc Zd K) (h : Cx K st q cw I A R Q) (hf : FR Zd K st I Q ms) {gJ bI eI kI x66 e57 v : Int32} {b e d p c : Nat} {L : List Nd} (hD : DB K st I R ms gJ bI eI kI x66 b e) (hd : d + 1 ≤ 5) (hv : vC Zd K st ms (d + 1) p c L) (hc : v.toInt = c) (hlt : ¬ x66 + e57 ≤ v) : ∃ st1 I1 Q1 ms1, c_Finder_visit Zd K (q 5) (some (q 4)) bI eI (some p) st = some st1 ∧ (∀ f, m_ask_l5 gJ kI e57 (f + 1) (v, ms) = m_ask_l5 gJ kI e57 f (v + 1, ms1)) ∧ FK Zd K st q cw I A R Q ms st1 I1 Q1 ms1 := by
  obtain ⟨h1, h2, h3, h4, h5, h6, h7, h8⟩ := hD
  obtain ⟨t1, I1, Q1, m1, n1, n2, a1, a2, a3⟩ := vis_l (Zd := Zd) (q := q) (cw := cw) (A := A) (R := R) hk hd hc h2 h4 (e - b) 4096 4096 bI st I Q ms (by omega) (by omega) (by omega) (by omega) h hf (fun j x1 x2 => h5 j (by omega) x2) hv h6
  refine ⟨t1, I1, Q1, m1, by simp only [c_Finder_visit, a1, Option.bind_some], fun f => ?_, a3⟩
  rw [m_ask_l5_s]
  simp only [h8, Option.bind_some, hlt, if_false] at h7 ⊢
  rw [h7, Option.bind_some, a2, Option.bind_some]
end VISIT
