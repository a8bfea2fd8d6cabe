/-! The model writes a node of a row. -/
section EMIT2
variable {LL : List Nd} {m0 m : MS} {a0 : Nat} {b : Int32} {T : List Int32}
def hoI (a0 : Nat) : Option Nat → Int32
  | none => -1
  | some n => Int32.ofNat (a0 + n)
theorem l2_ok (h : RW LL m0 a0 b) (hm : MB m0 T m) {j : Nat} (hj : j ≤ LL.length) {v : Int32} (hv : v.toInt = a0 + j) : ∀ (r n fuel : Nat) (g : Int32), n + r = j → g.toInt = a0 + n → r < fuel → ∃ e, m_emitValue_l2 v m fuel (hoI a0 (hol LL j n), g) = some (hoI a0 (hol LL j j), e) := by
  have N := nums
  have h24 := h.2.1
  have h21 := h.2.2.1
  intro r
  induction r with
  | zero =>
    intro n fuel g h1 h2 h3
    obtain ⟨f, rfl⟩ : ∃ f, fuel = f + 1 := ⟨fuel - 1, by omega⟩
    have hle : v ≤ g := i32le.mpr (by omega)
    refine ⟨g, ?_⟩
    rw [m_emitValue_l2_s, if_pos hle, show n = j by omega]
  | succ r ih =>
    intro n fuel g h1 h2 h3
    obtain ⟨f, rfl⟩ : ∃ f, fuel = f + 1 := ⟨fuel - 1, by omega⟩
    have hle : ¬ v ≤ g := fun e => by have := i32le.mp e; omega
    have hn : n < LL.length := by omega
    have hx : LL[n]? = some LL[n] := List.getElem?_eq_getElem hn
    obtain ⟨-, x2, -⟩ := h.at hm hx h2
    have hok := h.2.2.2.2.1 _ (List.getElem_mem hn)
    have hsp : (Int32.ofNat (LL[n]).2.1).toInt = (LL[n]).2.1 := ofNat_i (by have := hok.2.2; omega)
    have hadd : (g + Int32.ofNat (LL[n]).2.1).toInt = a0 + n + (LL[n]).2.1 := by have := hok.2.2; rw [i32add (by omega) (by omega)]; omega
    have k1 : (g + 1).toInt = a0 + (n + 1 : Nat) := by rw [i32add (by omega) (by omega)]; omega
    obtain ⟨e, he⟩ := ih (n + 1) f (g + 1) (by omega) k1 (by omega)
    have hif : (if g + Int32.ofNat (LL[n]).2.1 ≤ v then (some (hoI a0 (hol LL j n))) else (some g)) = some (hoI a0 (hol LL j (n + 1))) := by
      rw [hol_s hx]
      by_cases c : j < n + (LL[n]).2.1
      · rw [if_pos c, if_neg (fun e9 => by have := i32le.mp e9; omega)]
        show some g = some (Int32.ofNat (a0 + n))
        rw [i32eq (a := g) (b := Int32.ofNat (a0 + n)) (by rw [ofNat_i (by omega)]; omega)]
      · rw [if_neg c, if_pos (i32le.mpr (by omega))]
    refine ⟨e, ?_⟩
    rw [m_emitValue_l2_s, if_neg hle]
    simp only [x2, Option.bind_some, hif]
    exact he
theorem l3_ok (h : RW LL m0 a0 b) {j : Nat} (hj : j < LL.length) {v : Int32} (hv : v.toInt = a0 + j) : ∀ (n fuel : Nat) (g : Int32) (T : List Int32) (m : MS), n ≤ j + 1 → g.toInt = a0 + n - 1 → n < fuel → MB m0 T m → T.length + (clo LL (j + 1) n).length ≤ 1200 → ∃ e m1, m_emitValue_l3 b v fuel (g, m) = some (e, m1) ∧ MB m0 (T ++ clo LL (j + 1) n) m1 := by
  have N := nums
  have h24 := h.2.1
  have h21 := h.2.2.1
  have hb := h.1
  intro n
  induction n with
  | zero =>
    intro fuel g T m h1 h2 h3 hm hT
    obtain ⟨f, rfl⟩ : ∃ f, fuel = f + 1 := ⟨fuel - 1, by omega⟩
    have hlt : g < b := i32lt.mpr (by omega)
    refine ⟨g, m, ?_, by show MB m0 (T ++ []) m; rw [List.append_nil]; exact hm⟩
    rw [m_emitValue_l3_s, if_pos hlt]
  | succ n ih =>
    intro fuel g T m h1 h2 h3 hm hT
    obtain ⟨f, rfl⟩ : ∃ f, fuel = f + 1 := ⟨fuel - 1, by omega⟩
    have hn1 : n ≤ j + 1 := Nat.le_of_succ_le h1
    have hf1 : n < f := Nat.lt_of_succ_lt_succ h3
    have hlt : ¬ g < b := fun e => by have := i32lt.mp e; omega
    have hn : n < LL.length := by omega
    have hx : LL[n]? = some LL[n] := List.getElem?_eq_getElem hn
    have hgn : g.toInt = a0 + n := by omega
    obtain ⟨x1, x2, -⟩ := h.at hm hx hgn
    have hok := h.2.2.2.2.1 _ (List.getElem_mem hn)
    have hsp : (Int32.ofNat (LL[n]).2.1).toInt = (LL[n]).2.1 := ofNat_i (by have := hok.2.2; omega)
    have hadd : (g + Int32.ofNat (LL[n]).2.1).toInt = a0 + n + (LL[n]).2.1 := by have := hok.2.2; rw [i32add (by omega) (by omega)]; omega
    have kv : (v + 1).toInt = a0 + j + 1 := by rw [i32add (by omega) (by omega)]; omega
    have k1 : (g + -1).toInt = a0 + n - 1 := by rw [i32add (by omega) (by omega)]; omega
    rw [clo_s hx] at hT ⊢
    rw [m_emitValue_l3_s, if_neg hlt]
    by_cases c5 : (LL[n]).1 < 5
    · rw [if_pos c5, List.nil_append] at hT ⊢
      obtain ⟨e, m1, i1, i2⟩ := ih f (g + -1) T m hn1 k1 hf1 hm hT
      refine ⟨e, m1, ?_, i2⟩
      simp only [x1, Option.bind_some, c5, if_true]
      exact i1
    · rw [if_neg c5] at hT ⊢
      by_cases ce : n + (LL[n]).2.1 = j + 1
      · rw [if_pos ce, List.length_append] at hT
        rw [if_pos ce]
        have hT : T.length + (1 + (clo LL (j + 1) n).length) ≤ 1200 := hT
        have hey : g + Int32.ofNat (LL[n]).2.1 = v + 1 := i32eq (by omega)
        obtain ⟨m1, f1, f2⟩ := hm.chr (by omega) (c := if (LL[n]).1 = 5 then 93 else 125) (by split <;> decide) (by split <;> decide)
        obtain ⟨e, m2, i1, i2⟩ := ih f (g + -1) _ m1 hn1 k1 hf1 f2 (by rw [List.length_append]; show T.length + 1 + _ ≤ 1200; omega)
        refine ⟨e, m2, ?_, by rw [List.append_assoc] at i2; exact i2⟩
        have hif : (if (LL[n]).1 = (5 : Int32) then (some (93 : Int32)) else (some (125 : Int32))) = some (if (LL[n]).1 = 5 then 93 else 125) := by split <;> rfl
        simp only [x1, Option.bind_some, c5, if_false, x2, hey, if_true, hif, f1]
        exact i1
      · rw [if_neg ce, List.nil_append] at hT ⊢
        have hey : ¬ g + Int32.ofNat (LL[n]).2.1 = v + 1 := fun e => by rw [e] at hadd; omega
        obtain ⟨e, m1, i1, i2⟩ := ih f (g + -1) T m hn1 k1 hf1 hm hT
        refine ⟨e, m1, ?_, i2⟩
        simp only [x1, Option.bind_some, c5, if_false, x2, hey]
        exact i1
theorem MB.four (hm : MB m0 T m) {c1 c2 c3 c4 : Int32} (hT : T.length + 4 ≤ 1200) (h1 : 0 ≤ c1.toInt ∧ c1.toInt ≤ 255) (h2 : 0 ≤ c2.toInt ∧ c2.toInt ≤ 255) (h3 : 0 ≤ c3.toInt ∧ c3.toInt ≤ 255) (h4 : 0 ≤ c4.toInt ∧ c4.toInt ≤ 255) : ∃ m1, m_emitFour c1 c2 c3 c4 m = some m1 ∧ MB m0 (T ++ [c1, c2, c3, c4]) m1 := by
  obtain ⟨m1, a1, a2⟩ := hm.chr (by omega) h1.1 h1.2
  obtain ⟨m2, b1, b2⟩ := a2.chr (by rw [List.length_append]; show T.length + 1 < 1200; omega) h2.1 h2.2
  obtain ⟨m3, c1', c2'⟩ := b2.chr (by rw [List.length_append, List.length_append]; show T.length + 1 + 1 < 1200; omega) h3.1 h3.2
  obtain ⟨m4, d1, d2⟩ := c2'.chr (by rw [List.length_append, List.length_append, List.length_append]; show T.length + 1 + 1 + 1 < 1200; omega) h4.1 h4.2
  refine ⟨m4, by simp only [m_emitFour, a1, b1, c1', d1, Option.bind_some], ?_⟩
  rw [List.append_assoc, List.append_assoc, List.append_assoc] at d2
  exact d2
theorem tHd_len {x : Nd} (h : okS x.2.2.2.1) : (tHd x).length ≤ 22 := by
  unfold tHd
  have h1 := tStr_len h.1
  have h2 := tNum_len x.2.2.1
  repeat' split
  all_goals first | (show _ ≤ 22; decide) | omega
theorem node_ok (h : RW LL m0 a0 b) (hm : MB m0 T m) {j : Nat} {x : Nd} (hx : LL[j]? = some x) {v : Int32} (hv : v.toInt = a0 + j) (hT : T.length + (tHd x).length ≤ 1200) : ∃ m1, m_emitNode v m = some m1 ∧ MB m0 (T ++ tHd x) m1 := by
  have N := nums
  have N5 : (5 : Int32).toInt = 5 ∧ (6 : Int32).toInt = 6 := by decide
  obtain ⟨x1, x2, x3, x4, -⟩ := h.at hm hx hv
  have hmem : x ∈ LL := List.mem_of_getElem? hx
  obtain ⟨s1, s2, s3, s4⟩ := h.2.2.2.2.2 x hmem
  have hok := h.2.2.2.2.1 x hmem
  unfold tHd at hT ⊢
  by_cases k0 : x.1 = 0
  · rw [if_pos k0] at hT ⊢
    obtain ⟨m1, f1, f2⟩ := hm.four (c1 := 110) (c2 := 117) (c3 := 108) (c4 := 108) hT (by decide) (by decide) (by decide) (by decide)
    exact ⟨m1, by simp only [m_emitNode, x1, Option.bind_some, k0, if_true, f1], f2⟩
  rw [if_neg k0] at hT ⊢
  by_cases k1 : x.1 = 1
  · rw [if_pos k1] at hT ⊢
    obtain ⟨m1, f1, f2⟩ := hm.four (c1 := 116) (c2 := 114) (c3 := 117) (c4 := 101) hT (by decide) (by decide) (by decide) (by decide)
    exact ⟨m1, by simp only [m_emitNode, x1, Option.bind_some, k1, show ¬ ((1 : Int32) = 0) from by decide, if_false, if_true, f1], f2⟩
  rw [if_neg k1] at hT ⊢
  by_cases k2 : x.1 = 2
  · rw [if_pos k2] at hT ⊢
    have hT : T.length + 5 ≤ 1200 := hT
    obtain ⟨m1, f1, f2⟩ := hm.chr (c := 102) (by omega) (by decide) (by decide)
    obtain ⟨m2, g1, g2⟩ := f2.four (c1 := 97) (c2 := 108) (c3 := 115) (c4 := 101) (by rw [List.length_append]; show T.length + 1 + 4 ≤ 1200; omega) (by decide) (by decide) (by decide) (by decide)
    exact ⟨m2, by simp only [m_emitNode, x1, Option.bind_some, k2, show ¬ ((2 : Int32) = 0) from by decide, show ¬ ((2 : Int32) = 1) from by decide, if_false, if_true, f1, g1], by rw [List.append_assoc] at g2; exact g2⟩
  rw [if_neg k2] at hT ⊢
  by_cases k3 : x.1 = 3
  · rw [if_pos k3] at hT ⊢
    have hp : payA x = x.2.2.1.toInt64 := by unfold payA; rw [if_pos k3]
    obtain ⟨m1, f1, f2⟩ := hm.num (num := x.2.2.1) (by omega) hT
    exact ⟨m1, by simp only [m_emitNode, x1, Option.bind_some, k3, show ¬ ((3 : Int32) = 0) from by decide, show ¬ ((3 : Int32) = 1) from by decide, show ¬ ((3 : Int32) = 2) from by decide, if_false, if_true, x3, hp, f1], f2⟩
  rw [if_neg k3] at hT ⊢
  by_cases k4 : x.1 = 4
  · rw [if_pos k4] at hT ⊢
    have hp : payA x = (enc x.2.2.2.1).1 := by unfold payA; rw [if_neg k3, if_pos k4]
    have hq : payB x = (enc x.2.2.2.1).2 := by unfold payB; rw [if_pos k4]
    obtain ⟨m1, f1, f2⟩ := hm.qs s1.1 hT
    exact ⟨m1, by simp only [m_emitNode, x1, Option.bind_some, k4, show ¬ ((4 : Int32) = 0) from by decide, show ¬ ((4 : Int32) = 1) from by decide, show ¬ ((4 : Int32) = 2) from by decide, show ¬ ((4 : Int32) = 3) from by decide, if_false, if_true, x3, x4, hp, hq, f1], f2⟩
  rw [if_neg k4] at hT ⊢
  have hif : (if x.1 = (5 : Int32) then (some (91 : Int32)) else (some (123 : Int32))) = some (if x.1 = 5 then 91 else 123) := by split <;> rfl
  have hl : (if x.1 = 5 then ([91] : List Int32) else [123]) = [if x.1 = 5 then 91 else 123] := by split <;> rfl
  rw [hl] at hT ⊢
  have hT : T.length + 1 ≤ 1200 := hT
  obtain ⟨m1, f1, f2⟩ := hm.chr (c := if x.1 = 5 then 91 else 123) (by omega) (by split <;> decide) (by split <;> decide)
  exact ⟨m1, by simp only [m_emitNode, x1, Option.bind_some, k0, k1, k2, k3, k4, if_false, hif, f1], f2⟩
/-- a node, with what stands before it and what ends behind it -/
theorem l1_step (h : RW LL m0 a0 b) (hm : MB m0 T m) {j : Nat} {x : Nd} (hx : LL[j]? = some x) {v y2 : Int32} (hv : v.toInt = a0 + j) (hy : y2.toInt = a0 + LL.length) (hT : T.length + (preT LL x.2.2.2.2 j (hol LL j j) ++ tHd x ++ clo LL (j + 1) (j + 1)).length ≤ 1200) (f : Nat) : ∃ m1, m_emitValue_l1 b y2 (f + 1) (v, m) = m_emitValue_l1 b y2 f (v + 1, m1) ∧ MB m0 (T ++ (preT LL x.2.2.2.2 j (hol LL j j) ++ tHd x ++ clo LL (j + 1) (j + 1))) m1 := by
  have N := nums
  have h24 := h.2.1
  have h21 := h.2.2.1
  have hj : j < LL.length := (List.getElem?_eq_some_iff.mp hx).1
  have hmem : x ∈ LL := List.mem_of_getElem? hx
  obtain ⟨s1, s2, s3, s4⟩ := h.2.2.2.2.2 x hmem
  have hle : ¬ y2 ≤ v := fun e => by have := i32le.mp e; omega
  obtain ⟨e2, hl2⟩ := l2_ok h hm (Nat.le_of_lt hj) hv j 0 4096 b (by omega) (by rw [h.1]; simp) (by omega)
  have hl2 : m_emitValue_l2 v m 4096 (-1, b) = some (hoI a0 (hol LL j j), e2) := hl2
  -- what stands before it
  have hpre : T.length + (preT LL x.2.2.2.2 j (hol LL j j)).length ≤ 1200 → ∃ e20, ((if hoI a0 (hol LL j j) < (0 : Int32) then (some m) else ((some (hoI a0 (hol LL j j) + 1)).bind fun y57 => if v ≤ y57 then (some m) else ((m_emit (44 : Int32) m).bind fun st60 => some st60))).bind fun e17 => (if hoI a0 (hol LL j j) < (0 : Int32) then (some e17) else ((rd (e17.2.2.1 1) 2100 (hoI a0 (hol LL j j))).bind fun x47 => if x47 = (6 : Int32) then ((rd (e17.2.2.2 2) 2100 v).bind fun x49 => (rd (e17.2.2.2 3) 2100 v).bind fun x50 => (m_emitString x49 x50 e17).bind fun st52 => (m_emit (58 : Int32) st52).bind fun st55 => some st55) else (some e17)))) = some e20 ∧ MB m0 (T ++ preT LL x.2.2.2.2 j (hol LL j j)) e20 := by
    cases hh : hol LL j j with
    | none =>
      intro _
      have hl0 : hoI a0 none < (0 : Int32) := by show (-1 : Int32) < 0; decide
      refine ⟨m, by simp only [hl0, if_true, Option.bind_some], ?_⟩
      show MB m0 (T ++ []) m
      rw [List.append_nil]; exact hm
    | some g =>
      intro hpl
      have hgj := hol_lt j hh
      have hoi : (hoI a0 (some g)).toInt = a0 + g := by show (Int32.ofNat (a0 + g)).toInt = _; rw [ofNat_i (by omega)]; omega
      have hl0 : ¬ hoI a0 (some g) < (0 : Int32) := fun e => by have := i32lt.mp e; omega
      have k1 : (hoI a0 (some g) + 1).toInt = a0 + g + 1 := by rw [i32add (by omega) (by omega)]; omega
      have hgx : LL[g]? = some LL[g] := List.getElem?_eq_getElem (by omega)
      have hnm : (match LL[g]? with | some x9 => if x9.1 = 6 then tStr x.2.2.2.2 ++ [58] else [] | none => []) = if (LL[g]).1 = 6 then tStr x.2.2.2.2 ++ [58] else [] := by rw [hgx]
      have hpt : preT LL x.2.2.2.2 j (some g) = (if j ≤ g + 1 then [] else [44]) ++ (if (LL[g]).1 = 6 then tStr x.2.2.2.2 ++ [58] else []) := by
        show _ ++ (match LL[g]? with | some x9 => if x9.1 = 6 then tStr x.2.2.2.2 ++ [58] else [] | none => []) = _
        rw [hnm]
      rw [hpt, List.length_append] at hpl
      rw [hpt]
      obtain ⟨e17, f1, f2⟩ : ∃ e17, (if v ≤ hoI a0 (some g) + 1 then (some m) else ((m_emit (44 : Int32) m).bind fun st60 => some st60)) = some e17 ∧ MB m0 (T ++ (if j ≤ g + 1 then [] else [44])) e17 := by
        by_cases c : j ≤ g + 1
        · refine ⟨m, if_pos (i32le.mpr (by omega)), ?_⟩
          rw [if_pos c, List.append_nil]; exact hm
        · rw [if_neg c] at hpl ⊢
          have hpl : T.length + (1 + _) ≤ 1200 := hpl
          obtain ⟨m1, f1, f2⟩ := hm.chr (c := 44) (by omega) (by decide) (by decide)
          refine ⟨m1, ?_, f2⟩
          rw [if_neg (fun e => by have := i32le.mp e; omega), f1, Option.bind_some]
      obtain ⟨g1, -⟩ := h.at f2 hgx hoi
      obtain ⟨-, -, -, -, nm⟩ := h.at f2 hx hv
      obtain ⟨p, q, n1, n2, n3⟩ := nm (by omega)
      have n3a : p = (enc x.2.2.2.2).1 := by rw [← n3]
      have n3b : q = (enc x.2.2.2.2).2 := by rw [← n3]
      by_cases c6 : (LL[g]).1 = 6
      · rw [if_pos c6] at hpl ⊢
        rw [List.length_append] at hpl
        have hpl : T.length + ((if j ≤ g + 1 then ([] : List Int32) else [44]).length + ((tStr x.2.2.2.2).length + 1)) ≤ 1200 := hpl
        obtain ⟨m2, u1, u2⟩ := f2.qs s2.1 (by rw [List.length_append]; omega)
        obtain ⟨m3, w1, w2⟩ := u2.chr (c := 58) (by rw [List.length_append, List.length_append]; omega) (by decide) (by decide)
        refine ⟨m3, ?_, by rw [List.append_assoc, List.append_assoc] at w2; exact w2⟩
        simp only [hl0, if_false, Option.bind_some, f1, g1, c6, if_true, n1, n2, n3a, n3b, u1, w1]
      · rw [if_neg c6, List.append_nil]
        refine ⟨e17, ?_, f2⟩
        simp only [hl0, if_false, Option.bind_some, f1, g1, c6]
  rw [List.length_append, List.length_append] at hT
  obtain ⟨e20, p1, p2⟩ := hpre (by omega)
  obtain ⟨m2, u1, u2⟩ := node_ok h p2 hx hv (by rw [List.length_append]; omega)
  obtain ⟨e3, m3, w1, w2⟩ := l3_ok h hj hv (j + 1) 4096 v _ m2 (Nat.le_refl _) (by rw [hv]; omega) (by omega) u2 (by rw [List.length_append, List.length_append]; omega)
  refine ⟨m3, ?_, by rw [List.append_assoc, List.append_assoc] at w2; rw [List.append_assoc]; exact w2⟩
  rw [m_emitValue_l1_s, if_neg hle]
  simp only [hl2, Option.bind_some]
  obtain ⟨e17, q1, q2⟩ := ob p1
  simp only [Option.bind_some] at q1
  simp only [q1, q2, Option.bind_some, u1, w1]
end EMIT2
