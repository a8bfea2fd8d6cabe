/-! A leaf written. -/
theorem copyRow_ok {ms : MS} {s d x y : Int32} {a b : Nat} {L : List Nd} (hrow : rowIs ms a L) (hok : okL L) (hl : L.length ≤ 24) (hs : m_at s = some x) (hx : x.toInt = a) (hd : m_at d = some y) (hy : y.toInt = b) (ha : a + L.length ≤ 2100) (hb : b + L.length ≤ 2100) (hdis : a + L.length ≤ b ∨ b + L.length ≤ a) : ∃ ms1, m_copyRow s d ms = some ms1 ∧ cpd ms ms1 a b L.length := by
  have hok0 := hok
  obtain ⟨⟨x0, xs, e1, e2⟩, -⟩ := hok
  have h0 := (hrow 0 x0 (by rw [e1]; rfl)).2.1
  rw [Nat.add_zero, e2] at h0
  have hpos : 0 < L.length := by rw [e1]; simp
  have hin : vp_in x 2100 := vp_of (by omega) (by omega)
  have hxt : x.toNatClampNeg = a := by rw [tnn, hx]; omega
  obtain ⟨ms1, c1, c2⟩ := copy_ok (ms := ms) (a0 := x) (a1 := y) (a2 := Int32.ofNat L.length) hx hy (ofNat_i (by omega)) ha hb hdis (row_nar hrow hok0 (by omega))
  refine ⟨ms1, ?_, c2⟩
  simp only [m_copyRow, hs, hd, Option.bind_some, rd_in hin, hxt, h0, c1]
theorem at_row {r : Int32} (h0 : 0 ≤ r.toInt) (h1 : r.toInt < 80) : ∃ x : Int32, m_at r = some x ∧ x.toInt = 24 * r.toInt := by
  have L := nums
  have hn : ¬ 80 ≤ r := fun e => by have := i32le.mp e; omega
  refine ⟨24 * r, ?_, i32mulk 24 (by decide) (by omega) (by omega)⟩
  simp only [m_at, hn, if_false, Option.bind_some]
section LEAF
variable {Zd : Nat → Nat} {K : KE} {st : CS} {ms : MS} {q : Nat → Nat} {cw : Nat} {I : Nat → Int32} {A : Nat → Nat → Int32} {R : Nat → Option Nat} {Q : Nat → Nat → Option Nat}
theorem cleaf_lock (hk1 : wk K) {leaf : Int32} (p0 : 0 ≤ leaf.toInt) (p1 : leaf.toInt < 12) (hob : ∀ n : Nat, n < 4 → ∀ b, Q 5 n = some b → ∃ fs, ob1 st b 11 fs) : ∀ (m fuel : Nat) (k : Int32) (sk : CS) (g : Nat → Option Nat), k.toInt + m = 4 → 0 ≤ k.toInt → m < fuel → Fx sk q cw I A R (va_up Q (10 + leaf.toNatClampNeg) g) → le K st sk → Rz K sk q → wf K sk → sk.1 = st.1 → (∀ n : Nat, n < k.toNatClampNeg → g n = Q 5 n) → ∃ s1 g1, c_Store_writeLeaf_l1 K (q 6) leaf fuel (k, sk) = some (4, s1) ∧ Fx s1 q cw I A R (va_up Q (10 + leaf.toNatClampNeg) g1) ∧ le K st s1 ∧ Rz K s1 q ∧ wf K s1 ∧ s1.1 = st.1 ∧ ∀ n : Nat, n < 4 → g1 n = Q 5 n := by
  have L := nums
  have hl12 : leaf.toNatClampNeg < 12 := by rw [tnn]; omega
  intro m
  induction m with
  | zero =>
    intro fuel k sk g h1 h2 h3 hF hl hz hw h1s hg
    obtain ⟨f, rfl⟩ : ∃ f, fuel = f + 1 := ⟨fuel - 1, by omega⟩
    have hk : k = 4 := i32eq (by omega)
    subst hk
    exact ⟨sk, g, by rw [c_Store_writeLeaf_l1_s, if_pos (show (4 : Int32) ≤ 4 from by decide)], hF, hl, hz, hw, h1s, hg⟩
  | succ m ih =>
    intro fuel k sk g h1 h2 h3 hF hl hz hw h1s hg
    obtain ⟨f, rfl⟩ : ∃ f, fuel = f + 1 := ⟨fuel - 1, by omega⟩
    have hk8 : ¬ 4 ≤ k := fun e => by have := i32le.mp e; omega
    have k1 : (k + 1).toInt = k.toInt + 1 := by rw [i32add (by omega) (by omega)]; omega
    have hkt : (k + 1).toNatClampNeg = k.toNatClampNeg + 1 := by rw [tnn, tnn, k1]; omega
    have hin : vp_in k 4 := vp_of h2 (by omega)
    have hk4 : k.toNatClampNeg < 4 := by rw [tnn]; omega
    obtain ⟨a1, a2, a3, a4⟩ := hF.2.1 _ hl12
    rw [va_up_self] at a3
    have hq5 : va_up Q (10 + leaf.toNatClampNeg) g 5 = Q 5 := va_up_ne _ _ (by omega)
    have hrd : rQ K sk (q 21) 5 k = some (Q 5 k.toNatClampNeg) := by rw [fr_21 hF hin, hq5]
    have hw1 := wQ_ar (ci := 11) (r := Q 5 k.toNatClampNeg) a3 hin (fun b hb => by
      obtain ⟨fs, h9⟩ := hob _ hk4 b hb
      exact ⟨fs, le_ob hk1 hl h9⟩)
    have hF2 := hF.putDocs hl12 (va_up g k.toNatClampNeg (Q 5 k.toNatClampNeg))
    rw [va_up_up] at hF2
    have l2 := nb_le (e := .inr (.inl (5, 4, va_up g k.toNatClampNeg (Q 5 k.toNatClampNeg)))) hz a3.1 a3.2 rfl
    have z2 := nb_Rz (e := .inr (.inl (5, 4, va_up g k.toNatClampNeg (Q 5 k.toNatClampNeg)))) hz a3.1 a3.2 rfl rfl
    obtain ⟨s1, g1, i1, i2⟩ := ih f (k + 1) _ (va_up g k.toNatClampNeg (Q 5 k.toNatClampNeg)) (by omega) (by omega) (by omega) hF2 (hl.tr l2) z2 hw h1s (fun n hn => by
      rw [hkt] at hn
      by_cases e : n = k.toNatClampNeg
      · rw [e, va_up_self]
      · rw [va_up_ne _ _ e]; exact hg n (by omega))
    refine ⟨s1, g1, ?_, i2⟩
    rw [c_Store_writeLeaf_l1_s, if_neg hk8]
    simp only [fg_6_0 hF, Option.bind_some, pg_read hF p0 p1, gQ_ob (k := 0) (r := some (q (101 + 3 * leaf.toNatClampNeg))) a2 rfl, fg_6_5 hF, hrd, hw1]
    exact i1
/-- what the model's leaf leaves: rows elsewhere, and all arrays but rows, marks and 'there' -/
def lv9 (ms mk : MS) (lf : Nat) : Prop := mk.1 = ms.1 ∧ mk.2.1 = ms.2.1 ∧ (∀ k, k ≠ 1 → k ≠ 2 → k ≠ 14 → mk.2.2.1 k = ms.2.2.1 k) ∧ (∀ k, 4 ≤ k → mk.2.2.2 k = ms.2.2.2 k) ∧ (∀ j, j < 4 * lf ∨ 4 * lf + 4 ≤ j → mk.2.2.1 14 j = ms.2.2.1 14 j) ∧ ∀ (c : Nat) (L : List Nd), c + L.length ≤ 96 * lf ∨ 96 * lf + 96 ≤ c → rowIs ms c L → rowIs mk c L
theorem mleaf_lock {lf : Int32} (p0 : 0 ≤ lf.toInt) (p1 : lf.toInt < 12) {old half id row : Int32} {r : Option Nat} (hp : Rp A ms) (hd : Rd Zd K st Q ms) (hold : pgr old) (hh : half = 0 ∨ half = 1) (hfree : useU A old lf = 0)
    (hr : (r = none ∧ row = -1) ∨ ∃ (a base : Nat) (x : Int32) (L : List Nd), r = some a ∧ 0 ≤ row.toInt ∧ m_at row = some x ∧ x.toInt = base ∧ 1920 ≤ base ∧ base + L.length ≤ 2100 ∧ treeOf Zd K st 5 a = some L ∧ rowIs ms base L ∧ L.length ≤ 24) :
    ∀ (m fuel : Nat) (k : Int32) (mk : MS), k.toInt + m = 4 * half.toInt + 4 → 4 * half.toInt ≤ k.toInt → m < fuel → lv9 ms mk lf.toNatClampNeg → (∀ i : Nat, i < (k.toInt - 4 * half.toInt).toNat → docIs Zd K st mk (24 * (4 * lf.toNatClampNeg + i)) (nwI A Q old id r (half * 4 + Int32.ofNat i)) (mk.2.2.1 14 (4 * lf.toNatClampNeg + i))) → ∃ (k1 : Int32) (m1 : MS), m_writeLeaf_l1 lf old half id row fuel (k, mk) = some (k1, m1) ∧ lv9 ms m1 lf.toNatClampNeg ∧ ∀ i : Nat, i < 4 → docIs Zd K st m1 (24 * (4 * lf.toNatClampNeg + i)) (nwI A Q old id r (half * 4 + Int32.ofNat i)) (m1.2.2.1 14 (4 * lf.toNatClampNeg + i)) := by
  have L := nums
  have hl12 : lf.toNatClampNeg < 12 := by rw [tnn]; omega
  have hh1 : 0 ≤ half.toInt ∧ half.toInt ≤ 1 := by rcases hh with e | e <;> rw [e] <;> decide
  have y9 : ((4 : Int32) * half).toInt = 4 * half.toInt := i32mulk 4 (by decide) (by omega) (by omega)
  have y10 : ((4 : Int32) * half + 4).toInt = 4 * half.toInt + 4 := by rw [i32add (by omega) (by omega)]; omega
  intro m
  induction m with
  | zero =>
    intro fuel k mk h1 h2 h3 hlv hdoc
    obtain ⟨f, rfl⟩ : ∃ f, fuel = f + 1 := ⟨fuel - 1, by omega⟩
    have hk : (4 : Int32) * half + 4 ≤ k := i32le.mpr (by omega)
    refine ⟨k, mk, ?_, hlv, fun i hi => hdoc i (by omega)⟩
    rw [m_writeLeaf_l1_s]
    simp only [Option.bind_some, hk, if_true]
  | succ m ih =>
    intro fuel k mk h1 h2 h3 hlv hdoc
    obtain ⟨f, rfl⟩ : ∃ f, fuel = f + 1 := ⟨fuel - 1, by omega⟩
    have hk8 : ¬ (4 : Int32) * half + 4 ≤ k := fun e => by have := i32le.mp e; omega
    have k1 : (k + 1).toInt = k.toInt + 1 := by rw [i32add (by omega) (by omega)]; omega
    have hk0 : ¬ k < 0 := fun e => by have := i32lt.mp e; omega
    have hk7 : ¬ 8 ≤ k := fun e => by have := i32le.mp e; omega
    obtain ⟨g1, g2, g3, g4⟩ := id_half hk0 hk7
    have gh : (k / 4).toInt = half.toInt := by
      have : 0 ≤ (k / 4).toInt ∧ (k / 4).toInt ≤ 1 := by rcases g1 with e | e <;> rw [e] <;> decide
      omega
    generalize hi9 : (k - k / 4 * 4).toInt.toNat = i9 at *
    have hi4 : i9 < 4 := by omega
    have hki : k.toInt = 4 * half.toInt + i9 := by omega
    have hkk : half * 4 + Int32.ofNat i9 = k := by
      apply i32eq
      have e1 : (Int32.ofNat i9).toInt = i9 := ofNat_i (by omega)
      have e2 : (half * 4).toInt = 4 * half.toInt := by rcases hh with e | e <;> rw [e] <;> decide
      rw [i32add (by omega) (by omega)]
      omega
    have n1 : ((4 : Int32) * lf).toInt = 4 * lf.toInt := i32mulk 4 (by decide) (by omega) (by omega)
    have n2 : ((4 : Int32) * lf + (k - k / 4 * 4)).toInt = 4 * lf.toInt + i9 := by rw [i32add (by omega) (by omega)]; omega
    have t2 : ((4 : Int32) * lf + (k - k / 4 * 4)).toNatClampNeg = 4 * lf.toNatClampNeg + i9 := by rw [tnn, tnn, n2]; omega
    have in2 : vp_in ((4 : Int32) * lf + (k - k / 4 * 4)) 48 := vp_of (by omega) (by omega)
    obtain ⟨v1, v2, v3, v4, v5, v6⟩ := hlv
    have hpk : Rp A mk := hp.mono (fun _ _ => rfl) (v3 13 (by decide) (by decide) (by decide))
    -- where the row comes from
    have hsrc : ∃ sr : Int32, (if k = id then (some row) else ((m_rowOf old k mk).bind fun x32 => some x32)) = some sr ∧ ((sr < 0 ∧ nwI A Q old id r k = none) ∨ (¬ sr < 0 ∧ ∃ (a base : Nat) (x : Int32) (Ls : List Nd), nwI A Q old id r k = some a ∧ m_at sr = some x ∧ x.toInt = base ∧ base + Ls.length ≤ 2100 ∧ (base + Ls.length ≤ 96 * lf.toNatClampNeg ∨ 96 * lf.toNatClampNeg + 96 ≤ base) ∧ treeOf Zd K st 5 a = some Ls ∧ rowIs ms base Ls ∧ Ls.length ≤ 24)) := by
      unfold nwI
      by_cases e : k = id
      · rw [if_pos e, if_pos e]
        refine ⟨row, rfl, ?_⟩
        rcases hr with ⟨rfl, rfl⟩ | ⟨a, base, x, Ls, r1, r2, r3, r4, r5, r6, r7, r8, r9⟩
        · exact Or.inl ⟨by decide, rfl⟩
        · exact Or.inr ⟨(fun h9 => by have := i32lt.mp h9; omega), a, base, x, Ls, r1, r3, r4, r6, Or.inr (by omega), r7, r8, r9⟩
      · rw [if_neg e, if_neg e, m_row hpk hold, Option.bind_some]
        refine ⟨_, rfl, ?_⟩
        -- the row of the old root is the same as before
        have hsame : rowS mk old k = rowS ms old k := by
          have e13 : mk.2.2.1 13 = ms.2.2.1 13 := v3 13 (by decide) (by decide) (by decide)
          by_cases o0 : old = -1
          · subst o0
            simp only [rowS, show (-1 : Int32) < 0 from by decide, if_true]
          · obtain ⟨o1, o2, o3⟩ := pgr_in hold o0
            have o5 : old.toNatClampNeg < 12 := by rw [tnn]; omega
            have hk5 : (k / 4).toNatClampNeg < 2 := by rw [tnn]; omega
            have hlf2 : leafS A old (k / 4) ≠ lf := by
              intro e9
              unfold useU at hfree
              by_cases u1 : old = lf
              · rw [if_pos u1] at hfree; exact absurd hfree (by decide)
              · rw [if_neg u1] at hfree
                rcases g1 with e8 | e8
                · rw [e8] at e9
                  rw [if_pos e9] at hfree; exact absurd hfree (by decide)
                · rw [e8] at e9
                  by_cases u2 : leafS A old 0 = lf
                  · rw [if_pos u2] at hfree; exact absurd hfree (by decide)
                  · rw [if_neg u2, if_pos e9] at hfree; exact absurd hfree (by decide)
            have hlv2 : leafS A old (k / 4) = ms.2.2.1 13 (2 * old.toNatClampNeg + (k / 4).toNatClampNeg) := by
              unfold leafS
              rw [if_neg o0]; exact (hp _ o5 _ hk5).1
            have hlr := (hp _ o5 _ hk5).2
            rw [(hp _ o5 _ hk5).1] at hlr
            rw [hlv2] at hlf2
            simp only [rowS, e13]
            generalize hx : ms.2.2.1 13 (2 * old.toNatClampNeg + (k / 4).toNatClampNeg) = x at *
            by_cases x0 : x < 0
            · simp only [x0, if_true]
            · have x1 : 0 ≤ x.toInt := by
                have : ¬ x.toInt < (0 : Int32).toInt := fun e => x0 (i32lt.mpr e)
                omega
              have x2 : x.toNatClampNeg ≠ lf.toNatClampNeg := by
                intro e8
                apply hlf2
                apply i32eq
                rw [tnn, tnn] at e8
                omega
              rw [v5 _ (by
                have : (k - k / 4 * 4).toNatClampNeg < 4 := by rw [tnn]; omega
                omega)]
        rw [hsame]
        rcases doc_row hp hd hold k with ⟨e1, e2⟩ | ⟨a, n, e1, e2, e3, e4⟩
        · exact Or.inl ⟨by rw [e2]; decide, e1⟩
        · right
          obtain ⟨-, Ls, t1, t3, t4⟩ := e4
          obtain ⟨x, x1, x2⟩ := at_row (r := rowS ms old k) (by omega) (by omega)
          refine ⟨(fun h9 => by have := i32lt.mp h9; omega), a, 24 * n, x, Ls, e1, x1, by omega, by omega, ?_, t1, t3, t4⟩
          -- another page than the leaf
          have hpage : n < 4 * lf.toNatClampNeg ∨ 4 * lf.toNatClampNeg + 4 ≤ n := by
            by_cases o0 : old = -1
            · exfalso
              subst o0
              have : rowS ms (-1) k = -1 := by simp only [rowS, show (-1 : Int32) < 0 from by decide, if_true]
              rw [this] at e3
              omega
            · obtain ⟨o1, o2, o3⟩ := pgr_in hold o0
              have o5 : old.toNatClampNeg < 12 := by rw [tnn]; omega
              have hk5 : (k / 4).toNatClampNeg < 2 := by rw [tnn]; omega
              have hlv2 : leafS A old (k / 4) = ms.2.2.1 13 (2 * old.toNatClampNeg + (k / 4).toNatClampNeg) := by
                unfold leafS
                rw [if_neg o0]; exact (hp _ o5 _ hk5).1
              have hlr := (hp _ o5 _ hk5).2
              rw [(hp _ o5 _ hk5).1] at hlr
              have hne : leafS A old (k / 4) ≠ lf := by
                intro e9
                unfold useU at hfree
                by_cases u1 : old = lf
                · rw [if_pos u1] at hfree; exact absurd hfree (by decide)
                · rw [if_neg u1] at hfree
                  rcases g1 with e8 | e8
                  · rw [e8] at e9
                    rw [if_pos e9] at hfree; exact absurd hfree (by decide)
                  · rw [e8] at e9
                    by_cases u2 : leafS A old 0 = lf
                    · rw [if_pos u2] at hfree; exact absurd hfree (by decide)
                    · rw [if_neg u2, if_pos e9] at hfree; exact absurd hfree (by decide)
              rw [hlv2] at hne
              have hor0 : ¬ old < 0 := fun e => by have := i32lt.mp e; omega
              simp only [rowS, hor0, hk0, hk7, if_false] at e3
              generalize hx9 : ms.2.2.1 13 (2 * old.toNatClampNeg + (k / 4).toNatClampNeg) = x9 at *
              by_cases x0 : x9 < 0
              · rw [if_pos x0] at e3; omega
              · rw [if_neg x0] at e3
                have x1 : 0 ≤ x9.toInt := by
                  have : ¬ x9.toInt < (0 : Int32).toInt := fun e => x0 (i32lt.mpr e)
                  omega
                have x2 := hlr.2
                split at e3
                · omega
                · have m1 : ((4 : Int32) * x9).toInt = 4 * x9.toInt := i32mulk 4 (by decide) (by omega) (by omega)
                  rw [i32add (by omega) (by omega), m1] at e3
                  have x3 : x9.toInt ≠ lf.toInt := fun e8 => hne (i32eq e8)
                  rw [tnn]
                  omega
          omega
    obtain ⟨sr, hsr, hcase⟩ := hsrc
    have vb0 : vp_nar .boolean 0 = 0 := by decide
    have vb1 : vp_nar .boolean 1 = 1 := by decide
    rcases hcase with ⟨c1, c2⟩ | ⟨c1, a, base, x, Ls, c2, c3, c4, c5, c6, c7, c8, c9⟩
    · have hlv2 : lv9 ms (mk.1, mk.2.1, va_up mk.2.2.1 14 (upd (mk.2.2.1 14) (4 * lf.toNatClampNeg + i9) 0), mk.2.2.2) lf.toNatClampNeg := by
        refine ⟨v1, v2, fun j j1 j2 j3 => ?_, v4, fun j hj => ?_, fun c L9 hc hrow => ?_⟩
        · show va_up _ _ _ j = _
          rw [va_up_ne _ _ j3]; exact v3 j j1 j2 j3
        · show upd _ _ _ j = _
          rw [upd_ne (by omega)]; exact v5 j hj
        · exact (v6 c L9 hc hrow).same ⟨rfl, rfl, rfl, rfl, rfl, rfl⟩
      obtain ⟨k9, m1, i1, i2, i3⟩ := ih f (k + 1) _ (by omega) (by omega) (by omega) hlv2 (fun i hi => by
        by_cases e : i = i9
        · subst e
          rw [hkk, c2]
          show upd _ _ _ _ = 0
          rw [upd_self]
        · have h9 := hdoc i (by omega)
          have e14 : (va_up mk.2.2.1 14 (upd (mk.2.2.1 14) (4 * lf.toNatClampNeg + i9) 0)) 14 (4 * lf.toNatClampNeg + i) = mk.2.2.1 14 (4 * lf.toNatClampNeg + i) := by
            rw [va_up_self, upd_ne (by omega)]
          show docIs Zd K st _ _ _ ((va_up mk.2.2.1 14 (upd (mk.2.2.1 14) (4 * lf.toNatClampNeg + i9) 0)) 14 (4 * lf.toNatClampNeg + i))
          rw [e14]
          exact h9.same ⟨rfl, rfl, rfl, rfl, rfl, rfl⟩)
      refine ⟨k9, m1, ?_, i2, i3⟩
      rw [m_writeLeaf_l1_s]
      simp only [Option.bind_some, hk8, if_false, hsr, c1, if_true, ix_in in2, t2, vb0]
      exact i1
    · have hok := tree_ok 5 a Ls c7
      obtain ⟨y, y1, y2⟩ := at_row (r := (4 : Int32) * lf + (k - k / 4 * 4)) (by omega) (by omega)
      have hrowk : rowIs (mk.1, mk.2.1, va_up mk.2.2.1 14 (upd (mk.2.2.1 14) (4 * lf.toNatClampNeg + i9) 1), mk.2.2.2) base Ls := (v6 base Ls c6 c8).same ⟨rfl, rfl, rfl, rfl, rfl, rfl⟩
      have hlft : lf.toNatClampNeg = lf.toInt.toNat := rfl
      obtain ⟨m2, q1, q2⟩ := copyRow_ok (d := (4 : Int32) * lf + (k - k / 4 * 4)) (b := 24 * (4 * lf.toNatClampNeg + i9)) hrowk hok c9 c3 c4 y1 (by omega) c5 (by omega) (by omega)
      have hlv2 : lv9 ms m2 lf.toNatClampNeg := by
        obtain ⟨d1, d2, d3, d4, d5, d6⟩ := q2
        refine ⟨d1.trans v1, d2.trans v2, fun j j1 j2 j3 => ?_, fun j hj => (d4 j hj).trans (v4 j hj), fun j hj => ?_, fun c L9 hc hrow => ?_⟩
        · rw [d3 j j1 j2]
          show va_up _ _ _ j = _
          rw [va_up_ne _ _ j3]; exact v3 j j1 j2 j3
        · rw [d3 14 (by decide) (by decide)]
          show upd _ _ _ j = _
          rw [upd_ne (by omega)]; exact v5 j hj
        · have h9 : rowIs (mk.1, mk.2.1, va_up mk.2.2.1 14 (upd (mk.2.2.1 14) (4 * lf.toNatClampNeg + i9) 1), mk.2.2.2) c L9 := (v6 c L9 hc hrow).same ⟨rfl, rfl, rfl, rfl, rfl, rfl⟩
          exact h9.cp_ne ⟨d1, d2, d3, d4, d5, d6⟩ (by omega)
      obtain ⟨k9, m1, i1, i2, i3⟩ := ih f (k + 1) m2 (by omega) (by omega) (by omega) hlv2 (fun i hi => by
        have e14 : m2.2.2.1 14 = upd (mk.2.2.1 14) (4 * lf.toNatClampNeg + i9) 1 := q2.2.2.1 14 (by decide) (by decide)
        by_cases e : i = i9
        · subst e
          rw [hkk, c2, e14, upd_self]
          exact ⟨rfl, Ls, c7, hrowk.cp q2, c9⟩
        · have h9 := hdoc i (by omega)
          rw [e14, upd_ne (by omega)]
          cases hn : nwI A Q old id r (half * 4 + Int32.ofNat i) with
          | none => rw [hn] at h9; exact h9
          | some b =>
            rw [hn] at h9
            obtain ⟨w1, Lb, w2, w3, w4⟩ := h9
            refine ⟨w1, Lb, w2, ?_, w4⟩
            have h8 : rowIs (mk.1, mk.2.1, va_up mk.2.2.1 14 (upd (mk.2.2.1 14) (4 * lf.toNatClampNeg + i9) 1), mk.2.2.2) (24 * (4 * lf.toNatClampNeg + i)) Lb := w3.same ⟨rfl, rfl, rfl, rfl, rfl, rfl⟩
            exact h8.cp_ne q2 (by omega))
      refine ⟨k9, m1, ?_, i2, i3⟩
      rw [m_writeLeaf_l1_s]
      simp only [Option.bind_some, hk8, if_false, hsr, c1, ix_in in2, t2, vb1, q1]
      exact i1
end LEAF
