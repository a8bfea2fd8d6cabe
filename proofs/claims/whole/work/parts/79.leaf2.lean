/-! A leaf: class and model. -/
theorem isRoot.back {ms ms1 : MS} {r : Int32} (h : isRoot ms1 r) (h15 : ms1.2.2.1 15 = ms.2.2.1 15) (h18 : ms1.2.2.1 18 = ms.2.2.1 18) (h17 : ∀ k, ms1.2.2.1 17 k ≠ 0 → ms.2.2.1 17 k ≠ 0) : isRoot ms r := by
  rcases h with ⟨k, k1, k2⟩ | ⟨k, k1, k2, k3⟩
  · exact Or.inl ⟨k, k1, by rw [k2, h15]⟩
  · exact Or.inr ⟨k, k1, h17 k k2, by rw [k3, h18]⟩
theorem leafS_same {A A1 : Nat → Nat → Int32} (h : ∀ j, A1 (10 + j) = A (10 + j)) (r x : Int32) : leafS A1 r x = leafS A r x := by
  unfold leafS
  rw [h]
theorem useU_same {A A1 : Nat → Nat → Int32} (h : ∀ j, A1 (10 + j) = A (10 + j)) (r p : Int32) : useU A1 r p = useU A r p := by
  unfold useU
  rw [leafS_same h, leafS_same h]
section LEAF2
variable {Zd : Nat → Nat} {K : KE} {st : CS} {ms : MS} {q : Nat → Nat} {cw : Nat} {I : Nat → Int32} {A : Nat → Nat → Int32} {R : Nat → Option Nat} {Q : Nat → Nat → Option Nat}
/-- what a leaf's writing keeps -/
def keepsW (ms ms1 : MS) (A A1 : Nat → Nat → Int32) : Prop := (∀ r, isRoot ms1 r → isRoot ms r) ∧ (∀ j, A1 (10 + j) = A (10 + j)) ∧ A1 2 = A 2 ∧ A1 3 = A 3 ∧ ms1.2.2.1 13 = ms.2.2.1 13 ∧ ms1.2.2.1 15 = ms.2.2.1 15 ∧ ms1.2.2.1 16 = ms.2.2.1 16 ∧ ∀ (c : Nat) (L : List Nd), 1152 ≤ c → rowIs ms c L → rowIs ms1 c L
theorem leaf_lock (h : Rm Zd K st ms q cw I A R Q) (hdn : I 11 = 0) (hk1 : wk K) {leaf cur half id row : Int32} {r : Option Nat} (p0 : 0 ≤ leaf.toInt) (p1 : leaf.toInt < 12) (hfree : ∀ x, isRoot ms x → useU A x leaf = 0) (hcur : pgr cur) (hroot : isRoot ms cur) (hh : half = 0 ∨ half = 1)
    (hr9 : (r = none ∧ row = -1) ∨ ∃ (a base : Nat) (x : Int32) (L : List Nd), r = some a ∧ 0 ≤ row.toInt ∧ m_at row = some x ∧ x.toInt = base ∧ 1920 ≤ base ∧ base + L.length ≤ 2100 ∧ treeOf Zd K st 5 a = some L ∧ rowIs ms base L ∧ L.length ≤ 24)
    (hQ5 : ∀ n : Nat, n < 4 → Q 5 n = nwI A Q cur id r (half * 4 + Int32.ofNat n)) (hany : ∃ n : Nat, n < 4 ∧ nwI A Q cur id r (half * 4 + Int32.ofNat n) ≠ none) :
    ∃ st1 m0 ms1 I1 A1 Q1 x, c_Store_writeLeaf Zd K (q 6) leaf st = some st1 ∧ m_writeLeaf leaf cur half id row ms = some m0 ∧ m_block m0 = some (x, ms1) ∧ st1.1 = st.1 ∧ le K st st1 ∧ Rm Zd K st1 ms1 q cw I1 A1 R Q1 ∧ ((x = 1 ∧ I1 11 = 0) ∨ (x = 0 ∧ I1 11 = 1)) ∧ keepsW ms ms1 A A1 ∧ (ms1.2.2.1 12 leaf.toNatClampNeg = 2 ∧ ∃ i, i < 4 ∧ ms1.2.2.1 14 (4 * leaf.toNatClampNeg + i) ≠ 0) ∧ ∀ p : Nat, p ≠ leaf.toNatClampNeg → ms1.2.2.1 12 p = ms.2.2.1 12 p ∧ ∀ i, i < 4 → ms1.2.2.1 14 (4 * p + i) = ms.2.2.1 14 (4 * p + i) := by
  have L := nums
  obtain ⟨hF, hw, ⟨t1, t2, t3, t4, t5⟩, hS, hP, hk, hd, hr, ho, hb, hz⟩ := h
  have hfn := free_ne hS hP p0 hfree
  have hl12 : leaf.toNatClampNeg < 12 := by rw [tnn]; omega
  have hhi : 0 ≤ half.toInt ∧ half.toInt ≤ 1 := by rcases hh with e | e <;> rw [e] <;> decide
  have hob : ∀ n : Nat, n < 4 → ∀ b, Q 5 n = some b → ∃ fs, ob1 st b 11 fs := by
    intro n hn b hb9
    rw [hQ5 n hn] at hb9
    unfold nwI at hb9
    by_cases e : half * 4 + Int32.ofNat n = id
    · rw [if_pos e] at hb9
      rcases hr9 with ⟨e1, -⟩ | ⟨a, base, x, L9, e1, -, -, -, -, -, e2, -⟩
      · rw [e1] at hb9; cases hb9
      · rw [e1] at hb9; cases hb9
        exact tree_ob hk1 e2
    · rw [if_neg e] at hb9
      exact doc_ob hk1 hP hd hcur hb9
  -- the class
  have hFs : Fx st q cw I A R (va_up Q (10 + leaf.toNatClampNeg) (Q (10 + leaf.toNatClampNeg))) := by
    have e : va_up Q (10 + leaf.toNatClampNeg) (Q (10 + leaf.toNatClampNeg)) = Q := by
      funext j
      by_cases e : j = 10 + leaf.toNatClampNeg
      · subst e; rw [va_up_self]
      · rw [va_up_ne _ _ e]
    rw [e]; exact hF
  obtain ⟨a2, g1, ca, hF2, l2, z2, w2, f2, hg⟩ := cleaf_lock (A := A) (I := I) (cw := cw) (R := R) hk1 p0 p1 hob 4 4096 0 st _ (by decide) (by decide) (by decide) hFs (le.rf K st) hz hw rfl (fun n hn => absurd hn (by have e : (0 : Int32).toNatClampNeg = 0 := (rfl); omega))
  -- the model
  have hroot0 := hfree cur hroot
  obtain ⟨k9, m0, cm, ⟨v1, v2, v3, v4, v5, v6⟩, hdoc⟩ := mleaf_lock (lf := leaf) (old := cur) (half := half) (id := id) (row := row) (r := r) (ms := (ms.1, ms.2.1, va_up ms.2.2.1 12 (upd (ms.2.2.1 12) leaf.toNatClampNeg 2), ms.2.2.2)) (A := A) (Q := Q) (Zd := Zd) (K := K) (st := st) p0 p1 (hP.mono (fun _ _ => rfl) rfl) (hd.mono (le.rf K st) ⟨rfl, rfl, rfl, rfl, rfl, rfl⟩ rfl) hcur hh hroot0 (hr9.imp (fun h9 => h9) (fun ⟨a, base, x, L9, e1, e2, e3, e4, e5, e6, e7, e8, e9⟩ => ⟨a, base, x, L9, e1, e2, e3, e4, e5, e6, e7, e8.same ⟨rfl, rfl, rfl, rfl, rfl, rfl⟩, e9⟩)) 4 4096 (4 * half) _ (by rw [i32mulk 4 (by decide) (by omega) (by omega)]; omega) (by rw [i32mulk 4 (by decide) (by omega) (by omega)]; omega) (by decide) ⟨rfl, rfl, fun _ _ _ _ => rfl, fun _ _ => rfl, fun _ _ => rfl, fun _ _ _ h9 => h9⟩ (fun i hi => absurd hi (by rw [i32mulk 4 (by decide) (by omega) (by omega)]; omega))
  have e12 : m0.2.2.1 12 = upd (ms.2.2.1 12) leaf.toNatClampNeg 2 := v3 12 (by decide) (by decide) (by decide)
  have ek : ∀ k, k ≠ 1 → k ≠ 2 → k ≠ 14 → k ≠ 12 → m0.2.2.1 k = ms.2.2.1 k := fun k h1 h2 h3 h4 => (v3 k h1 h2 h3).trans (va_up_ne _ _ h4)
  have e14 : ∀ p : Nat, p ≠ leaf.toNatClampNeg → ∀ i, i < 4 → m0.2.2.1 14 (4 * p + i) = ms.2.2.1 14 (4 * p + i) := fun p hp9 i hi => v5 _ (by omega)
  have hrows : ∀ (c : Nat) (L9 : List Nd), c + L9.length ≤ 96 * leaf.toNatClampNeg ∨ 96 * leaf.toNatClampNeg + 96 ≤ c → rowIs ms c L9 → rowIs m0 c L9 := fun c L9 hc h9 => v6 c L9 hc (h9.same ⟨rfl, rfl, rfl, rfl, rfl, rfl⟩)
  have hS0 := hS
  obtain ⟨⟨s1, s2, s3⟩, ⟨s4, s5, s6⟩, ⟨s7, s8, s9, s10⟩, s11, s12, s13⟩ := hS
  have hRm : Rm Zd K a2 m0 q cw I A R (va_up Q (10 + leaf.toNatClampNeg) g1) := by
    refine ⟨hF2, w2, ⟨by rw [ek 0 (by decide) (by decide) (by decide) (by decide)]; exact t1, t2, t3, by rw [v1]; exact t4, by rw [v1]; exact t5⟩, ?_, hP.mono (fun _ _ => rfl) (ek 13 (by decide) (by decide) (by decide) (by decide)), ?_, ?_, ?_, ?_, hb, z2⟩
    · refine ⟨⟨by rw [v1]; exact s1, by rw [v1]; exact s2, by rw [v1]; exact s3⟩, ⟨s4, s5, s6⟩, ⟨by rw [ek 16 (by decide) (by decide) (by decide) (by decide)]; exact s7, by rw [ek 15 (by decide) (by decide) (by decide) (by decide)]; exact s8, by rw [ek 17 (by decide) (by decide) (by decide) (by decide)]; exact s9, by rw [ek 18 (by decide) (by decide) (by decide) (by decide)]; exact s10⟩, s11, s12, s13⟩
    · intro x hx hx0
      have hx : isRoot ms x := hx.back (ek 15 (by decide) (by decide) (by decide) (by decide)) (ek 18 (by decide) (by decide) (by decide) (by decide)) (fun k h9 => by rw [← ek 17 (by decide) (by decide) (by decide) (by decide)]; exact h9)
      obtain ⟨q1, q2⟩ := hfn x hx hx0
      obtain ⟨b1, b2⟩ := hk x hx hx0
      rw [e12, ek 13 (by decide) (by decide) (by decide) (by decide)]
      refine ⟨by rw [upd_ne q1]; exact b1, fun h9 hh9 h0 => ?_⟩
      obtain ⟨b3, i, i1, i2⟩ := b2 h9 hh9 h0
      exact ⟨by rw [upd_ne (q2 h9 hh9 h0)]; exact b3, i, i1, by rw [e14 _ (q2 h9 hh9 h0) i i1]; exact i2⟩
    · intro j hj i hi
      by_cases e : j = leaf.toNatClampNeg
      · subst e
        rw [va_up_self, hg i hi, hQ5 i hi]
        exact (hdoc i hi).le l2
      · rw [va_up_ne _ _ (by omega), e14 j e i hi]
        have h9 := hd j hj i hi
        cases hq9 : Q (10 + j) i with
        | none => rw [hq9] at h9; exact h9
        | some b =>
          rw [hq9] at h9
          obtain ⟨w3, L9, w4, w5, w6⟩ := h9
          exact ⟨w3, L9, l2.tree 5 b L9 w4, hrows _ _ (by omega) w5, w6⟩
    · obtain ⟨a1, a3, a4, a5⟩ := hr
      refine ⟨by rw [v1]; exact a1, a3, a4, fun i hi => ?_⟩
      obtain ⟨b1, a, b2, b3, L9, b4, b5, b6⟩ := a5 i hi
      exact ⟨by rw [ek 10 (by decide) (by decide) (by decide) (by decide)]; exact b1, a, by rw [va_up_ne _ _ (show (1 : Nat) ≠ 10 + leaf.toNatClampNeg by omega)]; exact b2, b3, L9, l2.tree 5 a L9 b4, hrows _ _ (by omega) b5, b6⟩
    · obtain ⟨o1, o2, o3, o4, o5, o6, o7⟩ := ho
      exact ⟨by rw [v1]; exact o1, o2, o3, o4, o5, o6, by rw [ek 11 (by decide) (by decide) (by decide) (by decide)]; exact o7⟩
  obtain ⟨st1, ms1, I1, A1, x, b1, b2, b3, b4, b5, ⟨b6, b7, b8, b9, -, -, b11⟩, b10⟩ := block_lock hRm hdn
  have hin12 : vp_in leaf 12 := vp_of p0 (by omega)
  refine ⟨st1, m0, ms1, I1, A1, _, x, ?_, ?_, b2, b3.trans f2, l2.tr b4, b5, b10, ⟨fun y hy => ?_, fun j => b9 _ (by omega), b9 2 (by decide), b9 3 (by decide), ?_, ?_, ?_, fun c L9 hc h9 => ?_⟩, ?_, fun p hp9 => ?_⟩
  · simp only [c_Store_writeLeaf, ca, Option.bind_some, fo_6 hF2, b1]
  · simp only [m_writeLeaf, ix_in hin12, Option.bind_some, cm]
  · refine hy.back ?_ ?_ (fun k h9 => ?_)
    · rw [b8 15 (by decide)]; exact ek 15 (by decide) (by decide) (by decide) (by decide)
    · rw [b8 18 (by decide)]; exact ek 18 (by decide) (by decide) (by decide) (by decide)
    · rw [← ek 17 (by decide) (by decide) (by decide) (by decide)]; exact b11 k h9
  · rw [b8 13 (by decide)]; exact ek 13 (by decide) (by decide) (by decide) (by decide)
  · rw [b8 15 (by decide)]; exact ek 15 (by decide) (by decide) (by decide) (by decide)
  · rw [b8 16 (by decide)]; exact ek 16 (by decide) (by decide) (by decide) (by decide)
  · exact (hrows c L9 (Or.inr (by omega)) h9).same ⟨b8 1 (by decide), b8 2 (by decide), by rw [b7], by rw [b7], by rw [b7], by rw [b7]⟩
  · rw [b8 12 (by decide), b8 14 (by decide), e12]
    refine ⟨upd_self, ?_⟩
    obtain ⟨n, n1, n2⟩ := hany
    refine ⟨n, n1, ?_⟩
    have h9 := hdoc n n1
    cases hq9 : nwI A Q cur id r (half * 4 + Int32.ofNat n) with
    | none => exact absurd hq9 n2
    | some b =>
      rw [hq9] at h9
      rw [h9.1]; decide
  · rw [b8 12 (by decide), b8 14 (by decide), e12]
    exact ⟨upd_ne hp9, e14 p hp9⟩
end LEAF2
