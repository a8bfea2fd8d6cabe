/-! Meta, root, leaf: written alike. -/
def rootOk (ms : MS) (r : Int32) : Prop := 0 ≤ r.toInt → ms.2.2.1 12 r.toNatClampNeg = 1 ∧ ∀ h, h < 2 → 0 ≤ (ms.2.2.1 13 (2 * r.toNatClampNeg + h)).toInt → ms.2.2.1 12 (ms.2.2.1 13 (2 * r.toNatClampNeg + h)).toNatClampNeg = 2 ∧ ∃ i, i < 4 ∧ ms.2.2.1 14 (4 * (ms.2.2.1 13 (2 * r.toNatClampNeg + h)).toNatClampNeg + i) ≠ 0
section WRITE
variable {Zd : Nat → Nat} {K : KE} {st : CS} {ms : MS} {q : Nat → Nat} {cw : Nat} {I : Nat → Int32} {A : Nat → Nat → Int32} {R : Nat → Option Nat} {Q : Nat → Nat → Option Nat}
/-- the model's state behind the writing of a meta -/
def mMeta (ms : MS) (root : Int32) : MS := (ms.1, ms.2.1, va_up (va_up ms.2.2.1 16 (upd (ms.2.2.1 16) (1 - curM (ms.2.2.1 16)).toNatClampNeg (ms.2.2.1 16 (1 - (1 - curM (ms.2.2.1 16))).toNatClampNeg + 1))) 15 (upd (ms.2.2.1 15) (1 - curM (ms.2.2.1 16)).toNatClampNeg root), ms.2.2.2)
theorem meta_lock (h : Rm Zd K st ms q cw I A R Q) (hdn : I 11 = 0) {root : Int32} (hroot : pgr root) (hok : rootOk ms root) : ∃ st1 ms1 I1 A1 x, c_Store_writeMeta Zd K (q 6) root st = some st1 ∧ m_block (mMeta ms root) = some (x, ms1) ∧ st1.1 = st.1 ∧ le K st st1 ∧ Rm Zd K st1 ms1 q cw I1 A1 R Q ∧ ((x = 1 ∧ I1 11 = 0) ∨ (x = 0 ∧ I1 11 = 1)) ∧ ms1.2.2.2 = ms.2.2.2 ∧ ms1.2.2.1 1 = ms.2.2.1 1 ∧ ms1.2.2.1 2 = ms.2.2.1 2 := by
  obtain ⟨hF, hw, ⟨t1, t2, t3, t4, t5⟩, ⟨⟨s1, s2, s3⟩, ⟨s4, s5, s6⟩, ⟨s7, s8, s9, s10⟩, s11, s12, s13⟩, hP, hk, hd, hr, ho, hb, hz⟩ := h
  have hc := curM_or (A 2)
  have hin1 : vp_in (1 - curM (A 2)) 2 := by rcases hc with e | e <;> rw [e] <;> unfold vp_in <;> decide
  have hto : (1 - curM (A 2)).toNatClampNeg < 2 := by rcases hc with e | e <;> rw [e] <;> decide
  obtain ⟨a1, e1, f1, hF1⟩ := fa_18 hF hin1 root
  have l1 : le K st a1 := by rw [f1]; exact nb_le hz (hF.fl (i := 18) rfl).1 (hF.fl (i := 18) rfl).2 rfl
  have z1 : Rz K a1 q := by rw [f1]; exact nb_Rz hz (hF.fl (i := 18) rfl).1 (hF.fl (i := 18) rfl).2 rfl rfl
  have w1 : wf K a1 := by rw [f1]; exact hw
  obtain ⟨a2, e2, f2, hF2⟩ := fa_17 hF1 hin1 (A 2 (curM (A 2)).toNatClampNeg + 1)
  have l2 : le K a1 a2 := by rw [f2]; exact nb_le z1 (hF1.fl (i := 17) rfl).1 (hF1.fl (i := 17) rfl).2 rfl
  have z2 : Rz K a2 q := by rw [f2]; exact nb_Rz z1 (hF1.fl (i := 17) rfl).1 (hF1.fl (i := 17) rfl).2 rfl rfl
  have w2 : wf K a2 := by rw [f2]; exact w1
  have hcc : (1 - (1 - curM (A 2))) = curM (A 2) := by rcases hc with e | e <;> rw [e] <;> decide
  have hRm : Rm Zd K a2 (mMeta ms root) q cw I (va_up (va_up A 3 (upd (A 3) (1 - curM (A 2)).toNatClampNeg root)) 2 (upd (A 2) (1 - curM (A 2)).toNatClampNeg (A 2 (curM (A 2)).toNatClampNeg + 1))) R Q := by
    refine ⟨hF2, w2, ⟨t1, t2, t3, t4, t5⟩, ⟨⟨s1, s2, s3⟩, ⟨s4, s5, s6⟩, ⟨?_, ?_, s9, s10⟩, s11, ?_, s13⟩, hP.mono (fun j hj => (va_up_ne _ _ (by omega)).trans (va_up_ne _ _ (by omega))) rfl, ?_, hd.mono (l1.tr l2) ⟨rfl, rfl, rfl, rfl, rfl, rfl⟩ rfl, hr.mono (l1.tr l2) ⟨rfl, rfl, rfl, rfl, rfl, rfl⟩ rfl rfl rfl rfl, ho, hb, z2⟩
    · show upd (A 2) _ _ = upd _ _ _
      rw [s7] at hcc
      rw [hcc, s7]
    · show upd (A 3) _ _ = upd _ _ _
      rw [s8, s7]
    · intro k hk9
      show pgr (upd (A 3) _ _ k)
      unfold upd
      by_cases e : k = (1 - curM (A 2)).toNatClampNeg
      · rw [if_pos e]; exact hroot
      · rw [if_neg e]; exact s12 k hk9
    · intro x hx hx0
      rcases hx with ⟨k, k1, k2⟩ | ⟨k, k1, k2, k3⟩
      · have k2 : x = upd (ms.2.2.1 15) (1 - curM (ms.2.2.1 16)).toNatClampNeg root k := k2
        unfold upd at k2
        by_cases e : k = (1 - curM (ms.2.2.1 16)).toNatClampNeg
        · rw [if_pos e] at k2
          subst k2
          exact hok hx0
        · rw [if_neg e] at k2
          exact hk x (Or.inl ⟨k, k1, k2⟩) hx0
      · exact hk x (Or.inr ⟨k, k1, k2, k3⟩) hx0
  obtain ⟨st1, ms1, I1, A1, x, b1, b2, b3, b4, b5, ⟨b6, b7, b8, b9, -, -, b11⟩, b10⟩ := block_lock hRm hdn
  refine ⟨st1, ms1, I1, A1, x, ?_, b2, by rw [b3, f2, f1]; rfl, l1.tr (l2.tr b4), b5, b10, b7, b8 1 (by decide), b8 2 (by decide)⟩
  have r17 : rA K a1 (q 17) 1 (curM (A 2)) = some (A 2 (curM (A 2)).toNatClampNeg) := by rw [fr_17 hF1 (curM_in _)]; rfl
  simp only [c_Store_writeMeta, fo_6 hF, c_cm hF, fg_6_2 hF, Option.bind_some, e1, fg_6_1 hF1, r17, e2, fo_6 hF2, b1]
/-- the model's state behind the writing of a root -/
def mRoot (ms : MS) (root half leaf other : Int32) : MS := (ms.1, ms.2.1, va_up (va_up ms.2.2.1 12 (upd (ms.2.2.1 12) root.toNatClampNeg 1)) 13 (upd (upd (ms.2.2.1 13) (2 * root + half).toNatClampNeg leaf) (2 * root + 1 - half).toNatClampNeg other), ms.2.2.2)
theorem rt_idx {root half : Int32} (r0 : 0 ≤ root.toInt) (r1 : root.toInt < 12) (hh : half = 0 ∨ half = 1) : ((2 : Int32) * root + half).toNatClampNeg = 2 * root.toNatClampNeg + half.toNatClampNeg ∧ ((2 : Int32) * root + 1 - half).toNatClampNeg = 2 * root.toNatClampNeg + (1 - half).toNatClampNeg ∧ vp_in ((2 : Int32) * root + half) 24 ∧ vp_in ((2 : Int32) * root + 1 - half) 24 := by
  have L := nums
  have hh1 : 0 ≤ half.toInt ∧ half.toInt ≤ 1 := by rcases hh with e | e <;> rw [e] <;> decide
  have m1 : ((2 : Int32) * root).toInt = 2 * root.toInt := i32mulk 2 (by decide) (by omega) (by omega)
  have m2 : ((2 : Int32) * root + half).toInt = 2 * root.toInt + half.toInt := by rw [i32add (by omega) (by omega), m1]
  have m3 : ((2 : Int32) * root + 1).toInt = 2 * root.toInt + 1 := by rw [i32add (by omega) (by omega)]; omega
  have m4 : ((2 : Int32) * root + 1 - half).toInt = 2 * root.toInt + 1 - half.toInt := by rw [i32sub (by omega) (by omega), m3]
  have h1h : (1 - half).toInt = 1 - half.toInt := by rw [i32sub (by omega) (by omega)]; omega
  exact ⟨by rw [tnn, tnn, tnn, m2]; omega, by rw [tnn, tnn, tnn, m4, h1h]; omega, vp_of (by omega) (by omega), vp_of (by omega) (by omega)⟩
theorem hf_ne {half : Int32} (hh : half = 0 ∨ half = 1) : half.toNatClampNeg < 2 ∧ (1 - half).toNatClampNeg < 2 ∧ half.toNatClampNeg ≠ (1 - half).toNatClampNeg ∧ vp_in half 2 ∧ vp_in (1 - half) 2 := by
  rcases hh with e | e <;> rw [e] <;> unfold vp_in <;> decide
theorem tn_inj {a b : Int32} (h0 : 0 ≤ a.toInt) (h1 : 0 ≤ b.toInt) (h : a.toNatClampNeg = b.toNatClampNeg) : a = b := by
  apply i32eq
  have e : a.toInt.toNat = b.toInt.toNat := h
  omega
/-- a free page is neither a root nor a leaf that is reached -/
theorem free_ne (hS : Rs I A ms) (hP : Rp A ms) {p : Int32} (p0 : 0 ≤ p.toInt) (hfree : ∀ r, isRoot ms r → useU A r p = 0) : ∀ r : Int32, isRoot ms r → 0 ≤ r.toInt → r.toNatClampNeg ≠ p.toNatClampNeg ∧ ∀ h, h < 2 → 0 ≤ (ms.2.2.1 13 (2 * r.toNatClampNeg + h)).toInt → (ms.2.2.1 13 (2 * r.toNatClampNeg + h)).toNatClampNeg ≠ p.toNatClampNeg := by
  have L := nums
  obtain ⟨-, -, ⟨s7, s8, s9, s10⟩, s11, s12, s13⟩ := hS
  intro r hroot9 hr0
  have hu := hfree r hroot9
  have hpr : pgr r := by
    rcases hroot9 with ⟨k, k1, k2⟩ | ⟨k, k1, k2, k3⟩
    · rw [k2, ← s8]; exact s12 k k1
    · rw [k3, ← s10]; exact s13 k k1
  have hne : ¬ r = -1 := fun e => by rw [e] at hr0; omega
  have hr5 : r.toNatClampNeg < 12 := by have := hpr.2; rw [tnn]; omega
  unfold useU at hu
  by_cases e1 : r = p
  · rw [if_pos e1] at hu; exact absurd hu (by decide)
  · rw [if_neg e1] at hu
    refine ⟨fun e => e1 (tn_inj hr0 p0 e), fun h hh9 h0 e => ?_⟩
    have hroot8 := tn_inj h0 p0 e
    rcases (show h = 0 ∨ h = 1 by omega) with rfl | rfl
    · have h8 : leafS A r 0 = p := by
        unfold leafS
        rw [if_neg hne]
        exact (hP _ hr5 0 (by decide)).1.trans hroot8
      rw [if_pos h8] at hu
      exact absurd hu (by decide)
    · have h8 : leafS A r 1 = p := by
        unfold leafS
        rw [if_neg hne]
        exact (hP _ hr5 1 (by decide)).1.trans hroot8
      by_cases e2 : leafS A r 0 = p
      · rw [if_pos e2] at hu; exact absurd hu (by decide)
      · rw [if_neg e2, if_pos h8] at hu
        exact absurd hu (by decide)
theorem two_at {f : Nat → Int32} {b h1 h2 h : Nat} {x y : Int32} (n1 : h1 < 2) (n2 : h2 < 2) (n3 : h1 ≠ h2) (hh : h < 2) : upd (upd f (b + h1) x) (b + h2) y (b + h) = (if h = h2 then y else x) := by
  by_cases e : h = h2
  · rw [if_pos e, e, upd_self]
  · rw [if_neg e, upd_ne (by omega), show h = h1 by omega, upd_self]
theorem two_ne {f : Nat → Int32} {a b c : Nat} {x y : Int32} (n1 : c ≠ a) (n2 : c ≠ b) : upd (upd f a x) b y c = f c := by
  rw [upd_ne n2, upd_ne n1]
theorem croot (hF : Fx st q cw I A R Q) (hz : Rz K st q) (hw : wf K st) {root half leaf other : Int32} (r0 : 0 ≤ root.toInt) (r1 : root.toInt < 12) (hh : half = 0 ∨ half = 1) : ∃ a2, (∀ s3, c_Store_countBlock Zd K (q 6) a2 = some s3 → c_Store_writeRoot Zd K (q 6) root half leaf other st = some s3) ∧ a2.1 = st.1 ∧ le K st a2 ∧ Rz K a2 q ∧ wf K a2 ∧ Fx a2 q cw I (va_up A (10 + root.toNatClampNeg) (upd (upd (A (10 + root.toNatClampNeg)) half.toNatClampNeg leaf) (1 - half).toNatClampNeg other)) R Q := by
  have hr12 : root.toNatClampNeg < 12 := by rw [tnn]; omega
  obtain ⟨-, -, -, in1, in2⟩ := hf_ne hh
  obtain ⟨p1, p2, p3, p4⟩ := hF.2.1 _ hr12
  have e1 := wA_ar (v := leaf) p4 in1
  have hF1 := hF.putLeaves hr12 (upd (A (10 + root.toNatClampNeg)) half.toNatClampNeg leaf)
  have l1 := nb_le (e := .inl (1, 2, upd (A (10 + root.toNatClampNeg)) half.toNatClampNeg leaf)) hz p4.1 p4.2 rfl
  have z1 := nb_Rz (e := .inl (1, 2, upd (A (10 + root.toNatClampNeg)) half.toNatClampNeg leaf)) hz p4.1 p4.2 rfl rfl
  obtain ⟨n1, n2, n3, n4⟩ := hF1.2.1 _ hr12
  rw [va_up_self] at n4
  have e2 := wA_ar (v := other) n4 in2
  have hF2 := hF1.putLeaves hr12 (upd (upd (A (10 + root.toNatClampNeg)) half.toNatClampNeg leaf) (1 - half).toNatClampNeg other)
  rw [va_up_up] at hF2
  have l2 := nb_le (e := .inl (1, 2, upd (upd (A (10 + root.toNatClampNeg)) half.toNatClampNeg leaf) (1 - half).toNatClampNeg other)) z1 n4.1 n4.2 rfl
  have z2 := nb_Rz (e := .inl (1, 2, upd (upd (A (10 + root.toNatClampNeg)) half.toNatClampNeg leaf) (1 - half).toNatClampNeg other)) z1 n4.1 n4.2 rfl rfl
  refine ⟨uC (uC st (q (102 + 3 * root.toNatClampNeg)) (.inl (1, 2, upd (A (10 + root.toNatClampNeg)) half.toNatClampNeg leaf))) (q (102 + 3 * root.toNatClampNeg)) (.inl (1, 2, upd (upd (A (10 + root.toNatClampNeg)) half.toNatClampNeg leaf) (1 - half).toNatClampNeg other)), fun s3 h3 => ?_, rfl, l1.tr l2, z2, hw, hF2⟩
  simp only [c_Store_writeRoot, fg_6_0 hF, Option.bind_some, pg_read hF r0 r1, gQ_ob (k := 1) (r := some (q (102 + 3 * root.toNatClampNeg))) p2 rfl, e1, fg_6_0 hF1, pg_read hF1 r0 r1, gQ_ob (k := 1) (r := some (q (102 + 3 * root.toNatClampNeg))) n2 rfl, e2, fo_6 hF2, h3]
theorem mRoot_13 {root half leaf other : Int32} (r0 : 0 ≤ root.toInt) (r1 : root.toInt < 12) (hh : half = 0 ∨ half = 1) : (mRoot ms root half leaf other).2.2.1 13 = upd (upd (ms.2.2.1 13) (2 * root.toNatClampNeg + half.toNatClampNeg) leaf) (2 * root.toNatClampNeg + (1 - half).toNatClampNeg) other := by
  obtain ⟨k2, k4, -, -⟩ := rt_idx r0 r1 hh
  unfold mRoot
  rw [k2, k4]
  dsimp only
  rw [va_up_self]
theorem root_Rm {a2 : CS} (h : Rm Zd K st ms q cw I A R Q) {root half leaf other : Int32} (r0 : 0 ≤ root.toInt) (r1 : root.toInt < 12) (hh : half = 0 ∨ half = 1) (hfree : ∀ r, isRoot ms r → useU A r root = 0) (hl : pgr leaf) (ho9 : pgr other) (hle : le K st a2) (z2 : Rz K a2 q) (w2 : wf K a2) (hF2 : Fx a2 q cw I (va_up A (10 + root.toNatClampNeg) (upd (upd (A (10 + root.toNatClampNeg)) half.toNatClampNeg leaf) (1 - half).toNatClampNeg other)) R Q) : Rm Zd K a2 (mRoot ms root half leaf other) q cw I (va_up A (10 + root.toNatClampNeg) (upd (upd (A (10 + root.toNatClampNeg)) half.toNatClampNeg leaf) (1 - half).toNatClampNeg other)) R Q := by
  obtain ⟨hF, hw, ⟨t1, t2, t3, t4, t5⟩, hS, hP, hk, hd, hr, ho, hb, hz⟩ := h
  have hfn := free_ne hS hP r0 hfree
  obtain ⟨⟨s1, s2, s3⟩, ⟨s4, s5, s6⟩, ⟨s7, s8, s9, s10⟩, s11, s12, s13⟩ := hS
  obtain ⟨c1, c2, c3, -, -⟩ := hf_ne hh
  have e13 := mRoot_13 (ms := ms) (leaf := leaf) (other := other) r0 r1 hh
  have hA : ∀ k, k < 10 → va_up A (10 + root.toNatClampNeg) (upd (upd (A (10 + root.toNatClampNeg)) half.toNatClampNeg leaf) (1 - half).toNatClampNeg other) k = A k := fun k hk9 => va_up_ne _ _ (by omega)
  have e12 : (mRoot ms root half leaf other).2.2.1 12 = upd (ms.2.2.1 12) root.toNatClampNeg 1 := rfl
  refine ⟨hF2, w2, ⟨by rw [hA 0 (by omega)]; exact t1, t2, t3, t4, t5⟩, ⟨⟨s1, s2, s3⟩, ⟨s4, s5, s6⟩, ⟨by rw [hA 2 (by omega)]; exact s7, by rw [hA 3 (by omega)]; exact s8, by rw [hA 4 (by omega)]; exact s9, by rw [hA 5 (by omega)]; exact s10⟩, by rw [hA 4 (by omega)]; exact s11, by rw [hA 3 (by omega)]; exact s12, by rw [hA 5 (by omega)]; exact s13⟩, ?_, ?_, hd.mono hle ⟨rfl, rfl, rfl, rfl, rfl, rfl⟩ rfl, hr.mono hle ⟨rfl, rfl, rfl, rfl, rfl, rfl⟩ rfl (hA 1 (by omega)) rfl rfl, ?_, ?_, z2⟩
  · intro j hj h hh9
    rw [e13]
    by_cases e : j = root.toNatClampNeg
    · rw [e, va_up_self, two_at c1 c2 c3 hh9]
      by_cases e9 : h = (1 - half).toNatClampNeg
      · rw [if_pos e9, e9, upd_self]; exact ⟨rfl, ho9⟩
      · rw [if_neg e9, upd_ne e9, show h = half.toNatClampNeg by omega, upd_self]; exact ⟨rfl, hl⟩
    · rw [va_up_ne _ _ (by omega), two_ne (by omega) (by omega)]
      exact hP j hj h hh9
  · intro r hroot9 hr0
    have hroot9 : isRoot ms r := hroot9
    obtain ⟨q1, q2⟩ := hfn r hroot9 hr0
    obtain ⟨g1, g2⟩ := hk r hroot9 hr0
    rw [e12, e13]
    refine ⟨by rw [upd_ne q1]; exact g1, fun h hh9 h0 => ?_⟩
    rw [two_ne (by omega) (by omega)] at h0 ⊢
    obtain ⟨g3, g4⟩ := g2 h hh9 h0
    exact ⟨by rw [upd_ne (q2 h hh9 h0)]; exact g3, g4⟩
  · obtain ⟨o1, o2, o3, o4, o5, o6, o7⟩ := ho
    exact ⟨o1, o2, o3, o4, o5, o6, by rw [hA 6 (by omega)]; exact o7⟩
  · obtain ⟨o1, o2, o3, o4, o5⟩ := hb
    exact ⟨o1, o2, o3, o4, by rw [hA 6 (by omega), hA 7 (by omega), hA 8 (by omega)]; exact o5⟩
theorem root_lock (h : Rm Zd K st ms q cw I A R Q) (hdn : I 11 = 0) {root half leaf other : Int32} (r0 : 0 ≤ root.toInt) (r1 : root.toInt < 12) (hh : half = 0 ∨ half = 1) (hfree : ∀ r, isRoot ms r → useU A r root = 0) (hl : pgr leaf) (ho9 : pgr other) (hlr : ¬ leaf = root) (hor : ¬ other = root)
    (hlo : 0 ≤ leaf.toInt → ms.2.2.1 12 leaf.toNatClampNeg = 2 ∧ ∃ i, i < 4 ∧ ms.2.2.1 14 (4 * leaf.toNatClampNeg + i) ≠ 0) (hoo : 0 ≤ other.toInt → ms.2.2.1 12 other.toNatClampNeg = 2 ∧ ∃ i, i < 4 ∧ ms.2.2.1 14 (4 * other.toNatClampNeg + i) ≠ 0) :
    ∃ st1 ms1 I1 A1 x, c_Store_writeRoot Zd K (q 6) root half leaf other st = some st1 ∧ m_block (mRoot ms root half leaf other) = some (x, ms1) ∧ st1.1 = st.1 ∧ le K st st1 ∧ Rm Zd K st1 ms1 q cw I1 A1 R Q ∧ ((x = 1 ∧ I1 11 = 0) ∨ (x = 0 ∧ I1 11 = 1)) ∧ ms1.2.2.2 = ms.2.2.2 ∧ ms1.2.2.1 1 = ms.2.2.1 1 ∧ ms1.2.2.1 2 = ms.2.2.1 2 ∧ rootOk ms1 root := by
  obtain ⟨a2, ca, f2, l2, z2, w2, hF2⟩ := croot (Zd := Zd) (root := root) (half := half) (leaf := leaf) (other := other) h.1 h.2.2.2.2.2.2.2.2.2.2 h.2.1 r0 r1 hh
  obtain ⟨st1, ms1, I1, A1, x, b1, b2, b3, b4, b5, ⟨b6, b7, b8, b9, -, -, b11⟩, b10⟩ := block_lock (root_Rm h r0 r1 hh hfree hl ho9 l2 z2 w2 hF2) hdn
  refine ⟨st1, ms1, I1, A1, x, ca st1 b1, b2, b3.trans f2, l2.tr b4, b5, b10, b7, b8 1 (by decide), b8 2 (by decide), ?_⟩
  intro _
  obtain ⟨c1, c2, c3, -, -⟩ := hf_ne hh
  have e12 : ms1.2.2.1 12 = upd (ms.2.2.1 12) root.toNatClampNeg 1 := b8 12 (by decide)
  have e13 := (b8 13 (by decide)).trans (mRoot_13 (ms := ms) (leaf := leaf) (other := other) r0 r1 hh)
  have e14 : ms1.2.2.1 14 = ms.2.2.1 14 := b8 14 (by decide)
  rw [e12, e13, e14]
  refine ⟨upd_self, fun h hh9 h0 => ?_⟩
  rw [two_at c1 c2 c3 hh9] at h0 ⊢
  by_cases e9 : h = (1 - half).toNatClampNeg
  · rw [if_pos e9] at h0 ⊢
    obtain ⟨g1, g2⟩ := hoo h0
    exact ⟨by rw [upd_ne (fun e => hor (tn_inj h0 r0 e))]; exact g1, g2⟩
  · rw [if_neg e9] at h0 ⊢
    obtain ⟨g1, g2⟩ := hlo h0
    exact ⟨by rw [upd_ne (fun e => hlr (tn_inj h0 r0 e))]; exact g1, g2⟩
end WRITE
