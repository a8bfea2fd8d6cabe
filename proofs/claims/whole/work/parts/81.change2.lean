/-! The store's change: class and model. -/
def ChgOk (Zd : Nat → Nat) (K : KE) (st : CS) (ms : MS) (q : Nat → Nat) (cw : Nat) (R : Nat → Option Nat) (id row : Int32) (r : Option Nat) : Prop := ∃ st1 ms1 I1 A1 Q1 x, c_Store_change Zd K (q 6) id r st = some (x, st1) ∧ m_change id row ms = some (x, ms1) ∧ st1.1 = st.1 ∧ le K st st1 ∧ Rm Zd K st1 ms1 q cw I1 A1 R Q1 ∧ ∀ (c : Nat) (L : List Nd), 1152 ≤ c → rowIs ms c L → rowIs ms1 c L
theorem cm_in (f : Nat → Int32) : vp_in (1 - curM f) 2 ∧ vp_in (1 - (1 - curM f)) 2 := by
  rcases curM_or f with e | e <;> rw [e] <;> unfold vp_in <;> decide
section CHANGE
variable {Zd : Nat → Nat} {K : KE} {st : CS} {ms : MS} {q : Nat → Nat} {cw : Nat} {I : Nat → Int32} {A : Nat → Nat → Int32} {R : Nat → Option Nat} {Q : Nat → Nat → Option Nat}
theorem sr_rows {ms ms1 : MS} (h1 : ms1.2.2.2 = ms.2.2.2) (h2 : ms1.2.2.1 1 = ms.2.2.1 1) (h3 : ms1.2.2.1 2 = ms.2.2.1 2) (c : Nat) (L : List Nd) (h : rowIs ms c L) : rowIs ms1 c L := h.same ⟨h2, h3, by rw [h1], by rw [h1], by rw [h1], by rw [h1]⟩
theorem chg_A (h : Rm Zd K st ms q cw I A R Q) (hdn : I 11 = 0) {id row : Int32} {r : Option Nat} (id0 : ¬ id < 0) (id8 : ¬ 8 ≤ id) {s1 : CS} {g1 : Nat → Option Nat} {a1 b1 : Int32} (d1 : c_Store_draftHalf Zd K (q 6) (id / 4) id r st = some (0, s1)) (hR1 : Rm Zd K s1 ms q cw I A R (va_up Q 5 g1)) (l1 : le K st s1) (f1 : s1.1 = st.1) (c1 : m_change_l1 id row ms (A 3 (curM (A 2)).toNatClampNeg) (id / 4) 4096 (0, 0, 0) = some (a1, b1, 8)) (ha : a1 ≤ 0) (hab : a1 + b1 ≤ 0) (ho : leafS A (A 3 (curM (A 2)).toNatClampNeg) (1 - id / 4) = -1) : ChgOk Zd K st ms q cw R id row r := by
  obtain ⟨hF, hw, hT, hS, hP, hk, hd, hr, ho9, hb, hz⟩ := h
  have hF1 := hR1.1
  obtain ⟨hcur, hroot⟩ := cur_ok hS
  have hh := half_of id0 id8
  have hoh : 1 - id / 4 = 0 ∨ 1 - id / 4 = 1 := by rcases hh with e | e <;> rw [e] <;> decide
  obtain ⟨-, -, ⟨s7, s8, -, -⟩, -⟩ := hS
  obtain ⟨st1, ms1, I1, A1, x, b1', b2, b3, b4, b5, b6, b7, b8, b9⟩ := meta_lock (root := -1) hR1 hdn (by unfold pgr; decide) (fun h9 => absurd h9 (by decide))
  obtain ⟨i1, i2⟩ := cm_in (ms.2.2.1 16)
  have g8 : gI K s1 (q 6) 9 8 = some 0 := by rw [fg_6_8 hF1, hdn]
  have g9 : gI K st1 (q 6) 9 8 = some (I1 11) := fg_6_8 b5.1
  unfold mMeta at b2
  have hcl : c_Store_leafOf Zd K (q 6) (A 3 (curM (A 2)).toNatClampNeg) (1 - id / 4) st = some (-1) := by rw [c_leaf hF hcur hoh, ho]
  rcases b6 with ⟨rfl, hx⟩ | ⟨rfl, hx⟩
  · refine ⟨st1, ms1, I1, A1, _, 0, ?_, ?_, b3.trans f1, l1.tr b4, b5, fun c L9 _ h9 => sr_rows b7 b8 b9 c L9 h9⟩
    · simp only [c_Store_change, Option.bind_some, fo_6 hF, c_cr hF, hcl, d1, if_true, g8, fo_6 hF1, b1', g9, hx]
    · simp only [m_change, m_cm, Option.bind_some, rd_in (curM_in _), ← s7, ← s8, c1, ha, hab, if_true, show (-1 : Int32) < 0 from by decide, i1, i2, rd_in, ix_in] at b2 ⊢
      simp only [s7, rd_in i2, ix_in i1, Option.bind_some] at b2 ⊢
      rw [b2]
      simp only [Option.bind_some, show ¬ ((1 : Int32) = 0) from by decide, if_false]
  · refine ⟨st1, ms1, I1, A1, _, -9, ?_, ?_, b3.trans f1, l1.tr b4, b5, fun c L9 _ h9 => sr_rows b7 b8 b9 c L9 h9⟩
    · simp only [c_Store_change, Option.bind_some, fo_6 hF, c_cr hF, hcl, d1, if_true, g8, fo_6 hF1, b1', g9, hx, show ¬ ((1 : Int32) = 0) from by decide, if_false]
    · simp only [m_change, m_cm, Option.bind_some, rd_in (curM_in _), ← s7, ← s8, c1, ha, hab, if_true, show (-1 : Int32) < 0 from by decide, i1, i2, rd_in, ix_in] at b2 ⊢
      simp only [s7, rd_in i2, ix_in i1, Option.bind_some] at b2 ⊢
      rw [b2]
      simp only [Option.bind_some, if_true]
theorem oth_free {cur root half : Int32} (hh : half = 0 ∨ half = 1) (h : useU A cur root = 0) : ¬ root = cur ∧ ¬ leafS A cur (1 - half) = root ∧ ¬ leafS A cur half = root := by
  unfold useU at h
  by_cases e1 : cur = root
  · rw [if_pos e1] at h; exact absurd h (by decide)
  rw [if_neg e1] at h
  by_cases e2 : leafS A cur 0 = root
  · rw [if_pos e2] at h; exact absurd h (by decide)
  rw [if_neg e2] at h
  by_cases e3 : leafS A cur 1 = root
  · rw [if_pos e3] at h; exact absurd h (by decide)
  refine ⟨fun e => e1 e.symm, ?_⟩
  rcases hh with rfl | rfl
  · exact ⟨e3, e2⟩
  · exact ⟨e2, e3⟩
theorem oth_ok (hP : Rp A ms) (hk : Rk ms) {cur oh : Int32} (hcur : pgr cur) (hroot : isRoot ms cur) (ho : oh = 0 ∨ oh = 1) (h0 : 0 ≤ (leafS A cur oh).toInt) : ms.2.2.1 12 (leafS A cur oh).toNatClampNeg = 2 ∧ ∃ i, i < 4 ∧ ms.2.2.1 14 (4 * (leafS A cur oh).toNatClampNeg + i) ≠ 0 := by
  have L := nums
  by_cases c0 : cur = -1
  · exfalso
    unfold leafS at h0
    rw [if_pos c0] at h0
    omega
  obtain ⟨c1, c2, c3⟩ := pgr_in hcur c0
  have c5 : cur.toNatClampNeg < 12 := by rw [tnn]; omega
  have o5 : oh.toNatClampNeg < 2 := by rcases ho with e | e <;> rw [e] <;> decide
  have hl : leafS A cur oh = ms.2.2.1 13 (2 * cur.toNatClampNeg + oh.toNatClampNeg) := by
    unfold leafS; rw [if_neg c0]; exact (hP _ c5 _ o5).1
  rw [hl] at h0 ⊢
  exact (hk cur hroot c2).2 _ o5 h0
theorem chg_B (h : Rm Zd K st ms q cw I A R Q) (hdn : I 11 = 0) {id row : Int32} {r : Option Nat} (id0 : ¬ id < 0) (id8 : ¬ 8 ≤ id) {s1 : CS} {g1 : Nat → Option Nat} {a1 b1 : Int32} (d1 : c_Store_draftHalf Zd K (q 6) (id / 4) id r st = some (0, s1)) (hR1 : Rm Zd K s1 ms q cw I A R (va_up Q 5 g1)) (l1 : le K st s1) (f1 : s1.1 = st.1) (c1 : m_change_l1 id row ms (A 3 (curM (A 2)).toNatClampNeg) (id / 4) 4096 (0, 0, 0) = some (a1, b1, 8)) (ha : a1 ≤ 0) (hab : ¬ a1 + b1 ≤ 0) (ho : ¬ leafS A (A 3 (curM (A 2)).toNatClampNeg) (1 - id / 4) = -1) : ChgOk Zd K st ms q cw R id row r := by
  have L := nums
  obtain ⟨hF, hw, hT, hS, hP, hk, hd, hr, ho9, hb, hz⟩ := h
  have hF1 := hR1.1
  obtain ⟨hcur, hroot⟩ := cur_ok hS
  have hh := half_of id0 id8
  have hoh : 1 - id / 4 = 0 ∨ 1 - id / 4 = 1 := by rcases hh with e | e <;> rw [e] <;> decide
  have hcurM : rd (ms.2.2.1 15) 2 (curM (ms.2.2.1 16)) = some (A 3 (curM (A 2)).toNatClampNeg) := by
    obtain ⟨-, -, ⟨s7, s8, -, -⟩, -⟩ := hS
    rw [rd_in (curM_in _), ← s8, ← s7]
  have hcl : c_Store_leafOf Zd K (q 6) (A 3 (curM (A 2)).toNatClampNeg) (1 - id / 4) st = some (leafS A (A 3 (curM (A 2)).toNatClampNeg) (1 - id / 4)) := c_leaf hF hcur hoh
  have g8 : gI K s1 (q 6) 9 8 = some 0 := by rw [fg_6_8 hF1, hdn]
  have z0 : (-1 : Int32) + 1 = 0 := by decide
  rcases free_leaf (Zd := Zd) (K := K) hF1 hS hP hk with ⟨p1, p2⟩ | ⟨p, p0, p9, p1, p2, p3, p4⟩
  · refine ⟨s1, ms, I, A, _, -2, ?_, ?_, f1, l1, hR1, fun c L9 _ h9 => h9⟩
    · simp only [c_Store_change, Option.bind_some, fo_6 hF, c_cr hF, hcl, d1, ho, if_true, if_false, show ¬ ((1 : Int32) = 0) from by decide, z0, fo_6 hF1, p1]
    · simp only [m_change, m_cm, Option.bind_some, hcurM, c1, ha, hab, if_true, if_false, p2, show ¬ ((0 : Int32) ≤ -1) from by decide]
  · have hpm : ¬ p = -1 := fun e => by rw [e] at p0; omega
    have hp0 : (0 : Int32) ≤ p := i32le.mpr (by omega)
    have hpn : ¬ p < 0 := fun e => by have := i32lt.mp e; omega
    obtain ⟨n1, n2, -⟩ := oth_free hh (p3 _ hroot)
    have hoth := oth (leaf := -1) hP hcur hh p0 p9 n1
    obtain ⟨k1, k2, k3, k4⟩ := rt_idx p0 p9 hh
    have hin12 : vp_in p 12 := vp_of p0 (by omega)
    obtain ⟨st2, ms2, I2, A2, x, b1', b2, b3, b4, b5, b6, b7, b8, b9, b10⟩ := root_lock (leaf := -1) hR1 hdn p0 p9 hh p3 (by unfold pgr; decide) (leaf_r hP hcur hoh) (fun e => hpm e.symm) n2 (fun h9 => absurd h9 (by decide)) (fun h9 => oth_ok hP hk hcur hroot hoh h9)
    unfold mRoot at b2
    have g9 : gI K st2 (q 6) 9 8 = some (I2 11) := fg_6_8 b5.1
    rcases b6 with ⟨rfl, hx⟩ | ⟨rfl, hx⟩
    · obtain ⟨st3, ms3, I3, A3, y, e1, e2, e3, e4, e5, e6, e7, e8, e9⟩ := meta_lock (root := p) b5 hx ⟨by omega, p9⟩ b10
      obtain ⟨i1, i2⟩ := cm_in (ms2.2.2.1 16)
      unfold mMeta at e2
      have g10 : gI K st3 (q 6) 9 8 = some (I3 11) := fg_6_8 e5.1
      have hrows : ∀ (c : Nat) (L9 : List Nd), 1152 ≤ c → rowIs ms c L9 → rowIs ms3 c L9 := fun c L9 _ h9 => sr_rows e7 e8 e9 c L9 (sr_rows b7 b8 b9 c L9 h9)
      rcases e6 with ⟨rfl, hy⟩ | ⟨rfl, hy⟩
      · refine ⟨st3, ms3, I3, A3, _, 0, ?_, ?_, e3.trans (b3.trans f1), l1.tr (b4.tr e4), e5, hrows⟩
        · simp only [c_Store_change, Option.bind_some, fo_6 hF, c_cr hF, hcl, d1, ho, hpm, if_true, if_false, show ¬ ((1 : Int32) = 0) from by decide, z0, fo_6 hF1, p1, g8, b1', g9, hx, fo_6 b5.1, e1, g10, hy]
        · simp only [m_change, m_cm, Option.bind_some, hcurM, c1, ha, hab, if_true, if_false, p2, hp0, hpn, ix_in hin12, ix_in k3, ix_in k4, hoth, b2, show ¬ ((1 : Int32) = 0) from by decide, rd_in i2, ix_in i1, e2]
      · refine ⟨st3, ms3, I3, A3, _, -9, ?_, ?_, e3.trans (b3.trans f1), l1.tr (b4.tr e4), e5, hrows⟩
        · simp only [c_Store_change, Option.bind_some, fo_6 hF, c_cr hF, hcl, d1, ho, hpm, if_true, if_false, show ¬ ((1 : Int32) = 0) from by decide, z0, fo_6 hF1, p1, g8, b1', g9, hx, fo_6 b5.1, e1, g10, hy]
        · simp only [m_change, m_cm, Option.bind_some, hcurM, c1, ha, hab, if_true, if_false, p2, hp0, hpn, ix_in hin12, ix_in k3, ix_in k4, hoth, b2, show ¬ ((1 : Int32) = 0) from by decide, rd_in i2, ix_in i1, e2]
    · refine ⟨st2, ms2, I2, A2, _, -9, ?_, ?_, b3.trans f1, l1.tr b4, b5, fun c L9 _ h9 => sr_rows b7 b8 b9 c L9 h9⟩
      · simp only [c_Store_change, Option.bind_some, fo_6 hF, c_cr hF, hcl, d1, ho, hpm, if_true, if_false, show ¬ ((1 : Int32) = 0) from by decide, z0, fo_6 hF1, p1, g8, b1', g9, hx]
      · simp only [m_change, m_cm, Option.bind_some, hcurM, c1, ha, hab, if_true, if_false, p2, hp0, hpn, ix_in hin12, ix_in k3, ix_in k4, hoth, b2]
theorem chg_C (h : Rm Zd K st ms q cw I A R Q) (hdn : I 11 = 0) (hk1 : wk K) {id row : Int32} {r : Option Nat} (id0 : ¬ id < 0) (id8 : ¬ 8 ≤ id) (hr9 : srcOk Zd K st ms r row) {s1 : CS} {g1 : Nat → Option Nat} {a1 b1 : Int32} (d1 : c_Store_draftHalf Zd K (q 6) (id / 4) id r st = some (1, s1)) (hR1 : Rm Zd K s1 ms q cw I A R (va_up Q 5 g1)) (l1 : le K st s1) (f1 : s1.1 = st.1) (hg : ∀ n : Nat, n < 4 → g1 n = nwI A Q (A 3 (curM (A 2)).toNatClampNeg) id r (id / 4 * 4 + Int32.ofNat n)) (hany : ∃ n : Nat, n < 4 ∧ nwI A Q (A 3 (curM (A 2)).toNatClampNeg) id r (id / 4 * 4 + Int32.ofNat n) ≠ none) (c1 : m_change_l1 id row ms (A 3 (curM (A 2)).toNatClampNeg) (id / 4) 4096 (0, 0, 0) = some (a1, b1, 8)) (ha : ¬ a1 ≤ 0) (hab : ¬ a1 + b1 ≤ 0) : ChgOk Zd K st ms q cw R id row r := by
  have L := nums
  obtain ⟨hF, hw, hT, hS, hP, hk, hd, hr, ho9, hb, hz⟩ := h
  have hF1 := hR1.1
  obtain ⟨hcur, hroot⟩ := cur_ok hS
  have hh := half_of id0 id8
  have hoh : 1 - id / 4 = 0 ∨ 1 - id / 4 = 1 := by rcases hh with e | e <;> rw [e] <;> decide
  have hcurM : rd (ms.2.2.1 15) 2 (curM (ms.2.2.1 16)) = some (A 3 (curM (A 2)).toNatClampNeg) := by
    obtain ⟨-, -, ⟨s7, s8, -, -⟩, -⟩ := hS
    rw [rd_in (curM_in _), ← s8, ← s7]
  have hcl : c_Store_leafOf Zd K (q 6) (A 3 (curM (A 2)).toNatClampNeg) (1 - id / 4) st = some (leafS A (A 3 (curM (A 2)).toNatClampNeg) (1 - id / 4)) := c_leaf hF hcur hoh
  have hcr := c_cr (Zd := Zd) (K := K) hF
  have z0 : (-1 : Int32) + 1 = 0 := by decide
  generalize hcg : A 3 (curM (A 2)).toNatClampNeg = cur at *
  have h10 : ¬ ((1 : Int32) = 0) := by decide
  rcases free_leaf (Zd := Zd) (K := K) hF1 hS hP hk with ⟨p1, p2⟩ | ⟨p, p0, p9, p1, p2, p3, p4⟩
  · refine ⟨s1, ms, I, A, _, -2, ?_, ?_, f1, l1, hR1, fun c L9 _ h9 => h9⟩
    · simp only [c_Store_change, Option.bind_some, fo_6 hF, hcr, hcl, d1, h10, if_true, if_false, z0, fo_6 hF1, p1]
    · simp only [m_change, m_cm, Option.bind_some, hcurM, c1, ha, hab, if_true, if_false, p2, show ¬ ((0 : Int32) ≤ -1) from by decide, show (-1 : Int32) < 0 from by decide]
  · have hpm : ¬ p = -1 := fun e => by rw [e] at p0; omega
    have hp0 : (0 : Int32) ≤ p := i32le.mpr (by omega)
    have hpn : ¬ p < 0 := fun e => by have := i32lt.mp e; omega
    rcases free_root (Zd := Zd) (K := K) hF1 hS hP hk p0 p9 p4 with ⟨t1, t2⟩ | ⟨t, t0, t9, t1, t2, t3⟩
    · refine ⟨s1, ms, I, A, _, -2, ?_, ?_, f1, l1, hR1, fun c L9 _ h9 => h9⟩
      · simp only [c_Store_change, Option.bind_some, fo_6 hF, hcr, hcl, d1, h10, hpm, if_true, if_false, fo_6 hF1, p1, t1]
      · simp only [m_change, m_cm, Option.bind_some, hcurM, c1, ha, hab, if_true, if_false, p2, t2, hp0, hpn, show ¬ ((0 : Int32) ≤ -1) from by decide]
    · have htm : ¬ t = -1 := fun e => by rw [e] at t0; omega
      have ht0 : (0 : Int32) ≤ t := i32le.mpr (by omega)
      have htn : ¬ t < 0 := fun e => by have := i32lt.mp e; omega
      have hpt : ¬ p = t := fun e => by rw [e] at t0; omega
      obtain ⟨n1, n2, -⟩ := oth_free hh (t3 _ hroot)
      obtain ⟨m1, m2, -⟩ := oth_free hh (p3 _ hroot)
      obtain ⟨k1, k2, k3, k4⟩ := rt_idx (half := id / 4) (root := t) (by omega) t9 hh
      have hin12 : vp_in t 12 := vp_of (by omega) (by omega)
      have hnw : ∀ e : Int32, nwI A (va_up Q 5 g1) cur id r e = nwI A Q cur id r e := by
        intro e
        unfold nwI
        rw [docS_up]
      obtain ⟨st2, m0, ms2, I2, A2, Q2, x, b1', bm, b2, b3, b4, b5, b6, ⟨w1, w2, w3, w4, w5, w6, w7, w8⟩, b7, b8⟩ := leaf_lock (id := id) (row := row) (r := r) hR1 hdn hk1 p0 p9 p3 hcur hroot hh (hr9.le l1) (fun n hn => by rw [va_up_self, hg n hn, hnw]) (by
        obtain ⟨n, n8, n9⟩ := hany
        exact ⟨n, n8, by rw [hnw]; exact n9⟩)
      have g9 : gI K st2 (q 6) 9 8 = some (I2 11) := fg_6_8 b5.1
      rcases b6 with ⟨rfl, hx⟩ | ⟨rfl, hx⟩
      · have hls := leafS_same w2 cur (1 - id / 4)
        have hoth := oth (leaf := p) (half := id / 4) (root := t) b5.2.2.2.2.1 hcur hh (by omega) t9 n1
        rw [hls] at hoth
        obtain ⟨st3, ms3, I3, A3, y, e1, e2, e3, e4, e5, e6, e7, e8, e9, e10⟩ := root_lock (leaf := p) (half := id / 4) (root := t) (other := leafS A cur (1 - id / 4)) b5 hx (by omega) t9 hh (fun r9 hr8 => by rw [useU_same w2]; exact t3 r9 (w1 r9 hr8)) ⟨by omega, p9⟩ (leaf_r hP hcur hoh) hpt n2 (fun _ => b7) (fun h9 => by
          obtain ⟨u1, i, u2, u3⟩ := oth_ok hP hk hcur hroot hoh h9
          have hne : (leafS A cur (1 - id / 4)).toNatClampNeg ≠ p.toNatClampNeg := fun e => m2 (tn_inj h9 p0 e)
          obtain ⟨v1, v2⟩ := b8 _ hne
          exact ⟨by rw [v1]; exact u1, i, u2, by rw [v2 i u2]; exact u3⟩)
        unfold mRoot at e2
        have g10 : gI K st3 (q 6) 9 8 = some (I3 11) := fg_6_8 e5.1
        rcases e6 with ⟨rfl, hy⟩ | ⟨rfl, hy⟩
        · obtain ⟨st4, ms4, I4, A4, z, f1', f2, f3, f4, f5, f6, f7, f8, f9⟩ := meta_lock (root := t) e5 hy ⟨by omega, t9⟩ e10
          obtain ⟨i1, i2⟩ := cm_in (ms3.2.2.1 16)
          unfold mMeta at f2
          have g11 : gI K st4 (q 6) 9 8 = some (I4 11) := fg_6_8 f5.1
          have hrows : ∀ (c : Nat) (L9 : List Nd), 1152 ≤ c → rowIs ms c L9 → rowIs ms4 c L9 := fun c L9 hc h9 => sr_rows f7 f8 f9 c L9 (sr_rows e7 e8 e9 c L9 (w8 c L9 hc h9))
          rcases f6 with ⟨rfl, hz9⟩ | ⟨rfl, hz9⟩
          · refine ⟨st4, ms4, I4, A4, _, 0, ?_, ?_, f3.trans (e3.trans (b3.trans f1)), l1.tr (b4.tr (e4.tr f4)), f5, hrows⟩
            · simp only [c_Store_change, Option.bind_some, fo_6 hF, hcr, hcl, d1, h10, hpm, htm, if_true, if_false, fo_6 hF1, p1, t1, b1', g9, hx, fo_6 b5.1, e1, g10, hy, fo_6 e5.1, f1', g11, hz9]
            · simp only [m_change, m_cm, Option.bind_some, hcurM, c1, ha, hab, if_true, if_false, p2, t2, hp0, hpn, ht0, htn, bm, b2, h10, ix_in hin12, ix_in k3, ix_in k4, hoth, e2, rd_in i2, ix_in i1, f2]
          · refine ⟨st4, ms4, I4, A4, _, -9, ?_, ?_, f3.trans (e3.trans (b3.trans f1)), l1.tr (b4.tr (e4.tr f4)), f5, hrows⟩
            · simp only [c_Store_change, Option.bind_some, fo_6 hF, hcr, hcl, d1, h10, hpm, htm, if_true, if_false, fo_6 hF1, p1, t1, b1', g9, hx, fo_6 b5.1, e1, g10, hy, fo_6 e5.1, f1', g11, hz9]
            · simp only [m_change, m_cm, Option.bind_some, hcurM, c1, ha, hab, if_true, if_false, p2, t2, hp0, hpn, ht0, htn, bm, b2, h10, ix_in hin12, ix_in k3, ix_in k4, hoth, e2, rd_in i2, ix_in i1, f2]
        · refine ⟨st3, ms3, I3, A3, _, -9, ?_, ?_, e3.trans (b3.trans f1), l1.tr (b4.tr e4), e5, fun c L9 hc h9 => sr_rows e7 e8 e9 c L9 (w8 c L9 hc h9)⟩
          · simp only [c_Store_change, Option.bind_some, fo_6 hF, hcr, hcl, d1, h10, hpm, htm, if_true, if_false, fo_6 hF1, p1, t1, b1', g9, hx, fo_6 b5.1, e1, g10, hy]
          · simp only [m_change, m_cm, Option.bind_some, hcurM, c1, ha, hab, if_true, if_false, p2, t2, hp0, hpn, ht0, htn, bm, b2, h10, ix_in hin12, ix_in k3, ix_in k4, hoth, e2]
      · refine ⟨st2, ms2, I2, A2, _, -9, ?_, ?_, b3.trans f1, l1.tr b4, b5, w8⟩
        · simp only [c_Store_change, Option.bind_some, fo_6 hF, hcr, hcl, d1, h10, hpm, htm, if_true, if_false, fo_6 hF1, p1, t1, b1', g9, hx]
        · simp only [m_change, m_cm, Option.bind_some, hcurM, c1, ha, hab, if_true, if_false, p2, t2, hp0, hpn, ht0, bm, b2]
theorem change_lock (h : Rm Zd K st ms q cw I A R Q) (hdn : I 11 = 0) (hk1 : wk K) {id row : Int32} {r : Option Nat} (id0 : ¬ id < 0) (id8 : ¬ 8 ≤ id) (hr9 : srcOk Zd K st ms r row) : ChgOk Zd K st ms q cw R id row r := by
  obtain ⟨any, s1, g1, a1, b1, d1, d2, d3, d4, d5, d6, d7, d8, d9, d10⟩ := chg_setup h hk1 id0 id8 hr9
  rcases d2 with rfl | rfl
  · have ha := d9.mpr rfl
    by_cases ho : leafS A (A 3 (curM (A 2)).toNatClampNeg) (1 - id / 4) = -1
    · exact chg_A h hdn id0 id8 d1 d3 d4 d5 d8 ha (d10.mpr ⟨rfl, ho⟩) ho
    · exact chg_B h hdn id0 id8 d1 d3 d4 d5 d8 ha (fun e => ho (d10.mp e).2) ho
  · have h10 : ¬ ((1 : Int32) = 0) := by decide
    have hany : ∃ n : Nat, n < 4 ∧ nwI A Q (A 3 (curM (A 2)).toNatClampNeg) id r (id / 4 * 4 + Int32.ofNat n) ≠ none := by
      apply Classical.byContradiction
      intro hno
      apply h10
      refine d7.mpr (fun n hn => ?_)
      apply Classical.byContradiction
      intro h9
      exact hno ⟨n, hn, h9⟩
    exact chg_C h hdn hk1 id0 id8 hr9 d1 d3 d4 d5 d6 hany d8 (fun e => h10 (d9.mp e)) (fun e => h10 (d10.mp e).1)
end CHANGE
