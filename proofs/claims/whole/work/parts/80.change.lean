/-! The store's change. -/
theorem half_of {id : Int32} (id0 : ¬ id < 0) (id8 : ¬ 8 ≤ id) : (id / 4 = 0 ∨ id / 4 = 1) := (id_half id0 id8).1
/-- the ids of a half -/
theorem id_at {half : Int32} (hh : half = 0 ∨ half = 1) {i : Nat} (hi : i < 4) : ∃ e : Int32, e = half * 4 + Int32.ofNat i ∧ ¬ e < 0 ∧ ¬ 8 ≤ e ∧ e / 4 = half ∧ (e - e / 4 * 4).toNatClampNeg = i ∧ 0 ≤ e.toInt ∧ e.toInt < 8 := by
  refine ⟨_, rfl, ?_⟩
  rcases hh with rfl | rfl <;> rcases (show i = 0 ∨ i = 1 ∨ i = 2 ∨ i = 3 by omega) with rfl | rfl | rfl | rfl <;> decide
theorem id_inv {e half : Int32} (e0 : ¬ e < 0) (e8 : ¬ 8 ≤ e) (hh : e / 4 = half) : ∃ i : Nat, i < 4 ∧ e = half * 4 + Int32.ofNat i := by
  subst hh
  rcases id8 e0 e8 with rfl | rfl | rfl | rfl | rfl | rfl | rfl | rfl
  · exact ⟨0, by decide, by decide⟩
  · exact ⟨1, by decide, by decide⟩
  · exact ⟨2, by decide, by decide⟩
  · exact ⟨3, by decide, by decide⟩
  · exact ⟨0, by decide, by decide⟩
  · exact ⟨1, by decide, by decide⟩
  · exact ⟨2, by decide, by decide⟩
  · exact ⟨3, by decide, by decide⟩
section CHANGE
variable {Zd : Nat → Nat} {K : KE} {st : CS} {ms : MS} {q : Nat → Nat} {cw : Nat} {I : Nat → Int32} {A : Nat → Nat → Int32} {R : Nat → Option Nat} {Q : Nat → Nat → Option Nat}
/-- where the new document comes from -/
def srcOk (Zd : Nat → Nat) (K : KE) (st : CS) (ms : MS) (r : Option Nat) (row : Int32) : Prop := (r = none ∧ row = -1) ∨ ∃ (a base : Nat) (x : Int32) (L : List Nd), r = some a ∧ 0 ≤ row.toInt ∧ m_at row = some x ∧ x.toInt = base ∧ 1920 ≤ base ∧ base + L.length ≤ 2100 ∧ treeOf Zd K st 5 a = some L ∧ rowIs ms base L ∧ L.length ≤ 24
theorem srcOk.le {st1 : CS} {r : Option Nat} {row : Int32} (h : srcOk Zd K st ms r row) (hl : le K st st1) : srcOk Zd K st1 ms r row := h.imp (fun h9 => h9) (fun ⟨a, base, x, L9, e1, e2, e3, e4, e5, e6, e7, e8, e9⟩ => ⟨a, base, x, L9, e1, e2, e3, e4, e5, e6, hl.tree 5 a L9 e7, e8, e9⟩)
theorem cur_ok (hS : Rs I A ms) : pgr (A 3 (curM (A 2)).toNatClampNeg) ∧ isRoot ms (A 3 (curM (A 2)).toNatClampNeg) := by
  obtain ⟨-, -, ⟨s7, s8, s9, s10⟩, s11, s12, s13⟩ := hS
  rcases curM_or (A 2) with e | e <;> rw [e]
  · exact ⟨s12 0 (by decide), Or.inl ⟨0, by decide, by rw [s8]; rfl⟩⟩
  · exact ⟨s12 1 (by decide), Or.inl ⟨1, by decide, by rw [s8]; rfl⟩⟩
/-- a leaf that is reached has documents -/
theorem leaf_none (hP : Rp A ms) (hk : Rk ms) (hd : Rd Zd K st Q ms) {cur oh : Int32} (hcur : pgr cur) (hroot : isRoot ms cur) (ho : oh = 0 ∨ oh = 1) : leafS A cur oh = -1 ↔ ∀ i : Nat, i < 4 → docS A Q cur (oh * 4 + Int32.ofNat i) = none := by
  have L := nums
  constructor
  · intro h i hi
    obtain ⟨e, e1, e2, e3, e4, e5, -, -⟩ := id_at ho hi
    rw [← e1]
    unfold docS
    rw [if_neg e2, if_neg e3, e4, if_pos h]
  · intro h
    by_cases h9 : leafS A cur oh = -1
    · exact h9
    · exfalso
      by_cases c0 : cur = -1
      · apply h9; unfold leafS; rw [if_pos c0]
      obtain ⟨c1, c2, c3⟩ := pgr_in hcur c0
      have c5 : cur.toNatClampNeg < 12 := by rw [tnn]; omega
      have o5 : oh.toNatClampNeg < 2 := by rcases ho with e | e <;> rw [e] <;> decide
      have hl : leafS A cur oh = ms.2.2.1 13 (2 * cur.toNatClampNeg + oh.toNatClampNeg) := by
        unfold leafS; rw [if_neg c0]; exact (hP _ c5 _ o5).1
      obtain ⟨l1, l2, l3⟩ := pgr_in (leaf_r hP hcur ho) h9
      obtain ⟨-, hb⟩ := hk cur hroot c2
      obtain ⟨-, i, i1, i2⟩ := hb _ o5 (by rw [← hl]; exact l2)
      rw [← hl] at i2
      have l5 : (leafS A cur oh).toNatClampNeg < 12 := by rw [tnn]; omega
      have hdoc := hd _ l5 i i1
      obtain ⟨e, e1, e2, e3, e4, e5, -, -⟩ := id_at ho i1
      have h8 := h i i1
      rw [← e1] at h8
      unfold docS at h8
      rw [if_neg e2, if_neg e3, e4, if_neg h9, ← e4, e5, e4] at h8
      rw [h8] at hdoc
      exact i2 hdoc
theorem chg_setup (h : Rm Zd K st ms q cw I A R Q) (hk1 : wk K) {id row : Int32} {r : Option Nat} (id0 : ¬ id < 0) (id8 : ¬ 8 ≤ id) (hr9 : srcOk Zd K st ms r row) : ∃ (any : Int32) (s1 : CS) (g1 : Nat → Option Nat) (a1 b1 : Int32), c_Store_draftHalf Zd K (q 6) (id / 4) id r st = some (any, s1) ∧ (any = 0 ∨ any = 1) ∧ Rm Zd K s1 ms q cw I A R (va_up Q 5 g1) ∧ le K st s1 ∧ s1.1 = st.1 ∧ (∀ n : Nat, n < 4 → g1 n = nwI A Q (A 3 (curM (A 2)).toNatClampNeg) id r (id / 4 * 4 + Int32.ofNat n)) ∧ (any = 0 ↔ ∀ n : Nat, n < 4 → nwI A Q (A 3 (curM (A 2)).toNatClampNeg) id r (id / 4 * 4 + Int32.ofNat n) = none) ∧ m_change_l1 id row ms (A 3 (curM (A 2)).toNatClampNeg) (id / 4) 4096 (0, 0, 0) = some (a1, b1, 8) ∧ (a1 ≤ 0 ↔ any = 0) ∧ (a1 + b1 ≤ 0 ↔ any = 0 ∧ leafS A (A 3 (curM (A 2)).toNatClampNeg) (1 - id / 4) = -1) := by
  have L := nums
  obtain ⟨hF, hw, hT, hS, hP, hk, hd, hr, ho, hb, hz⟩ := h
  obtain ⟨hcur, hroot⟩ := cur_ok hS
  have hh := half_of id0 id8
  have ho9 : 1 - id / 4 = 0 ∨ 1 - id / 4 = 1 := by rcases hh with e | e <;> rw [e] <;> decide
  have hne : ¬ 1 - id / 4 = id / 4 := by rcases hh with e | e <;> rw [e] <;> decide
  have hFs : Fx st q cw I A R (va_up Q 5 (Q 5)) := by
    have e : va_up Q 5 (Q 5) = Q := by
      funext j
      by_cases e : j = 5
      · subst e; rw [va_up_self]
      · rw [va_up_ne _ _ e]
    rw [e]; exact hF
  have hrob : ∀ b, r = some b → ∃ fs, ob1 st b 11 fs := by
    intro b hb9
    rcases hr9 with ⟨e1, -⟩ | ⟨a, base, x, L9, e1, -, -, -, -, -, e2, -⟩
    · rw [e1] at hb9; cases hb9
    · rw [e1] at hb9; cases hb9
      exact tree_ob hk1 e2
  have hrow : r = none ↔ row < 0 := by
    rcases hr9 with ⟨e1, e2⟩ | ⟨a, base, x, L9, e1, e2, -⟩
    · rw [e1, e2]; exact ⟨fun _ => by decide, fun _ => rfl⟩
    · rw [e1]; exact ⟨(fun e => by cases e), (fun e => by have := i32lt.mp e; omega)⟩
  obtain ⟨x, s1, g1, d1, d2, d3, d4, d5, d6, d7, d8, d9⟩ := draft_lock (Zd := Zd) (ms := ms) (I := I) (cw := cw) (R := R) (q := q) hk1 hP hd hcur hh hrob (id := id) 4 4096 0 0 st (Q 5) (by decide) (by decide) (by decide) hFs (le.rf K st) hz hw rfl (fun n hn => absurd hn (by have e : (0 : Int32).toNatClampNeg = 0 := (rfl); omega)) (Or.inl rfl) ⟨fun _ n hn => absurd hn (by have e : (0 : Int32).toNatClampNeg = 0 := (rfl); omega), fun _ => rfl⟩
  obtain ⟨a1, b1, c1, c2, c3, c4, c5, c6, c7⟩ := cnt_lock (Zd := Zd) (K := K) (st := st) (id := id) (half := id / 4) hP hd hcur hrow 8 4096 0 0 0 (by decide) (by decide) (by decide) (by decide) (by decide) (by decide) (by decide)
  have hmine : a1.toInt = 0 ↔ x = 0 := by
    rw [c6, d9]
    constructor
    · intro h9 n hn
      obtain ⟨e, e1, e2, e3, e4, e5, e6, e7⟩ := id_at hh hn
      rw [← e1]
      exact h9.2 e (by omega) e7 e4
    · intro h9
      refine ⟨by omega, fun e h5 h6 h7 => ?_⟩
      obtain ⟨i, i1, i2⟩ := id_inv (fun e9 => by have := i32lt.mp e9; omega) (fun e9 => by have := i32le.mp e9; omega) h7
      rw [i2]; exact h9 i i1
  have hoth : b1.toInt = 0 ↔ leafS A (A 3 (curM (A 2)).toNatClampNeg) (1 - id / 4) = -1 := by
    rw [c7, leaf_none hP hk hd hcur hroot ho9]
    have hid : ∀ e : Int32, e / 4 = 1 - id / 4 → nwI A Q (A 3 (curM (A 2)).toNatClampNeg) id r e = docS A Q (A 3 (curM (A 2)).toNatClampNeg) e := by
      intro e h9
      unfold nwI
      rw [if_neg (fun e9 => hne (by rw [← h9, e9]))]
    constructor
    · intro h9 i hi
      obtain ⟨e, e1, e2, e3, e4, e5, e6, e7⟩ := id_at ho9 hi
      have h8 := h9.2 e (by omega) e7 (by rw [e4]; exact hne)
      rw [hid e e4, e1] at h8
      exact h8
    · intro h9
      refine ⟨by omega, fun e h5 h6 h7 => ?_⟩
      have e0 : ¬ e < 0 := fun e9 => by have := i32lt.mp e9; omega
      have e8 : ¬ 8 ≤ e := fun e9 => by have := i32le.mp e9; omega
      have e4 : e / 4 = 1 - id / 4 := by
        rcases half_of e0 e8 with e9 | e9 <;> rcases hh with e7 | e7 <;> rw [e9, e7] at h7 ⊢ <;> first | exact absurd rfl h7 | decide
      obtain ⟨i, i1, i2⟩ := id_inv e0 e8 e4
      rw [hid e e4, i2]; exact h9 i i1
  have hsum : (a1 + b1).toInt = a1.toInt + b1.toInt := i32add (by omega) (by omega)
  refine ⟨x, s1, g1, a1, b1, ?_, d8, ⟨d2, d5, hT, hS, hP, hk, ?_, ?_, ho, hb, d4⟩, d3, d6, d7, d9, c1, ?_, ?_⟩
  · have hbz : bz x = some () := by unfold bz; rw [if_pos d8]
    simp only [c_Store_draftHalf, d1, Option.bind_some, hbz]
  · intro j hj i hi
    rw [va_up_ne _ _ (show 10 + j ≠ 5 by omega)]
    exact (hd j hj i hi).le d3
  · obtain ⟨q1, q2, q3, q4⟩ := hr
    exact ⟨q1, q2, q3, fun i hi => by
      obtain ⟨u1, a, u2, u3⟩ := q4 i hi
      exact ⟨u1, a, by rw [va_up_ne _ _ (show (1 : Nat) ≠ 5 by decide)]; exact u2, u3.le d3⟩⟩
  · rw [← hmine]
    exact ⟨fun e => by have := i32le.mp e; omega, fun e => i32le.mpr (by omega)⟩
  · rw [← hmine, ← hoth]
    exact ⟨fun e => by have := i32le.mp e; omega, fun e => i32le.mpr (by omega)⟩
theorem oth (hP : Rp A ms) {cur root half leaf : Int32} (hcur : pgr cur) (hh : half = 0 ∨ half = 1) (r0 : 0 ≤ root.toInt) (r1 : root.toInt < 12) (hne : ¬ root = cur) : (if (0 : Int32) ≤ cur then ((rd (upd (ms.2.2.1 13) ((2 : Int32) * root + half).toNatClampNeg leaf) 24 ((2 : Int32) * cur + 1 - half)).bind fun x => some x) else some (-1)) = some (leafS A cur (1 - half)) := by
  have L := nums
  unfold leafS
  by_cases c0 : cur = -1
  · rw [if_pos c0, c0, if_neg (show ¬ ((0 : Int32) ≤ -1) from by decide)]
  · obtain ⟨c1, c2, c3⟩ := pgr_in hcur c0
    obtain ⟨k1, -, -, -⟩ := rt_idx r0 r1 hh
    obtain ⟨-, k2, -, k4⟩ := rt_idx c2 c3 hh
    obtain ⟨h1, h2, h3, -, -⟩ := hf_ne hh
    have c5 : cur.toNatClampNeg < 12 := by rw [tnn]; omega
    have hrc : root.toNatClampNeg ≠ cur.toNatClampNeg := fun e => hne (tn_inj r0 c2 e)
    rw [if_neg c0, if_pos (show (0 : Int32) ≤ cur from i32le.mpr (by omega)), rd_in k4, Option.bind_some, k1, k2, upd_ne (by omega), (hP _ c5 _ h2).1]
end CHANGE
