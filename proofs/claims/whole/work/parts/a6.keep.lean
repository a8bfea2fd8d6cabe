/-! Finding: what is found is kept; a query at a document; class and model. -/
def lowR (b : Nat) (ms ms1 : MS) : Prop := ∀ j, j < b → ms1.2.2.1 1 j = ms.2.2.1 1 j ∧ ms1.2.2.1 2 j = ms.2.2.1 2 j ∧ ∀ k, k < 4 → ms1.2.2.2 k j = ms.2.2.2 k j
theorem lowR.tr {b : Nat} {x y z : MS} (h : lowR b x y) (h1 : lowR b y z) : lowR b x z := fun j hj => ⟨(h1 j hj).1.trans (h j hj).1, (h1 j hj).2.1.trans (h j hj).2.1, fun k hk => ((h1 j hj).2.2 k hk).trans ((h j hj).2.2 k hk)⟩
theorem lowR.rf (b : Nat) (x : MS) : lowR b x x := fun _ _ => ⟨rfl, rfl, fun _ _ => rfl⟩
theorem lowR.sr {b : Nat} {x y : MS} (h : sr x y) : lowR b x y := fun j _ => ⟨by rw [h.1], by rw [h.2.1], fun k hk => by
  rcases (show k = 0 ∨ k = 1 ∨ k = 2 ∨ k = 3 by omega) with rfl | rfl | rfl | rfl
  · rw [h.2.2.1]
  · rw [h.2.2.2.1]
  · rw [h.2.2.2.2.1]
  · rw [h.2.2.2.2.2]⟩
theorem rowIs.lowR {c b : Nat} {ms ms2 : MS} {L : List Nd} (h : rowIs ms b L) (hl : lowR c ms ms2) (hc : b + L.length ≤ c) : rowIs ms2 b L := by
  intro i x hx
  obtain ⟨h1, h2, h3, h4, h5⟩ := h i x hx
  have hi : i < L.length := (List.getElem?_eq_some_iff.mp hx).1
  obtain ⟨g1, g2, g3⟩ := hl (b + i) (by omega)
  exact ⟨g1.trans h1, g2.trans h2, (g3 0 (by decide)).trans h3, (g3 1 (by decide)).trans h4, fun h0 => by rw [g3 2 (by decide), g3 3 (by decide)]; exact h5 h0⟩
section KEEP
variable {Zd : Nat → Nat} {K : KE} {q : Nat → Nat} {cw : Nat} {R : Nat → Option Nat}
theorem vC.lowR {st st1 : CS} {ms ms1 : MS} {d p c : Nat} {L : List Nd} (h : vC Zd K st ms d p c L) (hl : le K st st1) (hm : lowR 1152 ms ms1) : vC Zd K st1 ms1 d p c L := ⟨hl.tree d p L h.1, h.2.1.lowR hm h.2.2.2, h.2.2⟩
/-- what a query at a document leaves as it was -/
def KQ (K : KE) (st : CS) (q : Nat → Nat) (cw : Nat) (I : Nat → Int32) (A : Nat → Nat → Int32) (R : Nat → Option Nat) (Q : Nat → Nat → Option Nat) (ms : MS) (st1 : CS) (I1 : Nat → Int32) (A1 : Nat → Nat → Int32) (Q1 : Nat → Nat → Option Nat) (ms1 : MS) : Prop :=
  Cx K st1 q cw I1 A1 R Q1 ∧ le K st st1 ∧ st1.1 = st.1 ∧ (I1 8 = ms1.1 9 ∧ (I1 8 = 0 ∨ I1 8 = 1)) ∧ (∀ k, k ≠ 5 → k ≠ 6 → k ≠ 7 → k ≠ 8 → I1 k = I k) ∧ (∀ k, k ≠ 1 → A1 k = A k) ∧ (∀ k, k ≠ 1 → k ≠ 2 → k ≠ 3 → Q1 k = Q k) ∧ (∀ k, k ≠ 7 → k ≠ 8 → k ≠ 9 → k ≠ 10 → ms1.1 k = ms.1 k) ∧ ms1.2.1 = ms.2.1 ∧ (∀ k, k ≠ 1 → k ≠ 2 → k ≠ 8 → k ≠ 9 → k ≠ 10 → ms1.2.2.1 k = ms.2.2.1 k) ∧ (∀ k, 4 ≤ k → ms1.2.2.2 k = ms.2.2.2 k) ∧ lowR 1152 ms ms1
theorem KQ.tr {st st1 st2 : CS} {I I1 I2 : Nat → Int32} {A A1 A2 : Nat → Nat → Int32} {Q Q1 Q2 : Nat → Nat → Option Nat} {ms ms1 ms2 : MS} (h : KQ K st q cw I A R Q ms st1 I1 A1 Q1 ms1) (h1 : KQ K st1 q cw I1 A1 R Q1 ms1 st2 I2 A2 Q2 ms2) : KQ K st q cw I A R Q ms st2 I2 A2 Q2 ms2 := by
  obtain ⟨a1, a2, a3, a4, a5, a6, a7, a8, a9, a10, a11, a12⟩ := h
  obtain ⟨b1, b2, b3, b4, b5, b6, b7, b8, b9, b10, b11, b12⟩ := h1
  exact ⟨b1, a2.tr b2, b3.trans a3, b4, fun k x y z w => (b5 k x y z w).trans (a5 k x y z w), fun k x => (b6 k x).trans (a6 k x), fun k x y z => (b7 k x y z).trans (a7 k x y z), fun k x y z w => (b8 k x y z w).trans (a8 k x y z w), b9.trans a9, fun k x y z w v => (b10 k x y z w v).trans (a10 k x y z w v), fun k x => (b11 k x).trans (a11 k x), a12.tr b12⟩
theorem kp_l (hk : wk K) {id : Int32} : ∀ (m f1 f2 : Nat) (n : Int32) (st : CS) (I : Nat → Int32) (A : Nat → Nat → Int32) (Q : Nat → Nat → Option Nat) (ms : MS), n.toInt + m = (I 6).toInt → 0 ≤ n.toInt → m < f1 → m < f2 → Cx K st q cw I A R Q → RR Zd K st I Q ms → Rr Zd K st I A Q ms → I 8 = ms.1 9 → (I 8 = 0 ∨ I 8 = 1) → ∃ st1 I1 A1 Q1 ms1 n1 n2, c_Finder_ask_l2 Zd K (q 5) id f1 (n, st) = some (n1, st1) ∧ m_ask_l2 id f2 (n, ms) = some (n2, ms1) ∧ KQ K st q cw I A R Q ms st1 I1 A1 Q1 ms1 ∧ Rr Zd K st1 I1 A1 Q1 ms1 := by
  have N := nums
  have h10 : ¬ ((1 : Int32) = 0) := by decide
  have b1z : bz 1 = some () := rfl
  have b0z : bz 0 = some () := rfl
  intro m
  induction m with
  | zero =>
    intro f1 f2 n st I A Q ms hn n0 hf1 hf2 hC hR hr h8 h8b
    obtain ⟨f1, rfl⟩ : ∃ f, f1 = f + 1 := ⟨f1 - 1, by omega⟩
    obtain ⟨f2, rfl⟩ : ∃ f, f2 = f + 1 := ⟨f2 - 1, by omega⟩
    have hle : I 6 ≤ n := i32le.mpr (by omega)
    have hle2 : ms.1 7 ≤ n := by rw [← hR.1]; exact hle
    refine ⟨st, I, A, Q, ms, n, n, ?_, ?_, ⟨hC, le.rf K st, rfl, ⟨h8, h8b⟩, fun _ _ _ _ _ => rfl, fun _ _ => rfl, fun _ _ _ _ => rfl, fun _ _ _ _ _ => rfl, rfl, fun _ _ _ _ _ _ => rfl, fun _ _ => rfl, lowR.rf _ _⟩, hr⟩
    · rw [c_Finder_ask_l2_s]
      simp only [fg_5_5 hC.1, Option.bind_some, hle, if_true]
    · rw [m_ask_l2_s]
      simp only [hle2, if_true]
  | succ m ih =>
    intro f1 f2 n st I A Q ms hn n0 hf1 hf2 hC hR hr h8 h8b
    obtain ⟨f1, rfl⟩ : ∃ f, f1 = f + 1 := ⟨f1 - 1, by omega⟩
    obtain ⟨f2, rfl⟩ : ∃ f, f2 = f + 1 := ⟨f2 - 1, by omega⟩
    have h32 := hR.2.2.1
    have kn : (n + 1).toInt = n.toInt + 1 := by rw [i32add (by omega) (by omega)]; omega
    have hin : vp_in n 32 := vp_of (by omega) (by omega)
    have hin33 : rd (ms.2.2.1 8) 33 n = some (ms.2.2.1 8 n.toNatClampNeg) := rd_in (vp_of (by omega) (by omega))
    obtain ⟨p, c, d, L, y1, y2, y3, y4⟩ := hR.2.2.2 n.toNatClampNeg (by rw [tnn]; omega)
    have q1 : (n + 1).toInt + m = (I 6).toInt := by omega
    have q2 : 0 ≤ (n + 1).toInt := by omega
    have r50 := hr.2.1
    have r532 := hr.2.2.1
    have hlt : n.toInt < (I 6).toInt := by omega
    have hle : ¬ I 6 ≤ n := fun e9 => by have := i32le.mp e9; omega
    have hle2 : ¬ ms.1 7 ≤ n := by rw [← hR.1]; exact hle
    have hm5 := hC.1.fl (i := 5) rfl
    rcases h8b with h80 | h81
    · have g87 : gI K st (q 5) 8 7 = some 0 := by rw [fg_5_7 hC.1, h80]
      have hm9 : ms.1 9 = 0 := by rw [← h8]; exact h80
      by_cases h5 : (I 5).toInt = 32
      · -- one too many
        have hk5 : ¬ I 5 < 32 := fun e9 => by have := i32lt.mp e9; omega
        have hm10 : ms.1 10 = 32 := by rw [← hr.1]; exact i32eq (by rw [h5]; rfl)
        obtain ⟨s1, e1, e2, hF1⟩ := fw_5_7 hC.1 1
        have l1 : le K st s1 := by rw [e2]; exact nb_le hC.2.2 hm5.1 hm5.2 rfl
        have c1 : Cx K s1 q cw (upd I 8 1) A R Q := ⟨hF1, by rw [e2]; exact hC.2.1, by rw [e2]; exact nb_Rz hC.2.2 hm5.1 hm5.2 rfl rfl⟩
        have hsr : sr ms (upd ms.1 9 1, ms.2.1, ms.2.2.1, ms.2.2.2) := ⟨rfl, rfl, rfl, rfl, rfl, rfl⟩
        have hRR : RR Zd K s1 (upd I 8 1) Q (upd ms.1 9 1, ms.2.1, ms.2.2.1, ms.2.2.2) := ⟨hR.1, hR.2.1, hR.2.2.1, fun i hi => by
          obtain ⟨p9, c9, d9, L9, g1, g2, g3, g4⟩ := hR.2.2.2 i hi
          exact ⟨p9, c9, d9, L9, g1, g2, g3, g4.sr l1 hsr⟩⟩
        obtain ⟨t1, I1, A1, Q1, m1, n1, n2, i1, i2, i3, i4⟩ := ih f1 f2 (n + 1) s1 (upd I 8 1) A Q (upd ms.1 9 1, ms.2.1, ms.2.2.1, ms.2.2.2) q1 q2 (Nat.lt_of_succ_lt_succ hf1) (Nat.lt_of_succ_lt_succ hf2) c1 hRR (hr.mono l1 hsr rfl rfl rfl rfl) rfl (Or.inr rfl)
        have hst : KQ K st q cw I A R Q ms s1 (upd I 8 1) A Q (upd ms.1 9 1, ms.2.1, ms.2.2.1, ms.2.2.2) := ⟨c1, l1, by rw [e2]; rfl, ⟨rfl, Or.inr rfl⟩, fun k x y z w => upd_ne w, fun _ _ => rfl, fun _ _ _ _ => rfl, fun k x y z w => upd_ne z, rfl, fun _ _ _ _ _ _ => rfl, fun _ _ => rfl, lowR.sr hsr⟩
        refine ⟨t1, I1, A1, Q1, m1, n1, n2, ?_, ?_, hst.tr i3, i4⟩
        · rw [c_Finder_ask_l2_s]
          simp only [fg_5_5 hC.1, Option.bind_some, hle, if_false, g87, if_true, fg_5_2 hC.1, fr_14 hC.1 hin, y1, fo_5 hC.1, c_Finder_keep, fg_5_4 hC.1, hk5, e1]
          exact i1
        · rw [m_ask_l2_s]
          simp only [hle2, if_false, hm9, if_true, hm10, Option.bind_some, b1z, h10]
          exact i2
      · -- kept
        have hk5 : I 5 < 32 := i32lt.mpr (by rw [N.2.2.2.2.2.2.2.2.2.2.2.1]; omega)
        have hm10 : ¬ ms.1 10 = 32 := fun e9 => by rw [← hr.1] at e9; exact h5 (by rw [e9]; decide)
        obtain ⟨w, hw⟩ : ∃ w : Nat, (I 5).toInt = w := ⟨(I 5).toInt.toNat, by omega⟩
        have hin5 : vp_in (I 5) 32 := vp_of (by omega) (by omega)
        have t5 : (I 5).toNatClampNeg = w := by rw [tnn]; omega
        have k5 : (I 5 + 1).toInt = (I 5).toInt + 1 := by rw [i32add (by rw [N.2.1]; omega) (by rw [N.2.1]; omega), N.2.1]
        have hinm : vp_in (ms.1 10) 32 := by rw [← hr.1]; exact hin5
        have tm : (ms.1 10).toNatClampNeg = w := by rw [← hr.1]; exact t5
        have h48 : (48 : Int32).toInt = 48 := by decide
        have k48 : (48 + ms.1 10).toInt = 48 + w := by rw [← hr.1, i32add (by rw [h48]; omega) (by rw [h48]; omega), h48, hw]
        obtain ⟨xb, hxb1, hxb2⟩ := at_row (r := 48 + ms.1 10) (by omega) (by omega)
        have hxb : xb.toInt = (24 * (48 + w) : Nat) := by rw [hxb2, k48]; omega
        have hob : ∀ b9, some p = some b9 → ∃ fs, ob1 st b9 11 fs := fun b9 e => by cases e; exact tree_ob hk y4.1
        obtain ⟨s1, e1, e2, hF1⟩ := fa_12 hC.1 hin5 (some p) hob
        have hm12 := hC.1.fl (i := 12) rfl
        have l1 : le K st s1 := by rw [e2]; exact nb_le hC.2.2 hm12.1 hm12.2 rfl
        have z1 : Rz K s1 q := by rw [e2]; exact nb_Rz hC.2.2 hm12.1 hm12.2 rfl rfl
        obtain ⟨s2, f1', f2', hF2⟩ := fa_13 hF1 hin5 id
        have hm13 := hF1.fl (i := 13) rfl
        have l2 : le K s1 s2 := by rw [f2']; exact nb_le z1 hm13.1 hm13.2 rfl
        have z2 : Rz K s2 q := by rw [f2']; exact nb_Rz z1 hm13.1 hm13.2 rfl rfl
        obtain ⟨s3, g1', g2', hF3⟩ := fw_5_4 hF2 (I 5 + 1)
        have hm5' := hF2.fl (i := 5) rfl
        have l3 : le K st s3 := l1.tr (l2.tr (by rw [g2']; exact nb_le z2 hm5'.1 hm5'.2 rfl))
        have c3 : Cx K s3 q cw (upd I 5 (I 5 + 1)) (va_up A 1 (upd (A 1) (I 5).toNatClampNeg id)) R (va_up Q 1 (va_up (Q 1) (I 5).toNatClampNeg (some p))) := ⟨hF3, by rw [g2', f2', e2]; exact hC.2.1, by rw [g2']; exact nb_Rz z2 hm5'.1 hm5'.2 rfl rfl⟩
        -- the copy
        have hLok := tree_ok _ _ _ y4.1
        have hl24 := y4.2.2.1
        have hl11 := y4.2.2.2
        have hsr0 : sr ms (upd ms.1 9 0, ms.2.1, va_up ms.2.2.1 10 (upd (ms.2.2.1 10) w id), ms.2.2.2) := ⟨by dsimp only; rw [va_up_ne _ _ (by decide)], by dsimp only; rw [va_up_ne _ _ (by decide)], rfl, rfl, rfl, rfl⟩
        have hspan := (y4.span hk y2).1
        have hsp : (Int32.ofNat L.length).toInt = L.length := ofNat_i (by omega)
        obtain ⟨mc, hc1, hc2⟩ := copy_ok (ms := (upd ms.1 9 0, ms.2.1, va_up ms.2.2.1 10 (upd (ms.2.2.1 10) w id), ms.2.2.2)) y2 hxb hsp (by omega) (by omega) (Or.inl (by omega)) (row_nar (y4.2.1.same hsr0) hLok (by omega))
        have hcp := hc2
        obtain ⟨d1, d2, d3, d4, d5, d6⟩ := hc2
        have hlow : lowR 1152 ms (upd mc.1 10 (mc.1 10 + 1), mc.2.1, mc.2.2.1, mc.2.2.2) := by
          intro j hj
          refine ⟨?_, ?_, fun k9 hk9 => ?_⟩
          · rw [d5 1 (Or.inl rfl) j, if_neg (by omega)]
            dsimp only
            rw [va_up_ne _ _ (by decide)]
          · rw [d5 2 (Or.inr rfl) j, if_neg (by omega)]
            dsimp only
            rw [va_up_ne _ _ (by decide)]
          · rw [d6 k9 hk9 j, if_neg (by omega)]
        have hints : ∀ k9, k9 ≠ 9 → k9 ≠ 10 → upd mc.1 10 (mc.1 10 + 1) k9 = ms.1 k9 := fun k9 x1 x2 => by
          rw [upd_ne x2, d1]
          dsimp only
          rw [upd_ne x1]
        have harr : ∀ k9, k9 ≠ 1 → k9 ≠ 2 → k9 ≠ 10 → mc.2.2.1 k9 = ms.2.2.1 k9 := fun k9 x1 x2 x3 => by
          rw [d3 k9 x1 x2]
          dsimp only
          rw [va_up_ne _ _ x3]
        have hm9' : upd mc.1 10 (mc.1 10 + 1) 9 = 0 := by
          rw [upd_ne (by decide), d1]
          dsimp only
          rw [upd_self]
        have hm10' : mc.1 10 = ms.1 10 := by
          rw [d1]
          dsimp only
          rw [upd_ne (by decide)]
        have hRR : RR Zd K s3 (upd I 5 (I 5 + 1)) (va_up Q 1 (va_up (Q 1) (I 5).toNatClampNeg (some p))) (upd mc.1 10 (mc.1 10 + 1), mc.2.1, mc.2.2.1, mc.2.2.2) := by
          refine ⟨?_, ?_, ?_, fun i hi => ?_⟩
          · dsimp only
            rw [upd_ne (by decide), hints 7 (by decide) (by decide)]; exact hR.1
          · rw [upd_ne (by decide)]; exact hR.2.1
          · rw [upd_ne (by decide)]; exact hR.2.2.1
          · rw [upd_ne (by decide)] at hi
            obtain ⟨p9, c9, d9, L9, x1, x2, x3, x4⟩ := hR.2.2.2 i hi
            refine ⟨p9, c9, d9, L9, by rw [va_up_ne _ _ (by decide)]; exact x1, ?_, x3, x4.lowR l3 hlow⟩
            dsimp only
            rw [harr 8 (by decide) (by decide) (by decide)]; exact x2
        have hrr : Rr Zd K s3 (upd I 5 (I 5 + 1)) (va_up A 1 (upd (A 1) (I 5).toNatClampNeg id)) (va_up Q 1 (va_up (Q 1) (I 5).toNatClampNeg (some p))) (upd mc.1 10 (mc.1 10 + 1), mc.2.1, mc.2.2.1, mc.2.2.2) := by
          refine ⟨?_, ?_, ?_, fun i hi => ?_⟩
          · dsimp only
            rw [upd_self, upd_self, hm10', hr.1]
          · rw [upd_self, k5]; omega
          · rw [upd_self, k5]; omega
          · rw [upd_self, k5] at hi
            rw [va_up_self, va_up_self, t5]
            dsimp only
            rw [d3 10 (by decide) (by decide)]
            dsimp only
            rw [va_up_self]
            by_cases ei : i = w
            · subst ei
              rw [upd_self, upd_self, va_up_self]
              have hx1 : rowIs mc (24 * (48 + i)) L := (y4.2.1.same hsr0).cp hcp
              exact ⟨rfl, p, rfl, rfl, L, tree_le (l3.tree d p L y4.1) y3, hx1.same ⟨rfl, rfl, rfl, rfl, rfl, rfl⟩, hl24⟩
            · rw [upd_ne ei, upd_ne ei, va_up_ne _ _ ei]
              obtain ⟨z1, a9, z2, z3, L9, z4, z5, z6⟩ := hr.2.2.2 i (by omega)
              have hx1 : rowIs mc (24 * (48 + i)) L9 := (z5.same hsr0).cp_ne hcp (Or.inl (by omega))
              exact ⟨z1, a9, z2, z3, L9, l3.tree 5 a9 L9 z4, hx1.same ⟨rfl, rfl, rfl, rfl, rfl, rfl⟩, z6⟩
        obtain ⟨t1, I1, A1, Q1, m1, n1, n2, i1, i2, i3, i4⟩ := ih f1 f2 (n + 1) s3 _ _ _ _ (by rw [upd_ne (by decide)]; exact q1) q2 (Nat.lt_of_succ_lt_succ hf1) (Nat.lt_of_succ_lt_succ hf2) c3 hRR hrr (by dsimp only; rw [hm9', upd_ne (by decide)]; exact h80) (Or.inl (by rw [upd_ne (by decide)]; exact h80))
        have hst : KQ K st q cw I A R Q ms s3 (upd I 5 (I 5 + 1)) (va_up A 1 (upd (A 1) (I 5).toNatClampNeg id)) (va_up Q 1 (va_up (Q 1) (I 5).toNatClampNeg (some p))) (upd mc.1 10 (mc.1 10 + 1), mc.2.1, mc.2.2.1, mc.2.2.2) := ⟨c3, l3, by rw [g2', f2', e2]; rfl, ⟨by dsimp only; rw [hm9', upd_ne (by decide)]; exact h80, Or.inl (by rw [upd_ne (by decide)]; exact h80)⟩, fun k9 x1 _ _ _ => upd_ne x1, fun k9 x1 => va_up_ne _ _ x1, fun k9 x1 _ _ => va_up_ne _ _ x1, fun k9 _ _ x3 x4 => hints k9 x3 x4, d2, fun k9 x1 x2 _ _ x5 => harr k9 x1 x2 x5, fun k9 x1 => d4 k9 x1, hlow⟩
        refine ⟨t1, I1, A1, Q1, m1, n1, n2, ?_, ?_, hst.tr i3, i4⟩
        · rw [c_Finder_ask_l2_s]
          simp only [fg_5_5 hC.1, Option.bind_some, hle, if_false, g87, if_true, fg_5_2 hC.1, fr_14 hC.1 hin, y1, fo_5 hC.1, c_Finder_keep, fg_5_4 hC.1, hk5, fg_5_0 hC.1, e1, fg_5_1 hF1, fg_5_4 hF1, f1', fg_5_4 hF2, g1']
          exact i1
        · rw [m_ask_l2_s]
          simp only [hle2, if_false, hm9, if_true, hm10, Option.bind_some, b0z, ix_in hinm, tm, hin33, hxb1, hspan, hc1]
          exact i2
    · have g87 : gI K st (q 5) 8 7 = some 1 := by rw [fg_5_7 hC.1, h81]
      have hm9 : ¬ ms.1 9 = 0 := by rw [← h8, h81]; exact h10
      refine ⟨st, I, A, Q, ms, n, n, ?_, ?_, ⟨hC, le.rf K st, rfl, ⟨h8, Or.inr h81⟩, fun _ _ _ _ _ => rfl, fun _ _ => rfl, fun _ _ _ _ => rfl, fun _ _ _ _ _ => rfl, rfl, fun _ _ _ _ _ _ => rfl, fun _ _ => rfl, lowR.rf _ _⟩, hr⟩
      · rw [c_Finder_ask_l2_s]
        simp only [fg_5_5 hC.1, Option.bind_some, hle, if_false, g87, h10]
      · rw [m_ask_l2_s]
        simp only [hle2, hm9, if_false]
end KEEP
