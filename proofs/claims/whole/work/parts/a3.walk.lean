/-! Finding: a segment over a row; class and model. -/
section WALK
variable {Zd : Nat → Nat} {K : KE} {q : Nat → Nat} {cw : Nat} {A : Nat → Nat → Int32} {R : Nat → Option Nat} {gJ bI eI dp : Int32} {b e : Nat}
/-- the row that a segment begins with -/
def RR (Zd : Nat → Nat) (K : KE) (st : CS) (I : Nat → Int32) (Q : Nat → Nat → Option Nat) (ms : MS) : Prop := I 6 = ms.1 7 ∧ 0 ≤ (I 6).toInt ∧ (I 6).toInt ≤ 32 ∧ ∀ i : Nat, (i : Int) < (I 6).toInt → ∃ p c d L, Q 2 i = some p ∧ (ms.2.2.1 8 i).toInt = (c : Nat) ∧ d ≤ 5 ∧ vC Zd K st ms d p c L
theorem RR.fk {st st1 : CS} {I I1 : Nat → Int32} {Q Q1 : Nat → Nat → Option Nat} {ms ms1 : MS} (h : RR Zd K st I Q ms) (hf : FK Zd K st q cw I A R Q ms st1 I1 Q1 ms1) : RR Zd K st1 I1 Q1 ms1 := by
  obtain ⟨h1, h2, h3, h4⟩ := h
  have i6 := hf.2.2.2.2.1 6 (by decide) (by decide)
  have q2 := hf.2.2.2.2.2.1 2 (by decide)
  have m7 := hf.2.2.2.2.2.2.1 7 (by decide) (by decide)
  have a8 := hf.2.2.2.2.2.2.2.2.1 8 (by decide)
  refine ⟨by rw [i6, m7]; exact h1, by rw [i6]; exact h2, by rw [i6]; exact h3, fun i hi => ?_⟩
  rw [i6] at hi
  obtain ⟨p, c, d, L, g1, g2, g3, g4⟩ := h4 i hi
  exact ⟨p, c, d, L, by rw [q2]; exact g1, by rw [a8]; exact g2, g3, g4.sr hf.2.1 hf.sr⟩
theorem l5_stop {ms : MS} {kI x66 e57 v : Int32} (h : rd (ms.2.2.1 8) 33 kI = some x66) (hle : x66 + e57 ≤ v) (f : Nat) : m_ask_l5 gJ kI e57 (f + 1) (v, ms) = some (v, ms) := by
  rw [m_ask_l5_s]
  simp only [h, Option.bind_some, hle, if_true]
/-- the selectors of a segment, without whose turn it is -/
def DC (K : KE) (st : CS) (I : Nat → Int32) (R : Nat → Option Nat) (ms : MS) (gJ bI eI : Int32) (b e : Nat) : Prop := bI.toInt = b ∧ eI.toInt = e ∧ b ≤ e ∧ e ≤ 8 ∧ (∀ j, b ≤ j → j < e → SO K st I R ms j) ∧ rd (ms.2.2.1 5) 8 gJ = some eI ∧ (if gJ = (0 : Int32) then (some (0 : Int32)) else ((some (gJ - 1)).bind fun y83 => (rd (ms.2.2.1 5) 8 y83).bind fun x84 => some x84)) = some bI
theorem DC.fk {st st1 : CS} {I I1 : Nat → Int32} {Q Q1 : Nat → Nat → Option Nat} {ms ms1 : MS} (h : DC K st I R ms gJ bI eI b e) (hf : FK Zd K st q cw I A R Q ms st1 I1 Q1 ms1) : DC K st1 I1 R ms1 gJ bI eI b e := by
  obtain ⟨h1, h2, h3, h4, h5, h6, h7⟩ := h
  refine ⟨h1, h2, h3, h4, fun j a c => (h5 j a c).fk hf, ?_, ?_⟩
  · rw [hf.2.2.2.2.2.2.2.2.1 5 (by decide)]; exact h6
  · rw [hf.2.2.2.2.2.2.2.2.1 5 (by decide)]; exact h7
/-- one value of the row -/
theorem one_lock (hk : kc Zd K) {st : CS} {I : Nat → Int32} {Q : Nat → Nat → Option Nat} {ms : MS} (h : Cx K st q cw I A R Q) (hf : FR Zd K st I Q ms) (hD : DC K st I R ms gJ bI eI b e) (hdp : rd (ms.2.2.1 4) 9 gJ = some dp) {n : Int32} {p c d : Nat} {L : List Nd} (hn : vp_in n 32) (hp : Q 2 n.toNatClampNeg = some p) (hcell : (ms.2.2.1 8 n.toNatClampNeg).toInt = (c : Nat)) (hd : d ≤ 5) (hv : vC Zd K st ms d p c L) : ∃ st1 I1 Q1 ms1 e57 v1, ((c_Finder_visit Zd K (q 5) (some (q 4)) bI eI (some p) st).bind fun st47 => (if dp = (0 : Int32) then (some st47) else ((gQ K st47 (q 5) 8 2).bind fun x53 => x53.bind fun a54z => (rQ K st47 a54z 5 n).bind fun x55 => (isO K st47 (q 5) 8).bind fun _ => (c_Finder_visitParts Zd K 10 (q 5) (some (q 4)) bI eI x55 (0 : Int32) st47).bind fun st57 => some st57))) = some st1 ∧ (if dp = (0 : Int32) then (some (1 : Int32)) else ((rd (ms.2.2.1 8) 33 n).bind fun x85 => (rd (ms.2.2.1 2) 2100 x85).bind fun x86 => some x86)) = some e57 ∧ m_ask_l5 gJ n e57 4096 (ms.2.2.1 8 n.toNatClampNeg, ms) = some (v1, ms1) ∧ FK Zd K st q cw I A R Q ms st1 I1 Q1 ms1 := by
  have N := nums
  have h33 : rd (ms.2.2.1 8) 33 n = some (ms.2.2.1 8 n.toNatClampNeg) := rd_in (fun e9 => hn (e9.imp (fun x => x) (fun x => Nat.le_trans (by decide) x)))
  obtain ⟨d1, rfl⟩ := hv.pos
  obtain ⟨sp1, sp2⟩ := hv.span hk.2.2 hcell
  have hl24 := hv.2.2.1
  have hl11 := hv.2.2.2
  have hDB : DB K st I R ms gJ bI eI n (ms.2.2.1 8 n.toNatClampNeg) b e := ⟨hD.1, hD.2.1, hD.2.2.1, hD.2.2.2.1, hD.2.2.2.2.1, hD.2.2.2.2.2.1, hD.2.2.2.2.2.2, h33⟩
  by_cases h0 : dp = 0
  · have hX : (ms.2.2.1 8 n.toNatClampNeg + 1).toInt = (c + 1 : Nat) := inc_of hcell (by omega)
    obtain ⟨t1, I1, Q1, m1, a1, a2, a3⟩ := nd_lock (Zd := Zd) (e57 := 1) hk h hf hDB hd hv hcell (nlt_of hX hcell (by omega))
    have h33' : rd (m1.2.2.1 8) 33 n = some (ms.2.2.1 8 n.toNatClampNeg) := by rw [a3.2.2.2.2.2.2.2.2.1 8 (by decide)]; exact h33
    refine ⟨t1, I1, Q1, m1, 1, ms.2.2.1 8 n.toNatClampNeg + 1, ?_, if_pos h0, ?_, a3⟩
    · rw [a1, Option.bind_some, if_pos h0]
    · have := a2 4095
      rw [show (4096 : Nat) = 4095 + 1 from rfl, this, show (4095 : Nat) = 4094 + 1 from rfl, l5_stop h33' (Int32.le_refl _)]
  · have hsp : (Int32.ofNat L.length).toInt = L.length := ofNat_i (by omega)
    have hX : (ms.2.2.1 8 n.toNatClampNeg + Int32.ofNat L.length).toInt = (c + L.length : Nat) := by rw [i32add (by rw [hcell, hsp]; omega) (by rw [hcell, hsp]; omega), hcell, hsp]; omega
    obtain ⟨t1, I1, Q1, m1, a1, a2, a3⟩ := nd_lock (Zd := Zd) (e57 := Int32.ofNat L.length) hk h hf hDB hd hv hcell (nlt_of hX hcell (by omega))
    obtain ⟨t2, I2, Q2, m2, v2, b1, b2, b3, b4⟩ := dp_l (Zd := Zd) (q := q) (cw := cw) (A := A) (R := R) (e57 := Int32.ofNat L.length) hk hX (by omega) (d1 + 1) 10 p c L 0 (ms.2.2.1 8 n.toNatClampNeg + 1) (4096 - L.length) t1 I1 Q1 m1 hd (by omega) (by decide) (by rw [N.1]; omega) a3.1 a3.2.2.2.1 (hDB.fk a3) (hv.sr a3.2.1 a3.sr) (inc_of hcell (by omega)) (Nat.le_refl _)
    have a34 := a3.tr b4
    have h33' : rd (m2.2.2.1 8) 33 n = some (ms.2.2.1 8 n.toNatClampNeg) := by rw [a34.2.2.2.2.2.2.2.2.1 8 (by decide)]; exact h33
    have hq2 : Q1 2 = Q 2 := a3.2.2.2.2.2.1 2 (by decide)
    refine ⟨t2, I2, Q2, m2, Int32.ofNat L.length, v2, ?_, ?_, ?_, a34⟩
    · rw [a1, Option.bind_some, if_neg h0, fg_5_2 a3.1.1, Option.bind_some, Option.bind_some, fr_14 a3.1.1 hn, hq2, hp, Option.bind_some, fo_5 a3.1.1, Option.bind_some, b1, Option.bind_some]
    · rw [if_neg h0, h33, Option.bind_some, sp1, Option.bind_some]
    · have e1 : (4096 : Nat) = 4096 - L.length + (L.length - 1) + 1 := by omega
      have e2 : 4096 - L.length = 4096 - L.length - 1 + 1 := by omega
      have hle : ms.2.2.1 8 n.toNatClampNeg + Int32.ofNat L.length ≤ v2 := i32le.mpr (by rw [hX, b2]; exact Int.le_refl _)
      rw [show m_ask_l5 gJ n (Int32.ofNat L.length) 4096 (ms.2.2.1 8 n.toNatClampNeg, ms) = m_ask_l5 gJ n (Int32.ofNat L.length) (4096 - L.length + (L.length - 1) + 1) (ms.2.2.1 8 n.toNatClampNeg, ms) from by rw [← e1], a2, b3, e2, l5_stop h33' hle]
theorem many_one (hk : kc Zd K) {st : CS} {I : Nat → Int32} {Q : Nat → Nat → Option Nat} {ms : MS} (h : Cx K st q cw I A R Q) (hf : FR Zd K st I Q ms) (hD : DC K st I R ms gJ bI eI b e) (hdp : rd (ms.2.2.1 4) 9 gJ = some dp) (hm : ms.1 9 = 1) {n : Int32} {p c d : Nat} {L : List Nd} (hn : vp_in n 32) (hp : Q 2 n.toNatClampNeg = some p) (hcell : (ms.2.2.1 8 n.toNatClampNeg).toInt = (c : Nat)) (hd : d ≤ 5) (hv : vC Zd K st ms d p c L) : ∃ e57 v1, (if dp = (0 : Int32) then (some (1 : Int32)) else ((rd (ms.2.2.1 8) 33 n).bind fun x85 => (rd (ms.2.2.1 2) 2100 x85).bind fun x86 => some x86)) = some e57 ∧ m_ask_l5 gJ n e57 4096 (ms.2.2.1 8 n.toNatClampNeg, ms) = some (v1, ms) := by
  obtain ⟨st1, I1, Q1, ms1, e57, v1, a1, a2, a3, a4⟩ := one_lock hk h hf hD hdp hn hp hcell hd hv
  rw [a4.2.2.2.2.2.2.2.2.2.2 hm] at a3
  exact ⟨e57, v1, a2, a3⟩
theorem row_l (hk : kc Zd K) : ∀ (m f1 f2 : Nat) (n : Int32) (st : CS) (I : Nat → Int32) (Q : Nat → Nat → Option Nat) (ms : MS), n.toInt + m = (I 6).toInt → 0 ≤ n.toInt → m < f1 → m < f2 → Cx K st q cw I A R Q → FR Zd K st I Q ms → RR Zd K st I Q ms → DC K st I R ms gJ bI eI b e → rd (ms.2.2.1 4) 9 gJ = some dp → ∃ st1 I1 Q1 ms1 n1 n2, c_Finder_walk_l1 Zd K (q 5) (some (q 4)) bI eI dp f1 (n, st) = some (n1, st1) ∧ m_ask_l3 gJ f2 (n, ms) = some (n2, ms1) ∧ FK Zd K st q cw I A R Q ms st1 I1 Q1 ms1 := by
  have N := nums
  intro m
  induction m with
  | zero =>
    intro f1 f2 n st I Q ms hn n0 hf1 hf2 hC hF hR hD hdp
    obtain ⟨f1, rfl⟩ : ∃ f, f1 = f + 1 := ⟨f1 - 1, by omega⟩
    obtain ⟨f2, rfl⟩ : ∃ f, f2 = f + 1 := ⟨f2 - 1, by omega⟩
    have hle : I 6 ≤ n := i32le.mpr (by omega)
    have hle2 : ms.1 7 ≤ n := by rw [← hR.1]; exact hle
    refine ⟨st, I, Q, ms, n, n, ?_, ?_, FK.rf hC hF⟩
    · rw [c_Finder_walk_l1_s]
      simp only [fg_5_5 hC.1, Option.bind_some, hle, if_true]
    · rw [m_ask_l3_s]
      simp only [hle2, if_true]
  | succ m ih =>
    intro f1 f2 n st I Q ms hn n0 hf1 hf2 hC hF hR hD hdp
    obtain ⟨f1, rfl⟩ : ∃ f, f1 = f + 1 := ⟨f1 - 1, by omega⟩
    obtain ⟨f2, rfl⟩ : ∃ f, f2 = f + 1 := ⟨f2 - 1, by omega⟩
    have h32 := hR.2.2.1
    have kn : (n + 1).toInt = n.toInt + 1 := by rw [i32add (by omega) (by omega)]; omega
    have hin : vp_in n 32 := vp_of (by omega) (by omega)
    have hin33 : rd (ms.2.2.1 8) 33 n = some (ms.2.2.1 8 n.toNatClampNeg) := rd_in (vp_of (by omega) (by omega))
    obtain ⟨p, c, d, L, y1, y2, y3, y4⟩ := hR.2.2.2 n.toNatClampNeg (by rw [tnn]; omega)
    have q1 : (n + 1).toInt + m = (I 6).toInt := by omega
    have q2 : 0 ≤ (n + 1).toInt := by omega
    have hlt : n.toInt < (I 6).toInt := by omega
    have hle : ¬ I 6 ≤ n := fun e9 => by have := i32le.mp e9; omega
    have hle2 : ¬ ms.1 7 ≤ n := by rw [← hR.1]; exact hle
    rcases hF.2.2.2.2.1 with h80 | ⟨h81, h7⟩
    · obtain ⟨t1, I1, Q1, m1, e57, v1, a1, a2, a3, a4⟩ := one_lock hk hC hF hD hdp hin y1 y2 y3 y4
      have i6 := a4.2.2.2.2.1 6 (by decide) (by decide)
      obtain ⟨t2, I2, Q2, m2, n1, n2, b1, b2, b3⟩ := ih f1 f2 (n + 1) t1 I1 Q1 m1 (by rw [i6]; exact q1) q2 (Nat.lt_of_succ_lt_succ hf1) (Nat.lt_of_succ_lt_succ hf2) a4.1 a4.2.2.2.1 (hR.fk a4) (hD.fk a4) (by rw [a4.2.2.2.2.2.2.2.2.1 4 (by decide)]; exact hdp)
      have g87 : gI K st (q 5) 8 7 = some 0 := by rw [fg_5_7 hC.1, h80]
      obtain ⟨st47, z1, z2⟩ := ob a1
      refine ⟨t2, I2, Q2, m2, n1, n2, ?_, ?_, a4.tr b3⟩
      · rw [c_Finder_walk_l1_s]
        simp only [fg_5_5 hC.1, Option.bind_some, hle, if_false, g87, if_true, fg_5_2 hC.1, fr_14 hC.1 hin, y1, fo_5 hC.1, z1, z2]
        exact b1
      · rw [m_ask_l3_s]
        simp only [hin33, Option.bind_some] at a2
        simp only [hle2, if_false, hdp, Option.bind_some, hin33, a2, a3]
        exact b2
    · -- too many already
      have hm1 : ms.1 9 = 1 := by rw [← hF.2.2.2.1]; exact h81
      obtain ⟨e57, v1, a2, a3⟩ := many_one hk hC hF hD hdp hm1 hin y1 y2 y3 y4
      obtain ⟨t2, I2, Q2, m2, n1, n2, b1, b2, b3⟩ := ih 4096 f2 (n + 1) st I Q ms q1 q2 (by omega) (Nat.lt_of_succ_lt_succ hf2) hC hF hR hD hdp
      rw [b3.2.2.2.2.2.2.2.2.2.2 hm1] at b2
      have g87 : gI K st (q 5) 8 7 = some 1 := by rw [fg_5_7 hC.1, h81]
      refine ⟨st, I, Q, ms, n, n2, ?_, ?_, FK.rf hC hF⟩
      · rw [c_Finder_walk_l1_s]
        simp only [fg_5_5 hC.1, Option.bind_some, hle, if_false, g87, show ¬ ((1 : Int32) = 0) from by decide]
      · rw [m_ask_l3_s]
        simp only [hin33, Option.bind_some] at a2
        simp only [hle2, if_false, hdp, Option.bind_some, hin33, a2, a3]
        exact b2
end WALK
