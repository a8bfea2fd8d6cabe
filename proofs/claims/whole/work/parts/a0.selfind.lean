/-! Finding: a selector at a value; class and model. -/
section SELFIND
variable {Zd : Nat → Nat} {K : KE} {st : CS} {ms : MS} {q : Nat → Nat} {cw : Nat} {I : Nat → Int32} {A : Nat → Nat → Int32} {R : Nat → Option Nat} {Q : Nat → Nat → Option Nat}
theorem cnt_eq {m n : Int32} {k : Nat} (h1 : m.toInt = k) (h2 : n.toInt = k) : m = n := i32eq (by rw [h1, h2])
theorem pcAt9 (c : Nat) (ks : List Kd) (i : Int) : (elC ks i = none ∧ (∀ r, elP (pc c ks) i r = r)) ∨ ∃ z ∈ pc c ks, elC ks i = some z.1.2.1 ∧ ∀ r, elP (pc c ks) i r = Int32.ofNat z.2 := by
  unfold elC elP
  by_cases e : 0 ≤ i
  · rw [if_pos e]
    cases hz : (pc c ks)[i.toNat]? with
    | none =>
      left
      have : ks[i.toNat]? = none := by
        rw [← pc_get ks c, List.getElem?_map, hz]
        rfl
      refine ⟨by rw [this]; rfl, fun r => ?_⟩
      rw [if_pos e]
    | some z =>
      right
      have : ks[i.toNat]? = some z.1 := by
        rw [← pc_get ks c, List.getElem?_map, hz]
        rfl
      refine ⟨z, List.mem_of_getElem? hz, by rw [this]; rfl, fun r => ?_⟩
      rw [if_pos e]
  · left
    rw [if_neg e]
    exact ⟨rfl, fun r => by rw [if_neg e]⟩
theorem sel_find (hk : kc Zd K) (h : Cx K st q cw I A R Q) (hf : FR Zd K st I Q ms) {j : Nat} (hj : j < 8) (hso : SO K st I R ms j) {d p c : Nat} {L : List Nd} (hd : d + 1 ≤ 5) (hv : vC Zd K st ms (d + 1) p c L) {s x : Int32} (hs : s.toInt = j) (hx : x.toInt = c) : ∃ st1 I1 Q1 ms1, c_Finder_select Zd K (q 5) (some (q (200 + j))) (some p) st = some st1 ∧ m_selects s x ms = some ms1 ∧ FK Zd K st q cw I A R Q ms st1 I1 Q1 ms1 := by
  obtain ⟨o, num, cs, ns, fst, ks, ⟨k, fs, u1, u2, u3, u4⟩, hcs, hlen, hok, hL, g1, g2, g3, g4⟩ := vC.node hk.2.2 hv
  have hob := h.1.sl hj
  have r2 : gI K st (q (200 + j)) 7 2 = some (I (102 + 4 * j)) := gI_ob (k := 2) hob rfl
  have r3 : gQ K st (q (200 + j)) 7 3 = some (R (10 + j)) := gQ_ob (k := 3) hob rfl
  have r4 : gI K st (q (200 + j)) 7 4 = some (I (103 + 4 * j)) := gI_ob (k := 4) hob rfl
  have hL24 := hv.2.2.1
  have hL11 := hv.2.2.2
  have hLl : L.length = 1 + (kL ks).flatten.length := by rw [hL, List.length_cons, Nat.add_comm]
  have hin : vp_in x 2100 := vp_of (by omega) (by omega)
  have tx : x.toNatClampNeg = c := by rw [tnn]; omega
  have hins : vp_in s 8 := vp_of (by omega) (by omega)
  have ts : s.toNatClampNeg = j := by rw [tnn]; omega
  have m1 : rd (ms.2.2.1 1) 2100 x = some o := by rw [rd_in hin, tx, g1]
  have m2 : rd (ms.2.2.1 2) 2100 x = some (Int32.ofNat L.length) := by rw [rd_in hin, tx, g2]
  have m6 : rd (ms.2.2.1 6) 8 s = some (ms.2.2.1 6 j) := by rw [rd_in hins, ts]
  have m7 : rd (ms.2.2.1 7) 8 s = some (ms.2.2.1 7 j) := by rw [rd_in hins, ts]
  have hsp : (Int32.ofNat L.length).toInt = L.length := ofNat_i (by omega)
  have hE : (x + Int32.ofNat L.length).toInt = (c + L.length : Nat) := by rw [i32add (by omega) (by omega)]; omega
  have hx1 : (x + 1).toInt = (c + 1 : Nat) := by rw [i32add (by rw [show (1 : Int32).toInt = 1 from by decide]; omega) (by rw [show (1 : Int32).toInt = 1 from by decide]; omega), show (1 : Int32).toInt = 1 from by decide]; omega
  have hEE : c + 1 + (kL ks).flatten.length = c + L.length := by omega
  have h21 : c + L.length ≤ 2100 := by omega
  have isp : isO K st p 11 = some () := isO_cA u1
  have h10 : ¬ ((1 : Int32) = 0) := by decide
  have h20 : ¬ ((2 : Int32) = 0) := by decide
  have h21' : ¬ ((2 : Int32) = 1) := by decide
  have h12 : ¬ ((1 : Int32) = 2) := by decide
  have h02 : ¬ ((0 : Int32) = 2) := by decide
  have h01 : ¬ ((0 : Int32) = 1) := by decide
  have hrr := FK.rf h hf
  have k14 := kd_14 hk u4 (i := 6) (by decide)
  have k13 := kd_14 hk u4 (i := 5) (by decide)
  have k14 : (some k = some (Zd 14)) = (o = 6) := k14
  have k13 : (some k = some (Zd 13)) = (o = 5) := k13
  rcases hso with ⟨p0, p1, a, cn, p2, p3, p4, p5⟩ | ⟨p0, p1, p2, p3, p4⟩ | ⟨p0, p1⟩
  · -- by a name
    rw [p0] at r2
    rw [p1] at m6
    rw [p2] at r3
    by_cases ho : o = 6
    · have hk14 : some k = some (Zd 14) := by rw [k14]; exact ho
      have hcm := member_l (Zd := Zd) (rdC_f d) p3 (Nat.le_trans p4.1 (by decide)) ks 4096 fst hcs (by omega)
      have hmem : c_Value_member Zd K p (some a) st = some ((ks.find? (fun k => decide (nmL k.2.2 = cn))).map (fun k => k.2.1)) := by
        simp only [c_Value_member, u2, Option.bind_some, hk14, if_true, u3, hcm]
        cases ks.find? (fun k => decide (nmL k.2.2 = cn)) <;> rfl
      have m4 : rd (ms.2.2.2 4) 8 s = some (ms.2.2.2 4 j) := by rw [rd_in hins, ts]
      have m5 : rd (ms.2.2.2 5) 8 s = some (ms.2.2.2 5 j) := by rw [rd_in hins, ts]
      have hokk : ∀ M ∈ kL ks, okL M := by
        intro M hM
        obtain ⟨k9, hk9, rfl⟩ := List.mem_map.mp hM
        obtain ⟨nx, h9⟩ := Cs.all ks fst none hcs k9 hk9
        exact tree_ok _ _ _ h9.1
      have hnmk : ∀ k9 ∈ ks, okS (nmL k9.2.2) := by
        intro k9 hk9
        obtain ⟨nx, h9⟩ := Cs.all ks fst none hcs k9 hk9
        obtain ⟨n9, -, -, h8⟩ := tree_nm h9.1
        exact h8
      have hmo := member_ok (ms := ms) (ob9 := x) (base := c) (Ls := kL ks) hx (by rw [g2, hsp, hLl]; omega) (by omega) g3 hokk (by unfold kL; rw [List.length_map]; omega) (ms.2.2.2 4 j) (ms.2.2.2 5 j)
      rw [p5] at hmo
      have hml : m_selects s x ms = (if fdR (enc cn) (c + 1) (kL ks) (-1) < (0 : Int32) then (some ms) else ((m_select (fdR (enc cn) (c + 1) (kL ks) (-1)) ms).bind fun st144 => some st144)).bind fun e141 => some e141 := by
        rw [ho] at m1
        simp only [m_selects, m6, Option.bind_some, if_true, m1, m4, m5, hmo]
        cases (if fdR (enc cn) (c + 1) (kL ks) (-1) < (0 : Int32) then (some ms) else ((m_select (fdR (enc cn) (c + 1) (kL ks) (-1)) ms).bind fun st144 => some st144)) <;> rfl
      cases hfd : ks.find? (fun k => decide (nmL k.2.2 = cn)) with
      | none =>
        rw [hfd] at hmem
        have hno : fdR (enc cn) (c + 1) (kL ks) (-1) = -1 := fdR_none _ _ _ (fun M hM e9 => by
          obtain ⟨k9, hk9, rfl⟩ := List.mem_map.mp hM
          have h8 := enc_inj (hnmk k9 hk9) p4 e9
          have := List.find?_eq_none.mp hfd k9 hk9
          exact this (by simpa using h8))
        refine ⟨st, I, Q, ms, ?_, ?_, hrr⟩
        · simp only [c_Finder_select, Option.bind_some, r2, if_true, r3, isp, hmem, Option.map_none, fo_5 h.1, c_Finder_take, nl]
        · rw [hml, hno]; rfl
      | some kf =>
        rw [hfd] at hmem
        obtain ⟨cell, y1, y2⟩ := fdR_pc p4 ks (c + 1) (-1) hnmk (hok.2.2.2.2 ho) kf hfd
        obtain ⟨z1, z2⟩ := g4 _ y1
        have z1 : vC Zd K st ms d kf.2.1 cell kf.2.2 := z1
        have hz24 := z1.2.2
        have hci : (Int32.ofNat cell).toInt = cell := ofNat_i (by omega)
        obtain ⟨t1, I1, Q1, n1, b1, b2, b3⟩ := take_lock (Zd := Zd) hk.2.2 h hf (by omega) z1 hci
        refine ⟨t1, I1, Q1, n1, ?_, ?_, b3⟩
        · simp only [c_Finder_select, Option.bind_some, r2, if_true, r3, isp, hmem, Option.map_some, fo_5 h.1, b1]
        · rw [hml, y2, if_neg (fun e => by have := i32lt.mp e; rw [hci, show (0 : Int32).toInt = 0 from by decide] at this; omega), b2]
          rfl
    · have hk14 : ¬ some k = some (Zd 14) := by rw [k14]; exact ho
      have hmem : c_Value_member Zd K p (some a) st = some none := by
        simp only [c_Value_member, u2, Option.bind_some, hk14, if_false]
      refine ⟨st, I, Q, ms, ?_, ?_, hrr⟩
      · simp only [c_Finder_select, Option.bind_some, r2, if_true, r3, isp, hmem, fo_5 h.1, c_Finder_take, nl]
      · simp only [m_selects, m6, Option.bind_some, if_true, m1, ho, if_false, h02, h01]
  · -- by a number
    rw [p0] at r2
    rw [p1] at m6
    rw [← p2] at m7
    obtain ⟨nc, w1, w2⟩ := count_l (rdC_f (Zd := Zd) (K := K) (s := st) d) ks 4096 0 fst hcs (by omega) (by decide) (by rw [show (0 : Int32).toInt = 0 from by decide]; omega)
    have w2 : nc.toInt = ks.length := by rw [w2, show (0 : Int32).toInt = 0 from by decide]; omega
    obtain ⟨nm, vm, w3, w4⟩ := cnt_m (Zd := Zd) (st := st) hk.2.2 m2 hE ks (c + 1) 4096 0 (x + 1) g4 hEE hx1 (by omega) (by decide) (by rw [show (0 : Int32).toInt = 0 from by decide]; omega) h21
    have w4 : nm.toInt = ks.length := by rw [w4, show (0 : Int32).toInt = 0 from by decide]; omega
    have hnm : nm = nc := cnt_eq w4 w2
    subst hnm
    have hpc : c_Value_partCount Zd K p st = some nm := by simp only [c_Value_partCount, u3, Option.bind_some, w1]
    have hmc : m_count x ms = some nm := by simp only [m_count, Option.bind_some, w3]
    -- the place
    obtain ⟨e, he1, he2, he3⟩ : ∃ e : Int32, (if (0 : Int32) ≤ I (103 + 4 * j) then (some (I (103 + 4 * j))) else ((some p).bind fun a41z => (isO K st a41z 11).bind fun _ => (c_Value_partCount Zd K a41z st).bind fun x42 => (some (I (103 + 4 * j) + x42)).bind fun y45 => some y45)) = some e ∧ (if (0 : Int32) ≤ I (103 + 4 * j) then ((some (I (103 + 4 * j))).bind fun x129 => some x129) else ((some (I (103 + 4 * j))).bind fun x130 => (m_count x ms).bind fun x131 => (some (x130 + x131)).bind fun y134 => some y134)) = some e ∧ -999 ≤ e.toInt ∧ e.toInt ≤ 1100 := by
      by_cases e0 : (0 : Int32) ≤ I (103 + 4 * j)
      · exact ⟨_, if_pos e0, by rw [if_pos e0]; rfl, p3, by omega⟩
      · have e0n : ¬ (0 : Int32).toInt ≤ (I (103 + 4 * j)).toInt := fun e => e0 (i32le.mpr e)
        rw [show (0 : Int32).toInt = 0 from by decide] at e0n
        have hadd : (I (103 + 4 * j) + nm).toInt = (I (103 + 4 * j)).toInt + ks.length := by
          rw [i32add (by rw [w4]; omega) (by rw [w4]; omega), w4]
        refine ⟨I (103 + 4 * j) + nm, ?_, ?_, by rw [hadd]; omega, by rw [hadd]; omega⟩
        · rw [if_neg e0, Option.bind_some, isp, Option.bind_some, hpc, Option.bind_some, Option.bind_some]
        · rw [if_neg e0, Option.bind_some, hmc, Option.bind_some, Option.bind_some]
    by_cases ho : o = 5
    · have hk13 : some k = some (Zd 13) := by rw [k13]; exact ho
      obtain ⟨xe, y1, y2⟩ := elm_c (Zd := Zd) (K := K) (st := st) (d := d) (a0 := e) ks 4096 0 fst hcs (by omega) (by decide) (by rw [show (0 : Int32).toInt = 0 from by decide]; omega)
      rw [show (0 : Int32).toInt = 0 from by decide, Int.sub_zero] at y2
      have hel : c_Value_element Zd K p e st = some (elC ks e.toInt) := by
        simp only [c_Value_element, u2, Option.bind_some, hk13, if_true, u3, y1]
        exact y2
      obtain ⟨ie, ve, z1⟩ := elm_m (Zd := Zd) (st := st) hk.2.2 m2 hE ks (c + 1) 4096 e (-1) (x + 1) (fun z hz => (g4 z hz).1) hEE hx1 (by omega) (by omega) (by omega) h21
      have hme : (if (0 : Int32) ≤ e then ((m_element x e ms).bind fun x126 => some x126) else (some ((-1) : Int32))) = some (elP (pc (c + 1) ks) e.toInt (-1)) := by
        by_cases e0 : (0 : Int32) ≤ e
        · rw [if_pos e0]
          simp only [m_element, Option.bind_some, z1]
        · rw [if_neg e0]
          unfold elP
          rw [if_neg (fun e9 => e0 (i32n e9))]
      have hml : m_selects s x ms = (if elP (pc (c + 1) ks) e.toInt (-1) < (0 : Int32) then (some ms) else ((m_select (elP (pc (c + 1) ks) e.toInt (-1)) ms).bind fun st124 => some st124)).bind fun e121 => some e121 := by
        rw [ho] at m1
        simp only [Option.bind_some] at he2 hme
        simp only [m_selects, m6, Option.bind_some, h20, if_false, if_true, m1, m7, he2, hme]
        cases (if elP (pc (c + 1) ks) e.toInt (-1) < (0 : Int32) then (some ms) else ((m_select (elP (pc (c + 1) ks) e.toInt (-1)) ms).bind fun st124 => some st124)) <;> rfl
      have hcl : c_Finder_select Zd K (q 5) (some (q (200 + j))) (some p) st = (c_Finder_take Zd K (q 5) (elC ks e.toInt) st).bind fun st38 => some st38 := by
        simp only [Option.bind_some, isp] at he1
        simp only [c_Finder_select, Option.bind_some, r2, h10, if_false, if_true, r4, he1, isp, hel, fo_5 h.1]
        cases c_Finder_take Zd K (q 5) (elC ks e.toInt) st <;> rfl
      rcases pcAt9 (c + 1) ks e.toInt with ⟨x1, x2⟩ | ⟨z, hz, x1, x2⟩
      · refine ⟨st, I, Q, ms, ?_, ?_, hrr⟩
        · rw [hcl, x1]; rfl
        · rw [hml, x2]; rfl
      · obtain ⟨v1, v2⟩ := g4 z hz
        have hz24 := v1.2.2
        have hci : (Int32.ofNat z.2).toInt = z.2 := ofNat_i (by omega)
        obtain ⟨t1, I1, Q1, n1, b1, b2, b3⟩ := take_lock (Zd := Zd) hk.2.2 h hf (by omega) v1 hci
        refine ⟨t1, I1, Q1, n1, ?_, ?_, b3⟩
        · rw [hcl, x1, b1]; rfl
        · rw [hml, x2, if_neg (fun e => by have := i32lt.mp e; rw [hci, show (0 : Int32).toInt = 0 from by decide] at this; omega), b2]
          rfl
    · have hk13 : ¬ some k = some (Zd 13) := by rw [k13]; exact ho
      have hel : c_Value_element Zd K p e st = some none := by
        simp only [c_Value_element, u2, Option.bind_some, hk13, if_false]
      refine ⟨st, I, Q, ms, ?_, ?_, hrr⟩
      · simp only [Option.bind_some, isp] at he1
        simp only [c_Finder_select, Option.bind_some, r2, h10, if_false, if_true, r4, he1, isp, hel, fo_5 h.1, c_Finder_take, nl]
      · simp only [m_selects, m6, Option.bind_some, h20, h21', if_true, m1, ho, if_false]
  · -- every one
    rw [p0] at r2
    rw [p1] at m6
    by_cases ho : o < 5
    · have hks : ks = [] := by
        have h9 := hok.1 (by have := i32lt.mp ho; rw [show (5 : Int32).toInt = 5 from by decide] at this; exact this)
        unfold kL at h9
        exact List.map_eq_nil_iff.mp h9
      subst hks
      have hfn : fst = none := hcs
      subst hfn
      refine ⟨st, I, Q, ms, ?_, ?_, hrr⟩
      · have hl : c_Finder_select_l1 Zd K (q 5) 4096 (none, st) = some (none, st) := by
          rw [show (4096 : Nat) = 4095 + 1 from rfl, c_Finder_select_l1_s]
          rfl
        simp only [c_Finder_select, Option.bind_some, r2, h20, h21', if_false, u3, hl]
      · simp only [m_selects, m6, Option.bind_some, h10, h12, if_false, if_true, m1, ho]
    · obtain ⟨t1, I1, Q1, n1, v1, b1, b2, b3⟩ := evr_l (q := q) (cw := cw) (A := A) (R := R) hk.2.2 (d := d) (by omega) hE ks (c + 1) 4096 4096 fst (x + 1) st I Q ms h hf m2 hcs (fun z hz => (g4 z hz).1) hEE hx1 (by omega) (by omega) h21
      refine ⟨t1, I1, Q1, n1, ?_, ?_, b3⟩
      · simp only [c_Finder_select, Option.bind_some, r2, h20, h21', if_false, u3, b1]
      · simp only [m_selects, m6, Option.bind_some, h10, h12, if_false, if_true, m1, ho, sels_2, sels_3, sels_4, b2]
end SELFIND
