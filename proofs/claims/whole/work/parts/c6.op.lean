/-! What an operation does to the document: class and model. -/
/-- all but the document stands as it did -/
def PF (K : KE) (st0 : CS) (ms0 : MS) (q : Nat → Nat) (cw : Nat) (I0 : Nat → Int32) (A0 : Nat → Nat → Int32) (R0 : Nat → Option Nat) (Q : Nat → Nat → Option Nat) (s : CS) (I : Nat → Int32) (A : Nat → Nat → Int32) (ms : MS) (r : Option Nat) : Prop := Cx K s q cw I A (va_up R0 0 r) Q ∧ le K st0 s ∧ Wp I A ∧ pI I0 I ∧ pA A0 A ∧ kW 1980 ms0 ms
/-- the document -/
def PD (Zd : Nat → Nat) (K : KE) (st0 : CS) (d b : Nat) (s : CS) (ms : MS) (N : List Nat) (a : Nat) (L : List Nd) : Prop := (∃ nx, Tw Zd K s d N a nx L) ∧ N.Nodup ∧ (∀ x ∈ N, st0.1.1 ≤ x) ∧ rowIs ms 1980 L ∧ L.length ≤ b
section OPS
variable {Zd : Nat → Nat} {K : KE} {st0 s : CS} {ms0 ms : MS} {q : Nat → Nat} {cw : Nat} {I0 I : Nat → Int32} {A0 A : Nat → Nat → Int32} {R0 : Nat → Option Nat} {Q : Nat → Nat → Option Nat} {N : List Nat} {a b : Nat} {L : List Nd} {us : List Int32}
theorem setdoc {R : Nat → Option Nat} (h : Cx K s q cw I A R Q) (x : Option Nat) : ∃ s1, sF s (q 3) 4 1 (va_rf x) = some s1 ∧ Cx K s1 q cw I A (va_up R 0 x) Q ∧ stp K s s1 := by
  obtain ⟨hF, hw, hz⟩ := h
  obtain ⟨s1, e1, e2, e3⟩ := fw_3_1 hF x
  refine ⟨s1, e1, ⟨e3, by rw [e2]; exact hw, ?_⟩, ?_, by rw [e2]; rfl⟩
  · rw [e2]; exact nb_Rz hz (hF.fl (i := 3) rfl).1 (hF.fl (i := 3) rfl).2 rfl rfl
  · rw [e2]; exact nb_le hz (hF.fl (i := 3) rfl).1 (hF.fl (i := 3) rfl).2 rfl
theorem PF.vch (hw0 : wf K st0) (hz0 : Rz K st0 q) (hF : PF K st0 ms0 q cw I0 A0 R0 Q s I A ms (some a)) {N V : List Nat} {s1 : CS} {ms1 : MS} (hN : ∀ x ∈ N, st0.1.1 ≤ x) (hV : ∀ x ∈ V, st0.1.1 ≤ x) (h : DC9 Zd K s ms N V a s1 ms1) : PF K st0 ms0 q cw I0 A0 R0 Q s1 I A ms1 (some a) ∧ (∃ N1 L1, PD Zd K st0 9 48 s1 ms1 N1 a L1) ∧ s1.1 = s.1 := by
  obtain ⟨W, N2, nx, L2, v1, v2, v3, v4, v5, v6, v7, v8⟩ := h
  obtain ⟨f1, f2, f3, f4, f5, f6⟩ := hF
  refine ⟨⟨v1.cx f1, le.vch hw0 hz0 f2 v1 (fun x hx => ?_), f3, f4, f5, f6.tr v8⟩, ⟨N2, L2, ⟨nx, v3⟩, v4, fun x hx => ?_, v6, v7⟩, v1.1⟩
  · rcases v2 x hx with h9 | h9
    · exact hN x h9
    · exact hV x h9
  · rcases v5 x hx with h9 | h9
    · exact hN x h9
    · exact hV x h9
/-- the whole document exchanged -/
theorem put0 {x y : Int64} (hx : m_lengthOf x = some 0) {Lv : List Nd} (hVo : okL Lv) (hVr : rowIs ms 2040 Lv) (hVl : Lv.length ≤ 24) : ∃ ms1, m_putPart x y ms = some (1, ms1) ∧ rowIs ms1 1980 Lv ∧ kW 1980 ms ms1 := by
  obtain ⟨st75, p1, p2, p3, p4, p5⟩ := partName_ok hVr hVo [] (x := 0) (y := 0) rfl
  have hr75 : rowIs st75 2040 (nmd [] Lv) := ((rowF_of (okL_nmd hVo []).1).mp p2).1
  have hl : (nmd [] Lv).length = Lv.length := nmd_len _ _
  obtain ⟨⟨x9, xs, e1, e2⟩, hall⟩ := (okL_nmd hVo []).1
  have hx9 := hr75 0 x9 (by rw [e1]; rfl)
  have hrd : rd (st75.2.2.1 2) 2100 2040 = some (Int32.ofNat Lv.length) := by
    rw [rd_in (vp_of (by decide) (by decide)), show (2040 : Int32).toNatClampNeg = 2040 + 0 from by decide, hx9.2.1, e2, hl]
  obtain ⟨ms1, c1, c2⟩ := copy_ok (ms := st75) (a0 := 2040) (a1 := 1980) (a2 := Int32.ofNat Lv.length) (a := 2040) (b := 1980) (n := Lv.length) (by decide) (by decide) (ofNat_i (by omega)) (by omega) (by omega) (by omega) (by
    have := row_nar hr75 (okL_nmd hVo []).1 (by omega)
    rw [hl] at this
    exact this)
  refine ⟨ms1, ?_, ?_, (p3.dn (by omega)).tr (c2.kW (Nat.le_refl _))⟩
  · unfold m_putPart
    rw [hx, Option.bind_some, if_pos rfl, p1, Option.bind_some, at82, Option.bind_some, at81, Option.bind_some, Option.bind_some, hrd, Option.bind_some, c1, Option.bind_some]
  · have h1 : rowIs st75 2040 Lv := by
      have := nmd_row (nmL Lv) hr75
      rw [nmd_self hVo] at this
      exact this
    exact h1.cp c2
theorem rowIs.eq {m9 m8 : MS} {b9 : Nat} {L9 : List Nd} (h : rowIs m9 b9 L9) (e : m8.2.2 = m9.2.2) : rowIs m8 b9 L9 := by
  intro i x hx
  rw [e]
  exact h i x hx
/-- a node's kind: class and model -/
theorem node_at (hk : wk K) {d p h : Nat} {nx : Option Nat} (hT : Tw Zd K s d N a nx L) (hp : N[h]? = some p) (hr : rowIs ms 1980 L) (hl : L.length ≤ 60) {v : Int32} (hv : v.toInt = (1980 + h : Nat)) : ∃ kd o, gQ K s p 11 0 = some (some kd) ∧ ordK Zd kd = some o ∧ rd (ms.2.2.1 1) 2100 v = some o := by
  obtain ⟨e, N1, nx1, L1, A, B, M, M1, g1, g2, g3, g4, g5, g6, -⟩ := Tw.foc hk d N a nx L hT h p hp
  cases e with
  | zero => exact g1.elim
  | succ e =>
  obtain ⟨o, num, cs, ns, fst, ks, h1, h2, h3, h4, h5, h6⟩ := g1
  obtain ⟨kd, hq0, hord⟩ := h1.q0
  have hLl : L.length = A.length + L1.length + B.length := by rw [g3, List.length_append, List.length_append]
  have hL1 : 0 < L1.length := by rw [h6]; exact Nat.succ_pos _
  have hroot := hr h (o, 1 + (kL ks).flatten.length, num, cs, ns) (by
    rw [g3, h6, List.append_assoc, List.getElem?_append_right (by omega), show h - A.length = 0 by omega]
    rfl)
  exact ⟨kd, o, hq0, hord, by rw [rd_in (vp_of (by omega) (by omega)), show v.toNatClampNeg = 1980 + h by rw [tnn]; omega, hroot.1]⟩
theorem add_c {v p t9 : Nat} {s1 s2 : CS} {x16 : Int32} {r1 : Option Nat} (hb : Pt K s b us) (hb1 : Pt K s1 b us) (h0 : us.length ≠ 0) {R : Nat → Option Nat} (hC : Cx K s q cw I A R Q) {I1 : Nat → Int32} {A1 : Nat → Nat → Int32} {R1 : Nat → Option Nat} (hC1 : Cx K s1 q cw I1 A1 R1 Q) (hR : R 0 = some a) (e1 : c_Pointer_lastSlash Zd K (some b) s = some x16) (e2 : c_Pointer_lead Zd K (q 10) (some a) (some b) x16 s = some (r1, s1)) :
    c_Patcher_add Zd K (q 3) (some b) (some v) s = nl r1 (some ((0 : Int32), s1)) (fun a25z => (c_Pointer_token Zd K (q 10) (some b) (x16 + 1) (Int32.ofNat us.length) s1).bind fun r34 => (gQ K r34.2 a25z 11 0).bind fun x35 => if x35 = some (Zd 14) then ((c_Patcher_addMember Zd K r1 r34.1 (some v) r34.2).bind fun st47 => some ((1 : Int32), st47)) else ((gQ K r34.2 a25z 11 0).bind fun x37 => (if x37 = some (Zd 13) then ((c_Patcher_addElement Zd K r1 r34.1 (some v) r34.2).bind fun r44 => if r44.1 = (0 : Int32) then (some ((0 : Int32), r44.2)) else (some ((1 : Int32), r44.2))) else (some ((0 : Int32), r34.2))).bind fun e38 => (bz e38.1).bind fun _ => some (e38.1, e38.2))) := by
  have hem := hb.emp (Zd := Zd)
  rw [if_neg h0] at hem
  have hdoc : gQ K s (q 3) 4 1 = some (some a) := by rw [fg_3_1 hC.1, hR]
  simp only [c_Patcher_add, Option.bind_some, hb.is, hem, if_true, e1, fg_3_0 hC.1, hdoc, fo_10 hC.1, e2, fg_3_0 hC1.1, hb1.is, hb1.len, fo_10 hC1.1]
/-- add: class and model -/
theorem add_lock (hc : kc Zd K) (hw0 : wf K st0) (hz0 : Rz K st0 q) (hF : PF K st0 ms0 q cw I0 A0 R0 Q s I A ms (some a)) (hD : PD Zd K st0 5 24 s ms N a L) (hb : Pt K s b us) (hp : ptr us) {V : List Nat} {v : Nat} {nxv : Option Nat} {Lv : List Nd} (hV : Tw Zd K s 5 V v nxv Lv) (hVn : V.Nodup) (hVd : ∀ x ∈ V, x ∉ N) (hVb : ∀ x ∈ V, st0.1.1 ≤ x) (hVr : rowIs ms 2040 Lv) (hVl : Lv.length ≤ 24) (hVm : nmL Lv = []) (z6 : s.1.1 + 22 ≤ Zd 6) (z7 : s.1.2 + 154 ≤ Zd 7) :
    ∃ x s1 I1 A1 ms1 r, c_Patcher_add Zd K (q 3) (some b) (some v) s = some (x, s1) ∧ m_putPart (encU us).1 (encU us).2 ms = some (x, ms1) ∧ s1.1.1 ≤ s.1.1 + 22 ∧ s1.1.2 ≤ s.1.2 + 154 ∧ PF K st0 ms0 q cw I0 A0 R0 Q s1 I1 A1 ms1 (some r) ∧ (x = 0 ∨ (x = 1 ∧ ∃ N1 L1, PD Zd K st0 9 48 s1 ms1 N1 r L1)) := by
  have Nn := nums
  have h10 : ¬ ((1 : Int32) = 0) := by decide
  obtain ⟨hok, hle⟩ := hb.ok
  have hml := enc_len hok hle
  have hni := ofNat_i (n := us.length) (by omega)
  have hF0 := hF
  obtain ⟨f1, f2, f3, f4, f5, f6⟩ := hF
  obtain ⟨⟨nx, hT⟩, hnd, hNb, hr, hl⟩ := hD
  have hVo := hV.ok
  by_cases h0 : us.length = 0
  · obtain ⟨s1, e1, e2, e3⟩ := setdoc f1 (some v)
    have hlen0 : m_lengthOf (encU us).1 = some 0 := by rw [hml, h0]; rfl
    obtain ⟨ms1, p1, p2, p3⟩ := put0 (y := (encU us).2) hlen0 hVo hVr hVl
    have hR : va_up (va_up R0 0 (some a)) 0 (some v) = va_up R0 0 (some v) := va_up_up _ _ _ _
    rw [hR] at e2
    have hem := hb.emp (Zd := Zd)
    rw [if_pos h0] at hem
    refine ⟨1, s1, I, A, ms1, v, ?_, p1, by rw [e3.2]; omega, by rw [e3.2]; omega, ⟨e2, f2.tr e3.1, f3, f4, f5, f6.tr p3⟩, Or.inr ⟨rfl, V, Lv, ⟨nxv, (Tw.le hc.2.2 e3.1 _ _ _ _ _ hV).ups 9 (by decide)⟩, hVn, hVb, p2, by omega⟩⟩
    simp only [c_Patcher_add, Option.bind_some, hb.is, hem, h10, if_false, e1]
  · obtain ⟨x16, l1, l2, l3, l4, l5, l6⟩ := slash_lock (Zd := Zd) hb hp h0
    generalize hsl : x16.toInt.toNat = sl at *
    have hx16 : x16.toInt = sl := by omega
    obtain ⟨s1, I1, A1, ms1, g1, g2, g3, g4, g5, g6, g7, g8, g9, g10, g11, g12⟩ := lead_lock (Zd := Zd) hc hT hl hb hp f1 f3 hr (e := sl) (by omega) (Or.inr l5) hx16 (by omega) (by omega)
    have hb1 := hb.le g4
    have hcl := add_c (v := v) (p := 0) (t9 := 0) (s2 := s) hb hb1 h0 f1 g3 (va_up_self _ _ _) l1 g1
    have hz : ¬ Int32.ofNat us.length = 0 := fun e => by have : (Int32.ofNat us.length).toInt = (0 : Int32).toInt := by rw [e]
                                                         rw [Nn.1] at this; omega
    have hPF1 : PF K st0 ms0 q cw I0 A0 R0 Q s1 I1 A1 ms1 (some a) := ⟨g3, f2.tr g4, g7, f4.tr g8, f5.tr g9, f6.tr (kW.eq g10 g11)⟩
    cases hw : wlk L us 16 0 0 sl with
    | none =>
      rw [hw] at hcl g2
      refine ⟨0, s1, I1, A1, ms1, a, hcl, ?_, by omega, by omega, hPF1, Or.inl rfl⟩
      simp only [m_putPart, hml, Option.bind_some, hz, if_false, l2, g2, show ci none < (0 : Int32) from by decide, if_true]
    | some h =>
      obtain ⟨p, hpN⟩ := g12 h hw
      rw [hw, Option.bind_some, hpN] at hcl
      rw [hw] at g2
      have hhl : h < L.length := by have := (List.getElem?_eq_some_iff.mp hpN).1; have := Tw.len _ _ _ _ _ hT; omega
      have hhI : (ci (some h)).toInt = (1980 + h : Nat) := by show (Int32.ofNat (1980 + h)).toInt = _; rw [ofNat_i (by omega)]
      have hh0 : ¬ ci (some h) < 0 := fun e9 => by have := i32lt.mp e9; omega
      have kx : (x16 + 1).toInt = (sl + 1 : Nat) := by rw [i32add (by omega) (by omega)]; omega
      obtain ⟨s2, I2, A2, ms2, tb, t1, t2, t3, t4, t5, t6, t7, t8, t9, t10, t11, t12, t13, t14⟩ := tok_lock (Zd := Zd) (ms := ms1) hb1 hp g3 g7 (i := sl + 1) (e := us.length) (Nat.le_refl _) (Or.inl rfl) (by omega) (by omega) (fun j j1 j2 => l6 j (by omega) j2) (a1 := x16 + 1) (a2 := Int32.ofNat us.length) kx hni (by omega) (by omega)
      have t2 := t2 x16 rfl
      have hl2 : le K s s2 := g4.tr t4
      have hT2 := Tw.le hc.2.2 hl2 _ _ _ _ _ hT
      have hV2 := Tw.le hc.2.2 hl2 _ _ _ _ _ hV
      have hr1 : rowIs ms1 1980 L := hr.eq g11
      have hr2 : rowIs ms2 1980 L := hr1.eq t14
      have hVr2 : rowIs ms2 2040 Lv := (hVr.eq g11).eq t14
      have hPF2 : PF K st0 ms0 q cw I0 A0 R0 Q s2 I2 A2 ms2 (some a) := ⟨t3, f2.tr hl2, t10, (f4.tr g8).tr t11, (f5.tr g9).tr t12, (f6.tr (kW.eq g10 g11)).tr (kW.eq t13 t14)⟩
      obtain ⟨kd, o, n1, n2, n3⟩ := node_at (ms := ms2) hc.2.2 hT2 hpN hr2 (by omega) hhI
      have n31 : rd (ms1.2.2.1 1) 2100 (ci (some h)) = some o := by rw [← t14]; exact n3
      have hor := ordK_r n2
      have n5i : (5 : Int32).toInt = 5 := by decide
      have hmm : ∀ r, (if (5 : Int32) ≤ o then (if o = (6 : Int32) then ((m_member (ci (some h)) (ms2.2.1 0) (ms2.2.1 1) ms2).bind fun x56 => (m_partName (ms2.2.1 0) (ms2.2.1 1) ms2).bind fun st60 => (if (0 : Int32) ≤ x56 then (some x56) else ((rd (st60.2.2.1 2) 2100 (ci (some h))).bind fun x72 => (some ((ci (some h)) + x72)).bind fun y73 => some y73)).bind fun e63 => (if (0 : Int32) ≤ x56 then ((rd (st60.2.2.1 2) 2100 x56).bind fun x71 => some x71) else (some (0 : Int32))).bind fun e66 => (m_splice e63 e66 (ci (some h)) (1 : Int32) st60).bind fun st69 => some ((1 : Int32), st69)) else ((m_count (ci (some h)) ms2).bind fun x19 => (m_lengthOf (ms2.2.1 0)).bind fun x22 => (if x22 = (1 : Int32) then ((m_charOf (ms2.2.1 0) (ms2.2.1 1) (0 : Int32)).bind fun x49 => if x49 = (45 : Int32) then (some x19) else ((m_tokenNumber ms2).bind fun x53 => some x53)) else ((m_tokenNumber ms2).bind fun x46 => some x46)).bind fun e26 => (m_within e26 (0 : Int32) x19).bind fun x28 => if x28 = (0 : Int32) then (some ((0 : Int32), ms2)) else ((m_partName (0 : Int64) (0 : Int64) ms2).bind fun st33 => (if e26 = x19 then ((rd (st33.2.2.1 2) 2100 (ci (some h))).bind fun x44 => (some ((ci (some h)) + x44)).bind fun y45 => some y45) else ((m_element (ci (some h)) e26 st33).bind fun x41 => some x41)).bind fun e36 => (m_splice e36 (0 : Int32) (ci (some h)) (1 : Int32) st33).bind fun st39 => some ((1 : Int32), st39)))) else (some ((0 : Int32), ms1))) = r → m_putPart (encU us).1 (encU us).2 ms = r := by
        intro r hr9
        rw [← hr9]
        simp only [m_putPart, hml, Option.bind_some, hz, if_false, l2, g2, hh0, n31, t2, n3]
      by_cases o6 : o = 6
      · subst o6
        have hk6 : some kd = some (Zd 14) := (kd_14 hc n2 (i := 6) (by decide)).mpr rfl
        cases hk6
        obtain ⟨s3, ms3, x56, st60, e63, e66, w1, w2, w3, w4, w5, w6, w7⟩ := addM_lock hc hT2 hnd hl hr2 hpN hV2 hVn hVd hVr2 hVl t7 t9 t8 n1 hhI
        obtain ⟨y1, ⟨N1, L1, y2⟩, y3⟩ := PF.vch hw0 hz0 hPF2 hNb hVb w7
        refine ⟨1, s3, I2, A2, ms3, a, ?_, ?_, by rw [y3]; omega, by rw [y3]; omega, y1, Or.inr ⟨rfl, N1, L1, y2⟩⟩
        · rw [hcl]
          simp only [nl, t1, Option.bind_some, n1, if_true, w1]
        · apply hmm
          rw [if_pos (by decide), if_pos rfl, w2, Option.bind_some, w3, Option.bind_some, w4, Option.bind_some, w5, Option.bind_some, w6]
          rfl
      · have hk6 : ¬ some kd = some (Zd 14) := fun e9 => o6 ((kd_14 hc n2 (i := 6) (by decide)).mp e9)
        by_cases o5 : o = 5
        · subst o5
          have hk5 : some kd = some (Zd 13) := (kd_14 hc n2 (i := 5) (by decide)).mpr rfl
          cases hk5
          obtain ⟨x19, e26, w1, w2, w3⟩ := addE_lock hc t3.2.1 hT2 hnd hl hr2 hpN hV2 hVn hVd hVr2 hVl hVm t7 t9 t8 n1 hhI
          obtain ⟨x22, w21, w22⟩ := ob w2
          rcases w3 with ⟨w4, w5⟩ | ⟨s3, ms3, st33, e36, w4, w5, w6, w7, w8, w9⟩
          · refine ⟨0, s2, I2, A2, ms2, a, ?_, ?_, by omega, by omega, hPF2, Or.inl rfl⟩
            · rw [hcl]
              simp only [nl, t1, Option.bind_some, n1, hk6, if_false, if_true, w4, bz]
              rfl
            · apply hmm
              rw [if_pos (by decide), if_neg o6, w1, Option.bind_some, w21, Option.bind_some, w22, Option.bind_some, w5, Option.bind_some, if_pos rfl]
          · obtain ⟨y1, ⟨N1, L1, y2⟩, y3⟩ := PF.vch hw0 hz0 hPF2 hNb hVb w9
            refine ⟨1, s3, I2, A2, ms3, a, ?_, ?_, by rw [y3]; omega, by rw [y3]; omega, y1, Or.inr ⟨rfl, N1, L1, y2⟩⟩
            · rw [hcl]
              simp only [nl, t1, Option.bind_some, n1, hk6, if_false, if_true, w4, h10, bz]
              rfl
            · apply hmm
              rw [if_pos (by decide), if_neg o6, w1, Option.bind_some, w21, Option.bind_some, w22, Option.bind_some, w5, Option.bind_some, if_neg h10, w6, Option.bind_some, w7, Option.bind_some, w8]
              rfl
        · have hk5 : ¬ some kd = some (Zd 13) := fun e9 => o5 ((kd_14 hc n2 (i := 5) (by decide)).mp e9)
          have hlt : ¬ (5 : Int32) ≤ o := fun e9 => by
            have := i32le.mp e9
            rcases (show o.toInt = 5 ∨ o.toInt = 6 by omega) with e8 | e8
            · exact o5 (i32eq (by rw [e8, n5i]))
            · exact o6 (i32eq (by rw [e8]; rfl))
          refine ⟨0, s2, I2, A2, ms1, a, ?_, ?_, by omega, by omega, ⟨t3, f2.tr hl2, t10, (f4.tr g8).tr t11, (f5.tr g9).tr t12, f6.tr (kW.eq g10 g11)⟩, Or.inl rfl⟩
          · rw [hcl]
            simp only [nl, t1, Option.bind_some, n1, hk6, hk5, if_false, bz]
            rfl
          · apply hmm
            rw [if_neg hlt]
end OPS
