/-! Replace and remove: class and model. -/
section EXC2
variable {Zd : Nat → Nat} {K : KE} {st0 s : CS} {ms0 ms : MS} {q : Nat → Nat} {cw : Nat} {I0 I : Nat → Int32} {A0 A : Nat → Nat → Int32} {R0 : Nat → Option Nat} {Q : Nat → Nat → Option Nat} {N : List Nat} {a b : Nat} {L : List Nd} {us : List Int32}
theorem exc_c {vo : Option Nat} {s1 s2 : CS} {x18 : Int32} {r1 r2 : Option Nat} (hb : Pt K s b us) (hb1 : Pt K s1 b us) (h0 : us.length ≠ 0) {R : Nat → Option Nat} (hC : Cx K s q cw I A R Q) {I1 : Nat → Int32} {A1 : Nat → Nat → Int32} {R1 : Nat → Option Nat} (hC1 : Cx K s1 q cw I1 A1 R1 Q) (hR : R 0 = some a) (hR1 : R1 0 = some a) (e1 : c_Pointer_lastSlash Zd K (some b) s = some x18) (e2 : c_Pointer_lead Zd K (q 10) (some a) (some b) x18 s = some (r1, s1)) (e3 : c_Pointer_lead Zd K (q 10) (some a) (some b) (Int32.ofNat us.length) s1 = some (r2, s2)) :
    c_Patcher_exchange Zd K (q 3) (some b) vo s = nl r1 (some ((0 : Int32), s2)) (fun a34z => nl r2 (some ((0 : Int32), s2)) (fun a35z => (nl vo ((isO K s2 a34z 11).bind fun _ => (c_Value_drop Zd K a34z r2 s2).bind fun st40 => some st40) (fun a38z => (isO K s2 a34z 11).bind fun _ => (c_Value_swap Zd K a34z r2 vo s2).bind fun st43 => some st43)).bind fun e36 => some ((1 : Int32), e36))) := by
  have hem := hb.emp (Zd := Zd)
  rw [if_neg h0] at hem
  have hdoc : gQ K s (q 3) 4 1 = some (some a) := by rw [fg_3_1 hC.1, hR]
  have hdoc1 : gQ K s1 (q 3) 4 1 = some (some a) := by rw [fg_3_1 hC1.1, hR1]
  simp only [c_Patcher_exchange, Option.bind_some, hb.is, hem, if_true, e1, fg_3_0 hC.1, hdoc, fo_10 hC.1, e2, fg_3_0 hC1.1, hdoc1, hb1.is, hb1.len, fo_10 hC1.1, e3]
/-- both ways through the path -/
theorem two_ways (hc : kc Zd K) (hF : PF K st0 ms0 q cw I0 A0 R0 Q s I A ms (some a)) (hD : PD Zd K st0 5 24 s ms N a L) (hb : Pt K s b us) (hp : ptr us) (h0 : us.length ≠ 0) (z6 : s.1.1 + 40 ≤ Zd 6) (z7 : s.1.2 + 280 ≤ Zd 7) :
    ∃ s2 I2 A2, (∀ m9, kW 1980 ms m9 → PF K st0 ms0 q cw I0 A0 R0 Q s2 I2 A2 m9 (some a)) ∧ le K s s2 ∧ s2.1.1 ≤ s.1.1 + 40 ∧ s2.1.2 ≤ s.1.2 + 280 ∧
    ((wlk L us 16 0 0 us.length = none ∧ ∀ vo, c_Patcher_exchange Zd K (q 3) (some b) vo s = some (0, s2)) ∨
     ∃ (h p z y : Nat) (t : List Int32), wlk L us 16 0 0 us.length = some z ∧ N[h]? = some p ∧ kidAt L h t = some z ∧ N[z]? = some y ∧ ∀ vo, c_Patcher_exchange Zd K (q 3) (some b) vo s = (nl vo ((isO K s2 p 11).bind fun _ => (c_Value_drop Zd K p (some y) s2).bind fun st40 => some st40) (fun a38z => (isO K s2 p 11).bind fun _ => (c_Value_swap Zd K p (some y) vo s2).bind fun st43 => some st43)).bind fun e36 => some ((1 : Int32), e36)) := by
  obtain ⟨hok, hle⟩ := hb.ok
  have hni := ofNat_i (n := us.length) (by omega)
  obtain ⟨f1, f2, f3, f4, f5, f6⟩ := hF
  obtain ⟨⟨nx, hT⟩, hnd, hNb, hr, hl⟩ := hD
  obtain ⟨x16, l1, l2, l3, l4, l5, l6⟩ := slash_lock (Zd := Zd) hb hp h0
  generalize hsl : x16.toInt.toNat = sl at *
  have hx16 : x16.toInt = sl := by omega
  obtain ⟨s1, I1, A1, ms1, g1, g2, g3, g4, g5, g6, g7, g8, g9, g10, g11, g12⟩ := lead_lock (Zd := Zd) hc hT hl hb hp f1 f3 hr (e := sl) (by omega) (Or.inr l5) hx16 (by omega) (by omega)
  have hb1 := hb.le g4
  have hT1 := Tw.le hc.2.2 g4 _ _ _ _ _ hT
  obtain ⟨s2, I2, A2, ms2, i1, i2, i3, i4, i5, i6, i7, i8, i9, i10, i11, i12⟩ := lead_lock (Zd := Zd) (ms := ms) hc hT1 hl hb1 hp g3 g7 hr (e := us.length) (Nat.le_refl _) (Or.inl rfl) hni (by omega) (by omega)
  have hcl := fun vo => exc_c (vo := vo) hb hb1 h0 f1 g3 (va_up_self _ _ _) (va_up_self _ _ _) l1 g1 i1
  have hlast := wlk_last (L := L) hle (show sl < us.length by omega) l5 (fun j j1 j2 => l6 j (by omega) j2) 16 0 0 (Nat.zero_le _) (by omega)
  refine ⟨s2, I2, A2, fun m9 hm9 => ⟨i3, (f2.tr g4).tr i4, i7, (f4.tr g8).tr i8, (f5.tr g9).tr i9, f6.tr hm9⟩, g4.tr i4, by omega, by omega, ?_⟩
  cases hw : wlk L us 16 0 0 sl with
  | none =>
    rw [hw] at hlast
    left
    refine ⟨hlast, fun vo => ?_⟩
    rw [hcl vo, hw]
    rfl
  | some h =>
    obtain ⟨p, hpN⟩ := g12 h hw
    rw [hw, Option.bind_some] at hlast
    cases hkd : kidAt L h (tkn us (sl + 1) us.length) with
    | none =>
      rw [hkd] at hlast
      left
      refine ⟨hlast, fun vo => ?_⟩
      rw [hcl vo, hw, hlast, Option.bind_some, hpN]
      rfl
    | some z =>
      rw [hkd] at hlast
      obtain ⟨y, hy⟩ := i12 z hlast
      right
      refine ⟨h, p, z, y, tkn us (sl + 1) us.length, hlast, hpN, hkd, hy, fun vo => ?_⟩
      rw [hcl vo, hw, hlast, Option.bind_some, hpN, Option.bind_some, hy]
      rfl
theorem exD_lock (hc : kc Zd K) (hw0 : wf K st0) (hz0 : Rz K st0 q) (hF : PF K st0 ms0 q cw I0 A0 R0 Q s I A ms (some a)) (hD : PD Zd K st0 5 24 s ms N a L) (hb : Pt K s b us) (hp : ptr us) (h0 : us.length ≠ 0) (z6 : s.1.1 + 40 ≤ Zd 6) (z7 : s.1.2 + 280 ≤ Zd 7) :
    ∃ x s1 I1 A1 ms1, c_Patcher_exchange Zd K (q 3) (some b) none s = some (x, s1) ∧ m_removed (ci (wlk L us 16 0 0 us.length)) ms = some (x, ms1) ∧ s1.1.1 ≤ s.1.1 + 40 ∧ s1.1.2 ≤ s.1.2 + 280 ∧ PF K st0 ms0 q cw I0 A0 R0 Q s1 I1 A1 ms1 (some a) ∧ (x = 0 ∨ (x = 1 ∧ ∃ N1 L1, PD Zd K st0 9 48 s1 ms1 N1 a L1)) := by
  obtain ⟨s2, I2, A2, w1, w2, w3, w4, w5⟩ := two_ways hc hF hD hb hp h0 z6 z7
  obtain ⟨⟨nx, hT⟩, hnd, hNb, hr, hl⟩ := hD
  rcases w5 with ⟨e1, e2⟩ | ⟨h, p, z, y, t, e1, e2, e3, e4, e5⟩
  · refine ⟨0, s2, I2, A2, ms, e2 none, ?_, w3, w4, w1 ms (kW.rf _ _), Or.inl rfl⟩
    rw [e1]
    simp only [m_removed, at81, Option.bind_some, show ¬ ((1980 : Int32) < ci none) from by decide, if_false]
  · have hT2 := Tw.le hc.2.2 w2 _ _ _ _ _ hT
    obtain ⟨y2, y3, y4, y5, y6, ⟨s3, ms3, y7, y8, y9⟩, -⟩ := exc_lock (ms := ms) hc hT2 hnd hl hr e2 e3
    rw [e4] at y3
    cases y3
    obtain ⟨j1, ⟨N1, L1, j2⟩, j3⟩ := PF.vch (V := []) hw0 hz0 (w1 ms (kW.rf _ _)) hNb (fun x hx => by cases hx) y9
    refine ⟨1, s3, I2, A2, ms3, ?_, by rw [e1]; exact y8, by rw [j3]; exact w3, by rw [j3]; exact w4, j1, Or.inr ⟨rfl, N1, L1, j2⟩⟩
    rw [e5 none]
    simp only [nl, y6, Option.bind_some, y7]
theorem exR_lock (hc : kc Zd K) (hw0 : wf K st0) (hz0 : Rz K st0 q) (hF : PF K st0 ms0 q cw I0 A0 R0 Q s I A ms (some a)) (hD : PD Zd K st0 5 24 s ms N a L) (hb : Pt K s b us) (hp : ptr us) {V : List Nat} {v : Nat} {nxv : Option Nat} {Lv : List Nd} (hV : Tw Zd K s 5 V v nxv Lv) (hVn : V.Nodup) (hVd : ∀ x ∈ V, x ∉ N) (hVb : ∀ x ∈ V, st0.1.1 ≤ x) (hVr : rowIs ms 2040 Lv) (hVl : Lv.length ≤ 24) (z6 : s.1.1 + 40 ≤ Zd 6) (z7 : s.1.2 + 280 ≤ Zd 7) :
    ∃ x s1 I1 A1 ms1 r, c_Patcher_exchange Zd K (q 3) (some b) (some v) s = some (x, s1) ∧ m_replaced (ci (wlk L us 16 0 0 us.length)) ms = some (x, ms1) ∧ s1.1.1 ≤ s.1.1 + 40 ∧ s1.1.2 ≤ s.1.2 + 280 ∧ PF K st0 ms0 q cw I0 A0 R0 Q s1 I1 A1 ms1 (some r) ∧ (x = 0 ∨ (x = 1 ∧ ∃ N1 L1, PD Zd K st0 9 48 s1 ms1 N1 r L1)) := by
  have h10 : ¬ ((1 : Int32) = 0) := by decide
  by_cases h0 : us.length = 0
  · obtain ⟨f1, f2, f3, f4, f5, f6⟩ := hF
    obtain ⟨s1, e1, e2, e3⟩ := setdoc f1 (some v)
    have hl0 : m_lengthOf 0 = some 0 := enc_len (cs := []) (fun c hc => by cases hc) (by decide)
    obtain ⟨ms1, p1, p2, p3⟩ := put0 (y := 0) hl0 hV.ok hVr hVl
    have hR : va_up (va_up R0 0 (some a)) 0 (some v) = va_up R0 0 (some v) := va_up_up _ _ _ _
    rw [hR] at e2
    have hem := hb.emp (Zd := Zd)
    rw [if_pos h0] at hem
    have hwk : wlk L us 16 0 0 us.length = some 0 := by rw [h0]; rfl
    refine ⟨1, s1, I, A, ms1, v, ?_, ?_, by rw [e3.2]; omega, by rw [e3.2]; omega, ⟨e2, f2.tr e3.1, f3, f4, f5, f6.tr p3⟩, Or.inr ⟨rfl, V, Lv, ⟨nxv, (Tw.le hc.2.2 e3.1 _ _ _ _ _ hV).ups 9 (by decide)⟩, hVn, hVb, p2, by omega⟩⟩
    · simp only [c_Patcher_exchange, Option.bind_some, hb.is, hem, h10, if_false, e1]
    · rw [hwk]
      have hci : ci (some 0) = 1980 := by decide
      rw [hci]
      unfold m_replaced
      rw [if_pos (show (0 : Int32) ≤ 1980 from by decide), at81, Option.bind_some, if_pos rfl, p1]
      rfl
  · obtain ⟨s2, I2, A2, w1, w2, w3, w4, w5⟩ := two_ways hc hF hD hb hp h0 z6 z7
    obtain ⟨⟨nx, hT⟩, hnd, hNb, hr, hl⟩ := hD
    rcases w5 with ⟨e1, e2⟩ | ⟨h, p, z, y, t, e1, e2, e3, e4, e5⟩
    · refine ⟨0, s2, I2, A2, ms, a, e2 (some v), ?_, w3, w4, w1 ms (kW.rf _ _), Or.inl rfl⟩
      rw [e1]
      simp only [m_replaced, show ¬ ((0 : Int32) ≤ ci none) from by decide, if_false]
    · have hT2 := Tw.le hc.2.2 w2 _ _ _ _ _ hT
      have hV2 := Tw.le hc.2.2 w2 _ _ _ _ _ hV
      obtain ⟨y2, y3, y4, y5, y6, -, y7⟩ := exc_lock (ms := ms) hc hT2 hnd hl hr e2 e3
      rw [e4] at y3
      cases y3
      obtain ⟨s3, ms3, y8, y9, y10⟩ := y7 V v nxv Lv hV2 hVn hVd hVr hVl
      obtain ⟨j1, ⟨N1, L1, j2⟩, j3⟩ := PF.vch hw0 hz0 (w1 ms (kW.rf _ _)) hNb hVb y10
      refine ⟨1, s3, I2, A2, ms3, a, ?_, by rw [e1]; exact y9, by rw [j3]; exact w3, by rw [j3]; exact w4, j1, Or.inr ⟨rfl, N1, L1, j2⟩⟩
      rw [e5 (some v)]
      simp only [nl, y6, Option.bind_some, y8]
end EXC2
