/-! An operation done: class and model. -/
section PERF
variable {Zd : Nat → Nat} {K : KE} {st0 s : CS} {ms0 ms : MS} {q : Nat → Nat} {cw : Nat} {I0 I : Nat → Int32} {A0 A : Nat → Nat → Int32} {R0 : Nat → Option Nat} {Q : Nat → Nat → Option Nat} {N : List Nat} {a : Nat} {L : List Nd}
/-- what an operation comes to -/
def PO9 (Zd : Nat → Nat) (K : KE) (st0 : CS) (ms0 : MS) (q : Nat → Nat) (cw : Nat) (I0 : Nat → Int32) (A0 : Nat → Nat → Int32) (R0 : Nat → Option Nat) (Q : Nat → Nat → Option Nat) (s : CS) (cv : Option (Int32 × CS)) (mv : Option (Int32 × MS)) : Prop := ∃ x s1 I1 A1 ms1 r, cv = some (x, s1) ∧ mv = some (x, ms1) ∧ s1.1.1 ≤ s.1.1 + 70 ∧ s1.1.2 ≤ s.1.2 + 440 ∧ PF K st0 ms0 q cw I0 A0 R0 Q s1 I1 A1 ms1 (some r) ∧ (x = 0 ∨ (x = 1 ∧ ∃ N1 L1, PD Zd K st0 9 48 s1 ms1 N1 r L1))
theorem PF.mv {r : Option Nat} {m9 : MS} (h : PF K st0 ms0 q cw I0 A0 R0 Q s I A ms r) (h1 : kW 1980 ms m9) : PF K st0 ms0 q cw I0 A0 R0 Q s I A m9 r := ⟨h.1, h.2.1, h.2.2.1, h.2.2.2.1, h.2.2.2.2.1, h.2.2.2.2.2.tr h1⟩
theorem PD.low (h : PD Zd K st0 5 24 s ms N a L) (hw : wf K s) : st0.1.1 ≤ s.1.1 ∧ ∀ x ∈ N, x < s.1.1 := by
  obtain ⟨⟨nx, hT⟩, hnd, hNb, hr, hl⟩ := h
  have hd : ∀ x ∈ N, x < s.1.1 := fun x hx => hw.1 x (Tw.dom _ _ _ _ _ hT x hx)
  refine ⟨?_, hd⟩
  have := hNb a hT.mem
  have := hd a hT.mem
  omega
/-- a copy beside the document -/
theorem beside (hc : kc Zd K) {r : Option Nat} (hF : PF K st0 ms0 q cw I0 A0 R0 Q s I A ms r) (hD : PD Zd K st0 5 24 s ms N a L) {e p : Nat} {L1 : List Nd} (h1 : treeOf Zd K s e p = some L1) (he : e ≤ 5) (hl1 : L1.length ≤ 24) (z6 : s.1.1 + 24 ≤ Zd 6) (z7 : s.1.2 + 144 ≤ Zd 7) :
    ∃ s1 V, c_Value_copyOf Zd K 10 (some p) 0 s = some (some s.1.1, s1) ∧ le K s s1 ∧ s1.1.1 ≤ s.1.1 + 24 ∧ s1.1.2 ≤ s.1.2 + 144 ∧ (∀ m9, kW 1980 ms m9 → PF K st0 ms0 q cw I0 A0 R0 Q s1 I A m9 r) ∧ (∀ m9, m9.2.2 = ms.2.2 ∨ rowIs m9 1980 L → rowIs m9 1980 L → PD Zd K st0 5 24 s1 m9 N a L) ∧ Tw Zd K s1 5 V s.1.1 none (nmd [] L1) ∧ V.Nodup ∧ (∀ x ∈ V, x ∉ N) ∧ (∀ x ∈ V, st0.1.1 ≤ x) := by
  obtain ⟨hlo, hNlt⟩ := hD.low hF.1.2.1
  obtain ⟨s1, V, c1, c2, c3, c4, c5, c6, c7, c8⟩ := copy_ok9 hc e 10 p L1 0 s h1 (by omega) (by decide) (by rw [nums.1]; omega) hF.1 (by omega) (by omega)
  obtain ⟨⟨nx, hT⟩, hnd, hNb, hr, hl⟩ := hD
  refine ⟨s1, V, c1, c3, by omega, by omega, fun m9 h9 => ⟨c2, hF.2.1.tr c3, hF.2.2.1, hF.2.2.2.1, hF.2.2.2.2.1, hF.2.2.2.2.2.tr h9⟩, fun m9 _ hr9 => ⟨⟨nx, Tw.le hc.2.2 c3 _ _ _ _ _ hT⟩, hnd, hNb, hr9, hl⟩, c6.ups 5 he, c7, fun x hx hxN => ?_, fun x hx => ?_⟩
  · have := c8 x hx
    have := hNlt x hxN
    omega
  · have := c8 x hx
    omega
theorem perf_lock (hc : kc Zd K) (hw0 : wf K st0) (hz0 : Rz K st0 q) (hF : PF K st0 ms0 q cw I0 A0 R0 Q s I A ms (some a)) (hD : PD Zd K st0 5 24 s ms N a L) {d op c : Nat} {Lo : List Nd} (hd : d + 1 ≤ 5) (hLo : treeOf Zd K st0 (d + 1) op = some Lo) (hro : rowIs ms0 c Lo) (hlo : Lo.length ≤ 24) (hco : c + Lo.length ≤ 1980) (hop : OPD Lo) {v : Int32} (hv : v.toInt = c) (z6 : s.1.1 + 70 ≤ Zd 6) (z7 : s.1.2 + 440 ≤ Zd 7) :
    PO9 Zd K st0 ms0 q cw I0 A0 R0 Q s (c_Patcher_perform Zd K (q 3) (some op) s) (m_done v ms) := by
  have h10 : ¬ ((1 : Int32) = 0) := by decide
  have hb1 : bz 1 = some () := rfl
  have hb0 : bz 0 = some () := rfl
  obtain ⟨E1, E2, E3, E4, E5, E6, E7, E8⟩ := encs
  obtain ⟨os, ps, O1, O2, O3⟩ := hop
  have hwf := hF.1.2.1
  have hLs := hF.2.1.tree _ _ _ hLo
  have hrs : rowIs ms c Lo := hro.kW hF.2.2.2.2.2 hco
  have hc2 : c + 24 ≤ 2100 := by omega
  obtain ⟨y, hy, hy6⟩ : ∃ y, Lo[0]? = some y ∧ y.1 = 6 := by
    obtain ⟨z, x, y, h1, h2, -⟩ := O1
    exact ⟨y, h1, h2⟩
  obtain ⟨kd, oo, y2, n1, n2, n3, n4, n5, n6⟩ := hd_lock hc hLs hrs hlo hc2 hv
  rcases txt_lock hc hwf hLs hrs hlo hc2 hv hy hy6 (i := 4) (pr := (23, [111, 112])) rfl E1 with ⟨-, x9, -, -, a4⟩ | ⟨sb, os2, x1, a1, a2, a3, a4, a5, a6, a7, a8, a9⟩
  · exact absurd O1 (a4 os)
  have : os2 = os := a9.uniq O1
  subst this
  rcases txt_lock hc hwf hLs hrs hlo hc2 hv hy hy6 (i := 5) (pr := (24, [112, 97, 116, 104])) rfl E2 with ⟨-, x9, -, -, b4⟩ | ⟨pb, ps2, x5, b1, b2, b3, b4, b5, b6, b7, b8, b9⟩
  · exact absurd O2 (b4 ps)
  have : ps2 = ps := b9.uniq O2
  subst this
  clear O1 O2 a9 b9
  have hPt : Pt K s pb (ps2.map u8) := ⟨ps2, b3, b4, rfl⟩
  have henc : enc ps2 = encU (ps2.map u8) := rfl
  rw [henc] at b7 b8
  generalize hus : ps2.map u8 = us at *
  obtain ⟨hok, hle⟩ := hPt.ok
  have hml := enc_len hok hle
  have hni := ofNat_i (n := us.length) (by omega)
  obtain ⟨x17, k1, k2, k3⟩ := ptr_lock (Zd := Zd) hPt
  obtain ⟨⟨nx, hT⟩, hnd, hNb, hr, hl⟩ := hD
  have hD : PD Zd K st0 5 24 s ms N a L := ⟨⟨nx, hT⟩, hnd, hNb, hr, hl⟩
  rcases k3 with rfl | ⟨rfl, hp⟩
  · refine ⟨0, s, I, A, ms, a, ?_, ?_, by omega, by omega, hF, Or.inl rfl⟩
    · simp only [c_Patcher_perform, a2, b2, Option.bind_some, k1, if_true]
    · simp only [m_done, a5, a7, b5, b7, b8, Option.bind_some, k2, if_true]
  have isO12 := str_isO a3
  obtain ⟨qm, mm⟩ := is_lock hc hwf a3 a4 (i := 11) (pr := (30, [114, 101, 109, 111, 118, 101])) rfl E6
  obtain ⟨qc, mc⟩ := is_lock hc hwf a3 a4 (i := 9) (pr := (28, [99, 111, 112, 121])) rfl E8
  obtain ⟨-, ma⟩ := is_lock hc hwf a3 a4 (i := 6) (pr := (25, [97, 100, 100])) rfl E5
  -- the model's way along the path
  obtain ⟨sw, Iw, Aw, mw, -, g2, -, -, -, -, -, -, -, g10, g11, -⟩ := lead_lock (Zd := Zd) hc hT hl hPt hp hF.1 hF.2.2.1 hr (e := us.length) (Nat.le_refl _) (Or.inl rfl) hni (by omega) (by omega)
  have hkw : kW 1980 ms mw := kW.eq g10 g11
  have hrw : rowIs mw 1980 L := hr.eq g11
  have hDw : PD Zd K st0 5 24 s mw N a L := ⟨⟨nx, hT⟩, hnd, hNb, hrw, hl⟩
  rcases O3 with ⟨ear, zv, hzv⟩ | ⟨ec, fs, hfs⟩ | em
  · -- add, replace
    have em : ¬ os2 = [114, 101, 109, 111, 118, 101] := by rcases ear with e | e <;> rw [e] <;> decide
    have ec : ¬ os2 = [99, 111, 112, 121] := by rcases ear with e | e <;> rw [e] <;> decide
    rw [if_neg em] at qm
    rw [if_neg ec] at qc
    have cm : ¬ lg_cmp (enc os2).1 432457123577554290 = 0 := fun e => em (mm.mp e)
    have cc : ¬ lg_cmp (enc os2).1 288230378189123427 = 0 := fun e => ec (mc.mp e)
    rcases mem_lock (ms := mw) hc hwf hLs (hrs.eq g11) hlo hc2 hv hy hy6 (i := 8) (pr := (27, [118, 97, 108, 117, 101])) rfl E4 with ⟨m1, -⟩ | ⟨z, a99, L9, A9, B9, m1, m2, m3, m4, m5, m6, m7⟩
    · rw [m1] at hzv; cases hzv
    have hL9 : Lo.length = A9.length + L9.length + B9.length := by rw [m5, List.length_append, List.length_append]
    have hr9 : rowIs mw (c + z) L9 := by
      have := hrs.eq g11
      rw [m5] at this
      rw [← m6]; exact rowIs_sub this
    obtain ⟨mp, p1, p2, p3, p4⟩ := part_ok (v := Int32.ofNat (c + z)) hr9 (tree_ok _ _ _ m4) (by omega) (by omega) (ofNat_i (by omega))
    obtain ⟨s1, V, c1, c3, c4, c5, c6, c7, c8, c9, c10, c11⟩ := beside hc (hF.mv hkw) hDw m4 (by omega) (by omega) (by omega) (by omega)
    have hFp := c6 mp (p3.dn (by omega))
    have hrp : rowIs mp 1980 L := hrw.kW p3 (by omega)
    have hDp := c7 mp (Or.inr hrp) hrp
    have hVr : rowIs mp 2040 (nmd [] L9) := nmd_row [] p2
    have hVl : (nmd [] L9).length ≤ 24 := by rw [nmd_len]; omega
    have hPt1 := hPt.le c3
    have hwf1 := hFp.1.2.1
    obtain ⟨qr, -⟩ := is_lock hc hwf1 (c3.str a3) a4 (i := 7) (pr := (26, [114, 101, 112, 108, 97, 99, 101])) rfl E7
    by_cases ea : os2 = [97, 100, 100]
    · have ca := ma.mpr ea
      have er : ¬ os2 = [114, 101, 112, 108, 97, 99, 101] := by rw [ea]; decide
      rw [if_neg er] at qr
      obtain ⟨x, s2, I2, A2, ms2, r2, w1, w2, w3, w4, w5, w6⟩ := add_lock hc hw0 hz0 hFp hDp hPt1 hp c8 c9 c10 c11 hVr hVl (nmd_nm [] (tree_ok _ _ _ m4)) (by omega) (by omega)
      refine ⟨x, s2, I2, A2, ms2, r2, ?_, ?_, by omega, by omega, w5, w6⟩
      · have hbx : bz x = some () := by rcases w6 with e | ⟨e, -⟩ <;> rw [e] <;> rfl
        simp only [c_Patcher_perform, a2, b2, Option.bind_some, k1, h10, if_false, isO12, qm, qc, if_true, n3, m2, nl, c1, str_isO (c3.str a3), qr, fo_3 hFp.1.1, w1, hbx]
      · have hbx : bz x = some () := by rcases w6 with e | ⟨e, -⟩ <;> rw [e] <;> rfl
        simp only [m_done, a5, a7, b5, b7, b8, Option.bind_some, k2, h10, if_false, cc, hml, g2, cm, m3, p1, ca, if_true, w2, hbx]
    · have er : os2 = [114, 101, 112, 108, 97, 99, 101] := ear.resolve_left ea
      have ca : ¬ lg_cmp (enc os2).1 216172782120363105 = 0 := fun e => ea (ma.mp e)
      rw [if_pos er] at qr
      obtain ⟨x, s2, I2, A2, ms2, r2, w1, w2, w3, w4, w5, w6⟩ := exR_lock hc hw0 hz0 hFp hDp hPt1 hp c8 c9 c10 c11 hVr hVl (by omega) (by omega)
      refine ⟨x, s2, I2, A2, ms2, r2, ?_, ?_, by omega, by omega, w5, w6⟩
      · have hbx : bz x = some () := by rcases w6 with e | ⟨e, -⟩ <;> rw [e] <;> rfl
        simp only [c_Patcher_perform, a2, b2, Option.bind_some, k1, h10, if_false, isO12, qm, qc, if_true, n3, m2, nl, c1, str_isO (c3.str a3), qr, fo_3 hFp.1.1, w1, hbx]
      · have hbx : bz x = some () := by rcases w6 with e | ⟨e, -⟩ <;> rw [e] <;> rfl
        simp only [m_done, a5, a7, b5, b7, b8, Option.bind_some, k2, h10, if_false, cc, hml, g2, cm, m3, p1, ca, w2, hbx]
  · -- copy
    have em : ¬ os2 = [114, 101, 109, 111, 118, 101] := by rw [ec]; decide
    have er : ¬ os2 = [114, 101, 112, 108, 97, 99, 101] := by rw [ec]; decide
    have cc := mc.mpr ec
    rw [if_neg em] at qm
    rw [if_pos ec] at qc
    rcases txt_lock hc hwf hLs hrs hlo hc2 hv hy hy6 (i := 10) (pr := (29, [102, 114, 111, 109])) rfl E3 with ⟨-, x9, -, -, f4⟩ | ⟨fb, fs2, x44, f1, f2, f3, f4, f5, f6, f7, f8, f9⟩
    · exact absurd hfs (f4 fs)
    have hPf : Pt K s fb (fs2.map u8) := ⟨fs2, f3, f4, rfl⟩
    have henc2 : enc fs2 = encU (fs2.map u8) := rfl
    rw [henc2] at f7 f8
    generalize hvs : fs2.map u8 = vs at *
    obtain ⟨hokv, hlev⟩ := hPf.ok
    have hmlv := enc_len hokv hlev
    have hniv := ofNat_i (n := vs.length) (by omega)
    obtain ⟨x49, j1, j2, j3⟩ := ptr_lock (Zd := Zd) hPf
    have hdoc : gQ K s (q 3) 4 1 = some (some a) := by rw [fg_3_1 hF.1.1, va_up_self]
    rcases j3 with rfl | ⟨rfl, hpv⟩
    · refine ⟨0, s, I, A, ms, a, ?_, ?_, by omega, by omega, hF, Or.inl rfl⟩
      · simp only [c_Patcher_perform, a2, b2, Option.bind_some, k1, h10, if_false, isO12, qm, qc, if_true, f2, fo_3 hF.1.1, c_Patcher_copySource, j1, nl]
      · simp only [m_done, a5, a7, b5, b7, b8, Option.bind_some, k2, h10, if_false, cc, if_true, f5, f7, f8, j2, show ((-1) : Int32) < 0 from by decide, hb0]
    · obtain ⟨s1, I1, A1, ms1, i1, i2, i3, i4, i5, i6, i7, i8, i9, i10, i11, i12⟩ := lead_lock (Zd := Zd) hc hT hl hPf hpv hF.1 hF.2.2.1 hr (e := vs.length) (Nat.le_refl _) (Or.inl rfl) hniv (by omega) (by omega)
      have hF1 : PF K st0 ms0 q cw I0 A0 R0 Q s1 I1 A1 ms1 (some a) := ⟨i3, hF.2.1.tr i4, i7, hF.2.2.2.1.tr i8, hF.2.2.2.2.1.tr i9, hF.2.2.2.2.2.tr (kW.eq i10 i11)⟩
      have hT1 := Tw.le hc.2.2 i4 _ _ _ _ _ hT
      have hr1 : rowIs ms1 1980 L := hr.eq i11
      have hD1 : PD Zd K st0 5 24 s1 ms1 N a L := ⟨⟨nx, hT1⟩, hnd, hNb, hr1, hl⟩
      have hcs : c_Patcher_copySource Zd K (q 3) (some fb) s = some ((wlk L vs 16 0 0 vs.length).bind fun j => N[j]?, s1) := by
        simp only [c_Patcher_copySource, j1, Option.bind_some, h10, if_false, fg_3_0 hF.1.1, hdoc, hPf.is, hPf.len, fo_10 hF.1.1, i1]
      cases hw : wlk L vs 16 0 0 vs.length with
      | none =>
        rw [hw] at hcs i2
        refine ⟨0, s1, I1, A1, ms1, a, ?_, ?_, by omega, by omega, hF1, Or.inl rfl⟩
        · simp only [c_Patcher_perform, a2, b2, Option.bind_some, k1, h10, if_false, isO12, qm, qc, if_true, f2, fo_3 hF.1.1, hcs]
          rfl
        · simp only [m_done, a5, a7, b5, b7, b8, Option.bind_some, k2, h10, if_false, cc, if_true, f5, f7, f8, j2, hmlv, i2, show ci none < (0 : Int32) from by decide, hb0]
      | some i =>
        obtain ⟨p, hpN⟩ := i12 i hw
        rw [hw, Option.bind_some, hpN] at hcs
        rw [hw] at i2
        have hil : i < L.length := by have := (List.getElem?_eq_some_iff.mp hpN).1; have := Tw.len _ _ _ _ _ hT; omega
        obtain ⟨e9, N1, nx1, L1, A9, B9, M9, M19, t1, t2, t3, t4, -, -, -⟩ := Tw.foc hc.2.2 _ _ _ _ _ hT1 i p hpN
        have hL1l : L.length = A9.length + L1.length + B9.length := by rw [t3, List.length_append, List.length_append]
        have htr := Tw.tree _ _ _ _ _ t1
        have hrL1 : rowIs ms1 (1980 + i) L1 := by
          have := hr1
          rw [t3] at this
          rw [← t4]; exact rowIs_sub this
        have hcii : (ci (some i)).toInt = (1980 + i : Nat) := by show (Int32.ofNat (1980 + i)).toInt = _; rw [ofNat_i (by omega)]
        have hc0 : ¬ ci (some i) < 0 := fun e => by have := i32lt.mp e; have := nums; omega
        obtain ⟨mp, p1, p2, p3, p4⟩ := part_ok (v := ci (some i)) hrL1 t1.ok (by omega) (by omega) hcii
        obtain ⟨s2, V, c1, c3, c4, c5, c6, c7, c8, c9, c10, c11⟩ := beside hc hF1 hD1 htr t2 (by omega) (by omega) (by omega)
        have hFp := c6 mp (p3.dn (by omega))
        have hrp : rowIs mp 1980 L := hr1.kW p3 (by omega)
        have hDp := c7 mp (Or.inr hrp) hrp
        have hVr : rowIs mp 2040 (nmd [] L1) := nmd_row [] p2
        have hVl : (nmd [] L1).length ≤ 24 := by rw [nmd_len]; omega
        have hl2 := i4.tr c3
        have hPt1 := hPt.le hl2
        have hwf1 := hFp.1.2.1
        obtain ⟨qr, -⟩ := is_lock hc hwf1 (hl2.str a3) a4 (i := 7) (pr := (26, [114, 101, 112, 108, 97, 99, 101])) rfl E7
        rw [if_neg er] at qr
        obtain ⟨x, s3, I2, A2, ms2, r2, w1, w2, w3, w4, w5, w6⟩ := add_lock hc hw0 hz0 hFp hDp hPt1 hp c8 c9 c10 c11 hVr hVl (nmd_nm [] t1.ok) (by omega) (by omega)
        refine ⟨x, s3, I2, A2, ms2, r2, ?_, ?_, by omega, by omega, w5, w6⟩
        · have hbx : bz x = some () := by rcases w6 with e | ⟨e, -⟩ <;> rw [e] <;> rfl
          simp only [c_Patcher_perform, a2, b2, Option.bind_some, k1, h10, if_false, isO12, qm, qc, if_true, f2, fo_3 hF.1.1, hcs, nl, c1, str_isO (hl2.str a3), qr, fo_3 hFp.1.1, w1, hbx]
        · rcases w6 with e | ⟨e, -⟩
          · rw [e] at w2 ⊢
            simp only [m_done, a5, a7, b5, b7, b8, Option.bind_some, k2, h10, if_false, cc, if_true, f5, f7, f8, j2, hmlv, i2, hc0, p1, w2, hb0]
          · rw [e] at w2 ⊢
            simp only [m_done, a5, a7, b5, b7, b8, Option.bind_some, k2, h10, if_false, cc, if_true, f5, f7, f8, j2, hmlv, i2, hc0, p1, w2, hb1]
  · -- remove
    have ec : ¬ os2 = [99, 111, 112, 121] := by rw [em]; decide
    have cm := mm.mpr em
    have cc : ¬ lg_cmp (enc os2).1 288230378189123427 = 0 := fun e => ec (mc.mp e)
    rw [if_pos em] at qm
    have hem := hPt.emp (Zd := Zd)
    by_cases h0 : us.length = 0
    · rw [if_pos h0] at hem
      have hwk : wlk L us 16 0 0 us.length = some 0 := by rw [h0]; rfl
      rw [hwk] at g2
      have hci : ci (some 0) = 1980 := by decide
      rw [hci] at g2
      have hrm : m_removed 1980 mw = some (0, mw) := by
        simp only [m_removed, at81, Option.bind_some, show ¬ ((1980 : Int32) < 1980) from by decide, if_false]
      refine ⟨0, s, I, A, mw, a, ?_, ?_, by omega, by omega, hF.mv hkw, Or.inl rfl⟩
      · simp only [c_Patcher_perform, a2, b2, Option.bind_some, k1, h10, if_false, isO12, qm, hPt.is, hem, hb0]
      · simp only [m_done, a5, a7, b5, b7, b8, Option.bind_some, k2, h10, if_false, cc, hml, g2, cm, if_true, hrm, hb0]
    · rw [if_neg h0] at hem
      obtain ⟨x, s2, I2, A2, ms2, w1, w2, w3, w4, w5, w6⟩ := exD_lock hc hw0 hz0 (hF.mv hkw) hDw hPt hp h0 (by omega) (by omega)
      refine ⟨x, s2, I2, A2, ms2, a, ?_, ?_, by omega, by omega, w5, w6⟩
      · rcases w6 with e | ⟨e, -⟩
        · rw [e] at w1 ⊢
          simp only [c_Patcher_perform, a2, b2, Option.bind_some, k1, h10, if_false, isO12, qm, hPt.is, hem, if_true, fo_3 hF.1.1, w1, hb0]
        · rw [e] at w1 ⊢
          simp only [c_Patcher_perform, a2, b2, Option.bind_some, k1, h10, if_false, isO12, qm, hPt.is, hem, if_true, fo_3 hF.1.1, w1, hb1]
      · have hbx : bz x = some () := by rcases w6 with e | ⟨e, -⟩ <;> rw [e] <;> rfl
        simp only [m_done, a5, a7, b5, b7, b8, Option.bind_some, k2, h10, if_false, cc, hml, g2, cm, if_true, w2, hbx]
end PERF
