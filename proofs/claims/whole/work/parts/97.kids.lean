/-! Parts of arrays and objects: class and model. -/
def lowX (b0 b : Nat) (ms ms2 : MS) : Prop := lowM b0 ms ms2 ∧ ∀ j, b0 ≤ j → j < b → ms2.2.2.1 1 j = ms.2.2.1 1 j ∧ (j ≠ b0 → ms2.2.2.1 2 j = ms.2.2.1 2 j) ∧ ∀ k, k < 4 → ms2.2.2.2 k j = ms.2.2.2 k j
theorem lowM.x {b0 b : Nat} {x y : MS} (h : lowM b x y) (hb : b0 ≤ b) : lowX b0 b x y := ⟨h.dn hb, fun j _ hj => ⟨(h.2.2.2 j hj).1, fun _ => (h.2.2.2 j hj).2.1, (h.2.2.2 j hj).2.2⟩⟩
theorem lowX.tr {b0 b : Nat} {x y z : MS} (h : lowX b0 b x y) (h1 : lowX b0 b y z) : lowX b0 b x z := ⟨h.1.tr h1.1, fun j a1 a2 => ⟨(h1.2 j a1 a2).1.trans (h.2 j a1 a2).1, fun a3 => ((h1.2 j a1 a2).2.1 a3).trans ((h.2 j a1 a2).2.1 a3), fun k hk => ((h1.2 j a1 a2).2.2 k hk).trans ((h.2 j a1 a2).2.2 k hk)⟩⟩
theorem lowX.sp (b0 b : Nat) (ms : MS) (v : Int32) : lowX b0 b ms (ms.1, ms.2.1, va_up ms.2.2.1 2 (upd (ms.2.2.1 2) b0 v), ms.2.2.2) := by
  refine ⟨⟨fun _ _ _ _ _ => rfl, fun k _ h2 _ => ?_, fun _ _ => rfl, fun j hj => ⟨rfl, ?_, fun _ _ => rfl⟩⟩, fun j h1 h2 => ⟨rfl, fun hne => ?_, fun _ _ => rfl⟩⟩
  · dsimp only
    rw [va_up_ne _ _ h2]
  · dsimp only
    rw [va_up_self, upd_ne (by omega)]
  · dsimp only
    rw [va_up_self, upd_ne hne]
/-- what is said of the readers of values inside -/
def VL (Zd : Nat → Nat) (K : KE) (q : Nat → Nat) (cw : Nat) (R : Nat → Option Nat) (Q : Nat → Nat → Option Nat) (e : Nat) : Prop := ∀ (r nn : Nat) (sk s : CS) (I0 I : Nat → Int32) (A : Nat → Nat → Int32) (ms : MS) (a1 : Int32), r + e = 4 → a1.toInt = r → Cx K sk q cw I0 A R Q → c_Text_skipBlanks Zd K (q 1) sk = some s → Cx K s q cw I A R Q → Tq I A ms → Wq I A → ¬ isBl (chr (A 0) (I 0) (I 1)) → I 3 = ms.1 3 → (I 3).toInt = nn → nn ≤ 24 → (ms.1 4).toInt = r → s.1.1 + 5 * (24 - nn) ≤ Zd 6 → s.1.2 + 34 * (24 - nn) ≤ Zd 7 → VO Zd K s q cw I A R Q ms (e + 1) r nn (c_ValueParser_value Zd K (e + 2) (q 2) (some (q 1)) a1 sk)
/-- what the reader of a part comes to -/
def PO (Zd : Nat → Nat) (K : KE) (s : CS) (q : Nat → Nat) (cw : Nat) (I : Nat → Int32) (A : Nat → Nat → Int32) (R : Nat → Option Nat) (Q : Nat → Nat → Option Nat) (me : MS) (d r nn0 nn : Nat) (arr : Int32) (ks : List Kd) (cv : Option (Option Nat × CS)) : Prop :=
  ∃ st1 I1 A1 me1 b ms1 n b2 ms2, mNm arr me = some me1 ∧ mBg me1 = some (b, ms1) ∧ mrun n b ms1 b2 ms2 ∧ Cx K st1 q cw I1 A1 R Q ∧ le K s st1 ∧ Wq I1 A1 ∧ kI3 I I1 ∧ kA A A1 ∧ lowX (1920 + nn0) (1920 + nn) me ms2 ∧ st1.1.1 ≤ s.1.1 + 2 + 5 * (24 - nn) ∧ st1.1.2 ≤ s.1.2 + 14 + 34 * (24 - nn) ∧
    ((∃ a N L, cv = some (some a, st1) ∧ Tw Zd K st1 d N a none L ∧ N.Nodup ∧ (∀ x ∈ N, s.1.1 ≤ x) ∧ n + 1 ≤ 2 * L.length ∧ (I1 3).toInt = nn + L.length ∧ (I1 3).toInt ≤ 24 ∧ st1.1.1 ≤ s.1.1 + 5 * L.length ∧ st1.1.2 ≤ s.1.2 + 34 * L.length ∧ (arr = 0 → nmL L ∉ (kL ks).map nmL) ∧
      ((Tq I1 A1 ms2 ∧ b2 = 0 ∧ I1 3 = ms2.1 3 ∧ ms2.1 4 = me.1 4 ∧ (∀ k, k < r + 1 → ms2.2.2.1 3 k = me.2.2.1 3 k) ∧ rowF ms2 (1920 + nn) L) ∨ Pq I1 A1 ms2)) ∨
     (cv = some (none, st1) ∧ Fq I1 ms2 ∧ (n : Int) ≤ 2 * ((I1 3).toInt - nn) ∧ (I1 3).toInt ≤ 24))
theorem nmd_nm (ns : List Int32) {L : List Nd} (h : okL L) : nmL (nmd ns L) = ns := by
  obtain ⟨⟨x, xs, rfl, -⟩, -⟩ := h
  rfl
theorem nmd_len (ns : List Int32) (L : List Nd) : (nmd ns L).length = L.length := by
  cases L <;> rfl
theorem nmd_row (ns : List Int32) {ms : MS} {b : Nat} {L : List Nd} (h : rowIs ms b L) : rowIs ms b (nmd ns L) := by
  cases L with
  | nil => exact h
  | cons x xs =>
    rw [rowIs_iff] at h
    show rowIs ms b ((x.1, x.2.1, x.2.2.1, x.2.2.2.1, ns) :: xs)
    rw [rowIs_iff]
    exact ⟨h.1, h.2⟩
theorem mBg_eq {ms m1 : MS} {b : Int32} (h2 : ms.1 2 = -1) (h : m_begins ms = some (b, m1)) (hb : b = 0 ∨ b = 1) : mBg ms = some (b, m1) := by
  unfold mBg
  rw [h2, if_neg neg1, h, Option.bind_some]
  rcases hb with rfl | rfl
  · rw [if_pos rfl]
  · exact if_neg (show ¬ ((1 : Int32) = 0) from by decide)
theorem mBgB {ms : MS} (h : 0 ≤ (ms.1 2).toInt) : mBg ms = some (0, ms) := by
  unfold mBg
  rw [if_pos (i32n h)]
theorem stp_of {K : KE} {st st1 : CS} (h : le K st st1) (h1 : st1.1 = st.1) : stp K st st1 := ⟨h, h1⟩
section KIDS
variable {Zd : Nat → Nat} {K : KE} {sk s : CS} {me : MS} {q : Nat → Nat} {cw : Nat} {I0 I : Nat → Int32} {A : Nat → Nat → Int32} {R : Nat → Option Nat} {Q : Nat → Nat → Option Nat}
theorem arrKid {e r nn0 nn : Nat} {a1 : Int32} {ks : List Kd} (hv : VL Zd K q cw R Q e) (hre : r + 1 + e = 4) (ha1 : a1.toInt = (r + 1 : Nat)) (hCk : Cx K sk q cw I0 A R Q) (hsk : c_Text_skipBlanks Zd K (q 1) sk = some s) (hC : Cx K s q cw I A R Q) (hT : Tq I A me) (hW : Wq I A) (hbl : ¬ isBl (chr (A 0) (I 0) (I 1))) (h3 : I 3 = me.1 3) (hnn : (I 3).toInt = nn) (hn : nn ≤ 24) (hn0 : nn0 < nn) (hlv : (me.1 4).toInt = r + 1) (z6 : s.1.1 + 5 * (24 - nn) ≤ Zd 6) (z7 : s.1.2 + 34 * (24 - nn) ≤ Zd 7) :
    PO Zd K s q cw I A R Q me (e + 1) r nn0 nn 1 ks (c_ValueParser_value Zd K (e + 2) (q 2) (some (q 1)) a1 sk) := by
  have hnm := named_eq (ms := me) (nn := nn) (by rw [← h3]; exact hnn) (by omega) 0 0
  have hlow := lowM.named me (1920 + nn) 0 0
  have hnames : va_up (va_up me.2.2.2 2 (vp_updL (me.2.2.2 2) (1920 + nn) 0)) 3 (vp_updL (me.2.2.2 3) (1920 + nn) 0) 2 (1920 + nn) = 0 ∧ va_up (va_up me.2.2.2 2 (vp_updL (me.2.2.2 2) (1920 + nn) 0)) 3 (vp_updL (me.2.2.2 3) (1920 + nn) 0) 3 (1920 + nn) = 0 := by
    rw [va_up_ne _ _ (show (2 : Nat) ≠ 3 by decide), va_up_self, va_up_self, updL_self, updL_self]
    exact ⟨rfl, rfl⟩
  obtain ⟨me1, hme, x1, x2, x3, x4⟩ : ∃ me1 : MS, m_named 0 0 me = some me1 ∧ me1.1 = me.1 ∧ me1.2.2.1 = me.2.2.1 ∧ lowM (1920 + nn) me me1 ∧ (me1.2.2.2 2 (1920 + nn) = 0 ∧ me1.2.2.2 3 (1920 + nn) = 0) := ⟨_, hnm, rfl, rfl, hlow, hnames⟩
  have hT1 : Tq I A me1 := by
    unfold Tq
    rw [x1, x2]
    exact hT
  have y3 : I 3 = me1.1 3 := by rw [x1]; exact h3
  have y4 : (me1.1 4).toInt = (r + 1 : Nat) := by rw [x1]; exact hlv
  have y2 : me1.1 2 = -1 := by rw [x1]; exact hT.2.2.2.2.1
  have y5 : me1.1 4 = me.1 4 := by rw [x1]
  have hen : enc [] = (0, 0) := rfl
  obtain ⟨st1, I1, A1, b, ms1, n, b2, ms2, g1, g2, g3, g4, g5, g6, g7, g8, g9, g10, g11, g12⟩ := hv (r + 1) nn sk s I0 I A me1 a1 hre ha1 hCk hsk hC hT1 hW hbl y3 hnn hn y4 z6 z7
  refine ⟨st1, I1, A1, me1, b, ms1, n, b2, ms2, ?_, mBg_eq y2 g1 g2, g3, g4, g5, g6, g7, g8, (x3.tr g9).x (by omega), by omega, by omega, ?_⟩
  · unfold mNm
    rw [if_neg (by decide), hme, Option.bind_some]
  · rcases g12 with ⟨a, N, L, e1, e2, e3, e4, e5, e6, e7, e8, e9, e10, e11⟩ | ⟨e1, e2, e3, e4⟩
    · left
      refine ⟨a, N, L, e1, e2, e4, e5, e6, e7, e8, by omega, by omega, fun h9 => absurd h9 (by decide), ?_⟩
      rcases e11 with ⟨f1, f2, f3, f4, f5, f6, f7, f8⟩ | f1
      · left
        refine ⟨f1, f2, f3, f4.trans y5, fun k hk => (f5 k hk).trans (by rw [x2]), ?_⟩
        rw [rowF_of (tree_ok (e + 1) a L (Tw.tree _ _ _ _ _ e2))]
        exact ⟨f6, by rw [f7, f8, e3, x4.1, x4.2, hen]⟩
      · exact Or.inr f1
    · exact Or.inr ⟨e1, e2, e3, e4⟩
theorem mem_name {m1 : MS} {r nn0 nn : Nat} (hs : m_string me = some m1) (hlv : (m1.1 4).toInt = r + 1) (hr : r < 5) (hh : (m1.2.2.1 3 r).toInt = nn0) (hnn : (m1.1 3).toInt = nn) (hn0 : nn0 < nn) (hn : nn ≤ 24) : m_memberName me = (if (0 : Int32) ≤ (m1.1 2) then (some (m1.1, m1.2.1, va_up m1.2.2.1 2 (upd (m1.2.2.1 2) (1920 + nn0) (m1.1 3 - m1.2.2.1 3 r)), m1.2.2.2)) else ((m_member (1920 + m1.2.2.1 3 r) (m1.2.1 0) (m1.2.1 1) (m1.1, m1.2.1, va_up m1.2.2.1 2 (upd (m1.2.2.1 2) (1920 + nn0) (m1.1 3 - m1.2.2.1 3 r)), m1.2.2.2)).bind fun x31 => if x31 < (0 : Int32) then (some (m1.1, m1.2.1, va_up m1.2.2.1 2 (upd (m1.2.2.1 2) (1920 + nn0) (m1.1 3 - m1.2.2.1 3 r)), m1.2.2.2)) else (some (upd m1.1 2 (me.1 1), m1.2.1, va_up m1.2.2.1 2 (upd (m1.2.2.1 2) (1920 + nn0) (m1.1 3 - m1.2.2.1 3 r)), m1.2.2.2)))).bind fun e17 => (m_named (e17.2.1 0) (e17.2.1 1) e17).bind fun st20 => (m_blanks st20).bind fun st23 => (m_must (58 : Int32) st23).bind fun st26 => (m_blanks st26).bind fun st29 => some st29 := by
  have L := nums
  have y7 : (m1.1 4 - 1).toInt = r := by rw [i32sub (by omega) (by omega)]; omega
  have t7 : (m1.1 4 - 1).toNatClampNeg = r := by rw [tnn, y7]; omega
  have i7 : vp_in (m1.1 4 - 1) 5 := vp_of (by omega) (by omega)
  obtain ⟨t9, i9⟩ := rowN hh (by omega)
  have y12 : (m1.1 3 - m1.2.2.1 3 r).toInt = (nn : Int) - nn0 := by rw [i32sub (by omega) (by omega)]; omega
  have y13 : (m1.1 3 - m1.2.2.1 3 r).toInt8.toInt32 = m1.1 3 - m1.2.2.1 3 r := nar_b (by omega) (by omega)
  have y15 : vp_nar .byte (m1.1 3 - m1.2.2.1 3 r) = m1.1 3 - m1.2.2.1 3 r := nar_b (by omega) (by omega)
  simp only [m_memberName, hs, Option.bind_some, at80, rd_in i7, t7, ix_in i9, t9, y13, y15]
/-- the rest of a name at fault -/
theorem nameB {e17 : MS} {nn : Nat} (hb : 0 ≤ (e17.1 2).toInt) (hnn : (e17.1 3).toInt = nn) (hn : nn ≤ 24) : ((m_named (e17.2.1 0) (e17.2.1 1) e17).bind fun st20 => (m_blanks st20).bind fun st23 => (m_must (58 : Int32) st23).bind fun st26 => (m_blanks st26).bind fun st29 => some st29) = some (e17.1, e17.2.1, e17.2.2.1, va_up (va_up e17.2.2.2 2 (vp_updL (e17.2.2.2 2) (1920 + nn) (e17.2.1 0))) 3 (vp_updL (e17.2.2.2 3) (1920 + nn) (e17.2.1 1))) := by
  rw [named_eq hnn (by omega), Option.bind_some]
  generalize hm : ((e17.1, e17.2.1, e17.2.2.1, va_up (va_up e17.2.2.2 2 (vp_updL (e17.2.2.2 2) (1920 + nn) (e17.2.1 0))) 3 (vp_updL (e17.2.2.2 3) (1920 + nn) (e17.2.1 1))) : MS) = m
  have hb1 : 0 ≤ (m.1 2).toInt := by rw [← hm]; exact hb
  rw [m_blanksB hb1, Option.bind_some, m_mustB hb1, Option.bind_some, m_blanksB hb1, Option.bind_some]
theorem c_failAt1 (h : Cx K s q cw I A R Q) (h2 : I 2 = -1) (x : Int32) : ∃ st1, c_Text_failAt Zd K (q 1) x s = some st1 ∧ Cx K st1 q cw (upd I 2 x) A R Q ∧ stp K s st1 := by
  obtain ⟨s1, f1, f2, f3⟩ := tw4 h x
  refine ⟨s1, ?_, f2, f3⟩
  simp only [c_Text_failAt, fg_1_4 h.1, h2, Option.bind_some, if_true, f1]
theorem objKid (hk : kc Zd K) {e r nn0 nn w : Nat} {a1 : Int32} {ks : List Kd} {fst nx0 : Option Nat} (hv : VL Zd K q cw R Q e) (hre : r + 1 + e = 4) (ha1 : a1.toInt = (r + 1 : Nat)) (hCk : Cx K sk q cw I0 A R Q) (hsk : c_Text_skipBlanks Zd K (q 1) sk = some s) (hC : Cx K s q cw I A R Q) (hT : Tq I A me) (hW : Wq I A) (hbl : ¬ isBl (chr (A 0) (I 0) (I 1))) (h3 : I 3 = me.1 3) (hnn : (I 3).toInt = nn) (hn : nn ≤ 24) (hn0 : nn0 < nn) (hlv : (me.1 4).toInt = r + 1) (hh : (me.2.2.1 3 r).toInt = nn0) (z6 : s.1.1 + 2 + 5 * (24 - nn) ≤ Zd 6) (z7 : s.1.2 + 14 + 34 * (24 - nn) ≤ Zd 7)
    (hw : Nv Zd K s w 6 0 [] [] fst nx0) (hcs : Cs (Tw Zd K s (e + 1)) fst ks none) (hkl : ks.length ≤ 1000) (hfl : nn = nn0 + 1 + (kL ks).flatten.length) (hrow : rowF me (1920 + nn0 + 1) (kL ks).flatten) :
    PO Zd K s q cw I A R Q me (e + 1) r nn0 nn 0 ks (c_ValueParser_member Zd K (c_ValueParser_value Zd K (e + 2)) (q 2) (some (q 1)) a1 (some w) sk) := by
  have L := nums
  have hmB : me.1 2 = -1 := hT.2.2.2.2.1
  have hmN : mNm 0 me = m_memberName me := by
    unfold mNm
    rw [if_pos rfl, hmB, if_neg neg1]
    cases m_memberName me <;> rfl
  have hokk : ∀ M ∈ kL ks, okL M := by
    intro M hM
    obtain ⟨k, hk9, rfl⟩ := List.mem_map.mp hM
    obtain ⟨nx, h9⟩ := Cs.all ks fst none hcs k hk9
    exact tree_ok _ _ _ (Tw.tree _ _ _ _ _ h9)
  rcases string_lock (Zd := Zd) hC hT hW (by omega) (by omega) with ⟨s1, m1, I1, A1, cs, j1, j2, j3, j4, j5, j6, j7, j8, j9, j10, j11, j12, j13, j14, j15, j16⟩ | ⟨s1, m1, I1, A1, j1, j2, j3, j4, j5, j6, j7, j8, j9⟩
  · -- the name is read
    have hl1 : (m1.1 4).toInt = r + 1 := by rw [j16.1 4 (by decide) (by decide)]; exact hlv
    have hh1 : (m1.2.2.1 3 r).toInt = nn0 := by rw [j16.2.1]; exact hh
    have hn1 : (m1.1 3).toInt = nn := by rw [j16.1 3 (by decide) (by decide), ← h3]; exact hnn
    have hm1 := mem_name j2 hl1 (by omega) hh1 hn1 hn0 hn
    have m12 : m1.1 2 = -1 := j7.2.2.2.2.1
    rw [m12, if_neg neg1] at hm1
    generalize hspv : m1.1 3 - m1.2.2.1 3 r = v at hm1
    have hv9 : v.toInt = 1 + (kL ks).flatten.length := by rw [← hspv, i32sub (by omega) (by omega)]; omega
    have hob : (1920 + m1.2.2.1 3 r).toInt = (1920 + nn0 : Nat) := by
      have := (rowN hh1 (by omega)).1
      rw [tnn] at this
      have h9 : (1920 : Int32).toInt = 1920 := by decide
      rw [i32add (by omega) (by omega)]; omega
    have hrow1 : rowF (m1.1, m1.2.1, va_up m1.2.2.1 2 (upd (m1.2.2.1 2) (1920 + nn0) v), m1.2.2.2) (1920 + nn0 + 1) (kL ks).flatten := by
      refine hrow.keep (fun j hj1 hj2 => ⟨?_, ?_, fun k hk9 => ?_⟩)
      · dsimp only
        rw [va_up_ne _ _ (by decide), j16.2.1]
      · dsimp only
        rw [va_up_self, upd_ne (by omega), j16.2.1]
      · show m1.2.2.2 k j = _
        rw [j16.2.2]
    have hmem := member_ok (ms := (m1.1, m1.2.1, va_up m1.2.2.1 2 (upd (m1.2.2.1 2) (1920 + nn0) v), m1.2.2.2)) (Ls := kL ks) hob (by dsimp only; rw [va_up_self, upd_self, hv9]) (by omega) hrow1 hokk (by unfold kL; rw [List.length_map]; omega) (m1.2.1 0) (m1.2.1 1)
    rw [hmem, Option.bind_some] at hm1
    have henc : (m1.2.1 0, m1.2.1 1) = enc (cs.map i2b) := by rw [j12, enc_i2b j10]
    rw [henc] at hm1
    have hoks : okS (cs.map i2b) := okS_i2b j11
    have hw1 := hw.le hk.2.2 j4
    have hcs1 : Cs (Tw Zd K s1 (e + 1)) fst ks none := Cs.mono ks fst none hcs (fun k _ nx h9 => Tw.le hk.2.2 j4 _ _ _ _ _ h9)
    obtain ⟨kk, q0, qo⟩ := hw1.q0
    have hkk : (some kk = some (Zd 14)) = ((6 : Int32) = ([0, 1, 2, 3, 4, 5, 6] : List Int32).getD 6 0) := kd_14 hk qo (i := 6) (by decide)
    have hkk1 : some kk = some (Zd 14) := by rw [hkk]; rfl
    have hcm := member_l (Zd := Zd) (rdC_T (e + 1)) j9 (by rw [List.length_map]; omega) ks 4096 fst hcs1 (by omega)
    have hcmem : c_Value_member Zd K w (some s.1.1) s1 = some ((ks.find? (fun k => decide (nmL k.2.2 = cs.map i2b))).map (fun k => k.2.1)) := by
      simp only [c_Value_member, q0, Option.bind_some, hkk1, if_true, hw1.q4, hcm]
      cases ks.find? (fun k => decide (nmL k.2.2 = cs.map i2b)) <;> rfl
    have hr := c_right1 (Zd := Zd) j3 j7.2.2.2.1
    cases hf : ks.find? (fun k => decide (nmL k.2.2 = cs.map i2b)) with
    | some kf =>
      -- the name is there already
      rw [hf] at hcmem
      have hkf : kf ∈ ks := List.mem_of_find?_eq_some hf
      have hkn : nmL kf.2.2 = cs.map i2b := by simpa using List.find?_some hf
      have hpos : 0 ≤ (fdR (enc (cs.map i2b)) (1920 + nn0 + 1) (kL ks) (-1)).toInt := fdR_some (kL ks) _ _ (by omega) (Or.inr ⟨kf.2.2, List.mem_map.mpr ⟨kf, hkf, rfl⟩, by rw [hkn]⟩)
      have hnl : ¬ fdR (enc (cs.map i2b)) (1920 + nn0 + 1) (kL ks) (-1) < 0 := fun e9 => by have := i32lt.mp e9; omega
      rw [if_neg hnl, Option.bind_some] at hm1
      have hb1 : 0 ≤ ((upd m1.1 2 (me.1 1)) 2).toInt := by rw [upd_self, ← hT.2.2.1]; exact hT.2.2.2.2.2.1
      rw [nameB (e17 := (upd m1.1 2 (me.1 1), m1.2.1, va_up m1.2.2.1 2 (upd (m1.2.2.1 2) (1920 + nn0) v), m1.2.2.2)) (nn := nn) hb1 hn1 hn] at hm1
      obtain ⟨s2, f1, f2, f3⟩ := c_failAt1 (Zd := Zd) j3 j7.2.2.2.1 (I 1)
      refine ⟨s2, _, _, _, 0, _, 0, 0, _, hmN.trans hm1, mBgB hb1, mrun.zero _ _, f2, j4.tr f3.1, ⟨j8.1, j8.2⟩, (j14.k3).tr (kI.f _ _).k3, j15, ?_, by rw [f3.2]; omega, by rw [f3.2]; omega, Or.inr ⟨?_, ⟨hT.2.2.2.2.2.1, by have := hT.2.2.2.2.2.2; show (I 1).toInt ≤ 80; omega, hT.2.2.1.symm, j7.2.2.2.2.2.1⟩, ?_, ?_⟩⟩
      · have h9 : lowX (1920 + nn0) (1920 + nn) me (m1.1, m1.2.1, va_up m1.2.2.1 2 (upd (m1.2.2.1 2) (1920 + nn0) v), m1.2.2.2) := ((j16.low (1920 + nn)).x (by omega)).tr (lowX.sp _ _ m1 v)
        have h8 : lowX (1920 + nn0) (1920 + nn) (m1.1, m1.2.1, va_up m1.2.2.1 2 (upd (m1.2.2.1 2) (1920 + nn0) v), m1.2.2.2) (upd m1.1 2 (me.1 1), m1.2.1, va_up m1.2.2.1 2 (upd (m1.2.2.1 2) (1920 + nn0) v), m1.2.2.2) := ((kM.f (m1.1, m1.2.1, va_up m1.2.2.1 2 (upd (m1.2.2.1 2) (1920 + nn0) v), m1.2.2.2) (me.1 1) m1.2.1).low (1920 + nn)).x (by omega)
        exact (h9.tr h8).tr ((lowM.named _ (1920 + nn) _ _).x (by omega))
      · simp only [c_ValueParser_member, Option.bind_some, fo_1 hCk.1, hsk, fg_1_3 hC.1, fo_1 hC.1, j1, fo_1 j3.1, hr, show ¬ ((1 : Int32) = 0) from by decide, if_false, hw1.is, hcmem, Option.map_some, nl, f1]
      · have : (upd I1 2 (I 1)) 3 = I 3 := j14 3 (by decide) (by decide) (by decide) (by decide)
        rw [this, hnn]; simp
      · have : (upd I1 2 (I 1)) 3 = I 3 := j14 3 (by decide) (by decide) (by decide) (by decide)
        rw [this, hnn]; omega
    | none =>
      rw [hf] at hcmem
      have hnone : ∀ M ∈ kL ks, nmL M ≠ cs.map i2b := by
        intro M hM e9
        obtain ⟨k, hk9, rfl⟩ := List.mem_map.mp hM
        have := List.find?_eq_none.mp hf k hk9
        exact this (by simpa using e9)
      have hoknm : ∀ M ∈ kL ks, okS (nmL M) := by
        intro M hM
        obtain ⟨k, hk9, rfl⟩ := List.mem_map.mp hM
        obtain ⟨nx, h9⟩ := Cs.all ks fst none hcs1 k hk9
        obtain ⟨-, n9, -, -, h8⟩ := rdC_T (e + 1) _ _ _ _ h9
        exact h8
      have hfn : fdR (enc (cs.map i2b)) (1920 + nn0 + 1) (kL ks) (-1) = -1 := fdR_none (kL ks) _ _ (fun M hM e9 => hnone M hM (enc_inj (hoknm M hM) hoks e9))
      rw [hfn, if_pos (by decide), Option.bind_some, named_eq (ms := (m1.1, m1.2.1, va_up m1.2.2.1 2 (upd (m1.2.2.1 2) (1920 + nn0) v), m1.2.2.2)) (nn := nn) hn1 (by omega), Option.bind_some] at hm1
      dsimp only at hm1
      generalize hm2 : ((m1.1, m1.2.1, va_up m1.2.2.1 2 (upd (m1.2.2.1 2) (1920 + nn0) v), va_up (va_up m1.2.2.2 2 (vp_updL (m1.2.2.2 2) (1920 + nn) (m1.2.1 0))) 3 (vp_updL (m1.2.2.2 3) (1920 + nn) (m1.2.1 1))) : MS) = m2 at hm1
      have hT2 : Tq I1 A1 m2 := by rw [← hm2]; exact j7
      have hx2 : lowX (1920 + nn0) (1920 + nn) me m2 := by
        have h9 : lowX (1920 + nn0) (1920 + nn) me (m1.1, m1.2.1, va_up m1.2.2.1 2 (upd (m1.2.2.1 2) (1920 + nn0) v), m1.2.2.2) := ((j16.low (1920 + nn)).x (by omega)).tr (lowX.sp _ _ m1 v)
        rw [← hm2]
        exact h9.tr ((lowM.named (m1.1, m1.2.1, va_up m1.2.2.1 2 (upd (m1.2.2.1 2) (1920 + nn0) v), m1.2.2.2) (1920 + nn) _ _).x (by omega))
      have hm23 : m2.1 3 = me.1 3 := by rw [← hm2]; exact j16.1 3 (by decide) (by decide)
      have hm24 : m2.1 4 = me.1 4 := by rw [← hm2]; exact j16.1 4 (by decide) (by decide)
      have hm2h : m2.2.2.1 3 = me.2.2.1 3 := by
        rw [← hm2]
        dsimp only
        rw [va_up_ne _ _ (by decide), j16.2.1]
      have hm2n : (m2.2.2.2 2 (1920 + nn), m2.2.2.2 3 (1920 + nn)) = enc (cs.map i2b) := by
        rw [← hm2, ← henc]
        dsimp only
        rw [va_up_ne _ _ (by decide), va_up_self, va_up_self, updL_self, updL_self]
      obtain ⟨p2, s2, k1, k2, k3, k4, k5, k6, k7, k8⟩ := skip_blanks (Zd := Zd) j3 hT2
      rw [k2, Option.bind_some] at hm1
      have hI13 : I1 3 = I 3 := j14 3 (by decide) (by decide) (by decide) (by decide)
      by_cases hq : chr (A1 0) (upd I1 1 p2 0) (upd I1 1 p2 1) = 58
      · obtain ⟨s3, l1, l2, l3⟩ := c_need1 (Zd := Zd) k3 k8.2.2.2.2.2.1 k8.2.2.2.2.2.2.2 (c := 58) (by decide) hq
        have hmm := m_must1 k8 hq
        rw [hmm, Option.bind_some] at hm1
        dsimp only at hm1
        rw [upd_upd] at l2
        obtain ⟨d1, d2, d3⟩ := chr_lt hq (by decide)
        have hp2 : upd I1 1 p2 1 = p2 := upd_self
        have hp20 : upd I1 1 p2 0 = I1 0 := rfl
        have hb80 := k8.2.2.2.2.2.2.2
        have hp0 : 0 ≤ (I1 1).toInt := j7.2.2.2.2.2.1
        have kp : (p2 + 1).toInt = p2.toInt + 1 := by rw [i32add (by rw [hp2, hp20] at d3; rw [hp20] at hb80; omega) (by rw [hp2, hp20] at d3; rw [hp20] at hb80; omega)]; omega
        rw [hp2, upd_upd] at hm1
        rw [hp2] at l2
        have hT3 : Tq (upd I1 1 (p2 + 1)) A1 (upd m2.1 1 (p2 + 1), m2.2.1, m2.2.2.1, m2.2.2.2) := hT2.up (by have := hT2.2.2.2.2.2.1; omega) (by rw [hp2, hp20] at d3; omega)
        obtain ⟨p4, s4, a1', a2', a3', a4', a5', a6', a7', a8'⟩ := skip_blanks (Zd := Zd) l2 hT3
        rw [a2', Option.bind_some] at hm1
        dsimp only at a8' hm1
        rw [upd_upd] at hm1 a3' a8'
        have a8' : Tq (upd I1 1 p4) A1 (upd m2.1 1 p4, m2.2.1, m2.2.2.1, m2.2.2.2) := by
          have := a8'
          rw [upd_upd] at this
          exact this
        have hs4 : s4.1 = s1.1 := by rw [a4'.2, l3.2, k4.2]
        have hs41 : s4.1.1 = s1.1.1 := by rw [hs4]
        have hs42 : s4.1.2 = s1.1.2 := by rw [hs4]
        obtain ⟨st5, I5, A5, b5, ms5, n5, b6, ms6, g1, g2, g3, g4, g5, g6, g7, g8, g9, g10, g11, g12⟩ := hv (r + 1) nn s3 s4 _ (upd I1 1 p4) A1 (upd m2.1 1 p4, m2.2.1, m2.2.2.1, m2.2.2.2) a1 hre ha1 l2 a1' a3' a8' ⟨j8.1, j8.2⟩ a7' (by show I1 3 = m2.1 3; rw [hI13, hm23, h3]) (by show (I1 3).toInt = nn; rw [hI13]; exact hnn) hn (by show (m2.1 4).toInt = _; rw [hm24]; exact hlv) (by rw [hs4]; omega) (by rw [hs4]; omega)
        have hles4 : le K s s4 := j4.tr (k4.1.tr (l3.1.tr a4'.1))
        have hkI5 : kI3 I I5 := (j14.k3).tr ((kI.p _ _).k3.tr g7)
        have hx6 : lowX (1920 + nn0) (1920 + nn) me ms6 := (hx2.tr (((kM.p m2 p4 m2.2.1).low _).x (by omega))).tr (g9.x (by omega))
        have hcl : ∀ rv, c_ValueParser_value Zd K (e + 2) (q 2) (some (q 1)) a1 s3 = some rv → c_ValueParser_member Zd K (c_ValueParser_value Zd K (e + 2)) (q 2) (some (q 1)) a1 (some w) sk = ((nl rv.1 (some rv.2) (fun a40z => (sF rv.2 a40z 11 3 (va_rf (some s.1.1))).bind fun st41 => some st41)).bind fun e38 => some (rv.1, e38)) := by
          intro rv hrv
          simp only [c_ValueParser_member, Option.bind_some, fo_1 hCk.1, hsk, fg_1_3 hC.1, fo_1 hC.1, j1, fo_1 j3.1, hr, show ¬ ((1 : Int32) = 0) from by decide, if_false, hw1.is, hcmem, Option.map_none, k1, fo_1 k3.1, l1, fo_2 l2.1, hrv]
          rfl
        rcases g12 with ⟨a, N, Lk, e1, e2, e3, e4, e5, e6, e7, e8, e9, e10, e11⟩ | ⟨e1, e2, e3, e4⟩
        · have hst : strOf K st5 s.1.1 = some (cs.map i2b) := g5.str (a4'.1.str (l3.1.str (k4.1.str j9)))
          obtain ⟨st6, f1, f2, f3⟩ := e2.name e4 hst hoks
          have hokL := tree_ok (e + 1) a Lk (Tw.tree _ _ _ _ _ e2)
          have hages : s.1.1 ≤ s4.1.1 := by rw [hs4]; omega
          refine ⟨st6, I5, A5, _, b5, ms5, n5, b6, ms6, hmN.trans hm1, mBg_eq (show upd m2.1 1 p4 2 = -1 from a8'.2.2.2.2.1) g1 g2, g3, f2.cx g4, le.vch hC.2.1 hC.2.2 (hles4.tr g5) f2 (fun x hx => by rw [List.mem_singleton] at hx; rw [hx]; have := e5 a e2.mem; omega), g6, hkI5, j15.tr g8, hx6, by rw [f2.1]; omega, by rw [f2.1]; omega, Or.inl ⟨a, N, nmd (cs.map i2b) Lk, ?_, f3, e4, fun x hx => by have := e5 x hx; omega, by rw [nmd_len]; exact e6, by rw [nmd_len]; exact e7, e8, by rw [f2.1, nmd_len]; omega, by rw [f2.1, nmd_len]; omega, fun _ => ?_, ?_⟩⟩
          · rw [hcl _ e1]
            show ((sF st5 a 11 3 (va_rf (some s.1.1))).bind fun st41 => some st41).bind _ = _
            rw [f1]
            rfl
          · rw [nmd_nm _ hokL]
            intro hmem9
            obtain ⟨M, hM, hMe⟩ := List.mem_map.mp hmem9
            exact hnone M hM hMe
          · rcases e11 with ⟨f1', f2', f3', f4', f5', f6', f7', f8'⟩ | f1'
            · left
              refine ⟨f1', f2', f3', f4'.trans hm24, fun k hk9 => ?_, ?_⟩
              · rw [f5' k hk9]
                show m2.2.2.1 3 k = _
                rw [hm2h]
              · rw [rowF_of (tree_ok (e + 1) a _ (Tw.tree _ _ _ _ _ f3))]
                refine ⟨nmd_row _ f6', ?_⟩
                rw [f7', f8', nmd_nm _ hokL]
                exact hm2n
            · exact Or.inr f1'
        · refine ⟨st5, I5, A5, _, b5, ms5, n5, b6, ms6, hmN.trans hm1, mBg_eq (show upd m2.1 1 p4 2 = -1 from a8'.2.2.2.2.1) g1 g2, g3, g4, hles4.tr g5, g6, hkI5, j15.tr g8, hx6, by omega, by omega, Or.inr ⟨?_, e2, e3, e4⟩⟩
          rw [hcl _ e1]
          rfl
      · obtain ⟨s3, l1, l2, l3⟩ := c_need0 (Zd := Zd) k3 k8.2.2.2.2.2.1 k8.2.2.2.2.2.2.2 (c := 58) hq k8.2.2.2.1
        have hmm := m_must0 k8 hq
        rw [hmm, Option.bind_some] at hm1
        dsimp only at hm1
        have hp2 : upd I1 1 p2 1 = p2 := upd_self
        rw [hp2] at hm1 l2
        have hp0 : 0 ≤ p2.toInt := by have := hT2.2.2.2.2.2.1; omega
        have hp8 : p2.toInt ≤ 80 := by have := hT2.2.2.2.2.2.2.2; omega
        rw [m_blanksB (ms := (upd (upd m2.1 1 p2) 2 p2, m2.2.1, m2.2.2.1, m2.2.2.2)) hp0, Option.bind_some] at hm1
        refine ⟨s3, _, _, _, 0, _, 0, 0, _, hmN.trans hm1, mBgB hp0, mrun.zero _ _, l2, j4.tr (k4.1.tr l3.1), ⟨j8.1, j8.2⟩, (j14.k3).tr ((kI.p _ _).tr (kI.f _ _)).k3, j15, hx2.tr ((((kM.p m2 p2 m2.2.1).tr (kM.f _ _ _)).low _).x (by omega)), by rw [l3.2, k4.2]; omega, by rw [l3.2, k4.2]; omega, Or.inr ⟨?_, ⟨hp0, hp8, rfl, hp0⟩, ?_, ?_⟩⟩
        · simp only [c_ValueParser_member, Option.bind_some, fo_1 hCk.1, hsk, fg_1_3 hC.1, fo_1 hC.1, j1, fo_1 j3.1, hr, show ¬ ((1 : Int32) = 0) from by decide, if_false, hw1.is, hcmem, Option.map_none, k1, fo_1 k3.1, l1, if_true]
          rfl
        · show (0 : Int) ≤ 2 * ((I1 3).toInt - nn)
          rw [hI13, hnn]; simp
        · show (I1 3).toInt ≤ 24
          rw [hI13, hnn]; omega
  · -- the name is at fault
    have hl1 : (m1.1 4).toInt = r + 1 := by rw [j9.1 4 (by decide) (by decide)]; exact hlv
    have hh1 : (m1.2.2.1 3 r).toInt = nn0 := by rw [j9.2.1]; exact hh
    have hn1 : (m1.1 3).toInt = nn := by rw [j9.1 3 (by decide) (by decide), ← h3]; exact hnn
    have hm1 := mem_name j2 hl1 (by omega) hh1 hn1 hn0 hn
    have hb : 0 ≤ (m1.1 2).toInt := by rw [j5.2.2.1]; exact j5.1
    rw [if_pos (i32n hb), Option.bind_some, nameB (e17 := (m1.1, m1.2.1, va_up m1.2.2.1 2 (upd (m1.2.2.1 2) (1920 + nn0) (m1.1 3 - m1.2.2.1 3 r)), m1.2.2.2)) (nn := nn) hb hn1 hn] at hm1
    have hr := c_right0 (Zd := Zd) j3 j5.1
    refine ⟨s1, I1, A1, _, 0, _, 0, 0, _, hmN.trans hm1, mBgB hb, mrun.zero _ _, j3, j4.1, j6, j7.k3, j8, ?_, by rw [j4.2]; omega, by rw [j4.2]; omega, Or.inr ⟨?_, ⟨j5.1, j5.2.1, j5.2.2⟩, ?_, ?_⟩⟩
    · exact (((j9.low (1920 + nn)).x (by omega)).tr (lowX.sp _ _ m1 _)).tr ((lowM.named _ (1920 + nn) _ _).x (by omega))
    · simp only [c_ValueParser_member, Option.bind_some, fo_1 hCk.1, hsk, fg_1_3 hC.1, fo_1 hC.1, j1, fo_1 j3.1, hr, if_true]
    · have : I1 3 = I 3 := j7 3 (by decide) (by decide) (by decide) (by decide)
      rw [this, hnn]; simp
    · have : I1 3 = I 3 := j7 3 (by decide) (by decide) (by decide) (by decide)
      rw [this, hnn]; omega
end KIDS
