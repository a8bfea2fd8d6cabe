/-! Arrays and objects: class and model. -/
def CI (Zd : Nat → Nat) (K : KE) (st0 : CS) (ms0 : MS) (q : Nat → Nat) (cw : Nat) (I9 : Nat → Int32) (A9 : Nat → Nat → Int32) (R : Nat → Option Nat) (Q : Nat → Nat → Option Nat) (e r nn0 w : Nat) (o : Int32) (s : CS) (I : Nat → Int32) (A : Nat → Nat → Int32) (me : MS) (fst : Option Nat) (ks : List Kd) : Prop :=
  (Cx K s q cw I A R Q ∧ Tq I A me ∧ Wq I A ∧ le K st0 s ∧ kI3 I9 I ∧ kA A9 A) ∧
  (Nv Zd K s w o 0 [] [] fst none ∧ Cs (Tw Zd K s (e + 1)) fst ks none ∧ (w :: kN ks).Nodup ∧ (∀ x ∈ w :: kN ks, st0.1.1 ≤ x) ∧ (o = 6 → ((kL ks).map nmL).Nodup) ∧ ks.length ≤ (kL ks).flatten.length) ∧
  (I 3 = me.1 3 ∧ (I 3).toInt = nn0 + 1 + (kL ks).flatten.length ∧ (I 3).toInt ≤ 24) ∧
  ((me.1 4).toInt = r + 1 ∧ (me.2.2.1 3 r).toInt = nn0 ∧ ∀ k, k < r → me.2.2.1 3 k = ms0.2.2.1 3 k) ∧
  (me.2.2.1 1 (1920 + nn0) = o ∧ me.2.2.2 0 (1920 + nn0) = 0 ∧ me.2.2.2 1 (1920 + nn0) = 0 ∧ me.2.2.2 2 (1920 + nn0) = ms0.2.2.2 2 (1920 + nn0) ∧ me.2.2.2 3 (1920 + nn0) = ms0.2.2.2 3 (1920 + nn0)) ∧
  rowF me (1920 + nn0 + 1) (kL ks).flatten ∧ lowM (1920 + nn0) ms0 me ∧
  (s.1.1 + 2 ≤ st0.1.1 + 5 * (1 + (kL ks).flatten.length) ∧ s.1.2 + 14 ≤ st0.1.2 + 34 * (1 + (kL ks).flatten.length))
/-- an array or an object -/
def Ak (Zd : Nat → Nat) (o arr cl op : Int32) (kz : Nat) : Prop := (o = 5 ∧ arr = 1 ∧ cl = 93 ∧ op = 91 ∧ kz = Zd 13) ∨ (o = 6 ∧ arr = 0 ∧ cl = 125 ∧ op = 123 ∧ kz = Zd 14)
/-- what the reader of an array or object comes to, from a part on -/
def CO (Zd : Nat → Nat) (K : KE) (st0 : CS) (ms0 : MS) (q : Nat → Nat) (cw : Nat) (I9 : Nat → Int32) (A9 : Nat → Nat → Int32) (R : Nat → Option Nat) (Q : Nat → Nat → Option Nat) (e r nn0 w : Nat) (b : Int32) (ms1 : MS) (FD : Nat) (cv : Option (Option Nat × CS)) : Prop :=
  ∃ st1 I1 A1 n b2 ms2, mrun n b ms1 b2 ms2 ∧ Cx K st1 q cw I1 A1 R Q ∧ le K st0 st1 ∧ Wq I1 A1 ∧ kI3 I9 I1 ∧ kA A9 A1 ∧ lowM (1920 + nn0) ms0 ms2 ∧ st1.1.1 ≤ st0.1.1 + 5 * (24 - nn0) ∧ st1.1.2 ≤ st0.1.2 + 34 * (24 - nn0) ∧
    ((∃ N L, cv = some (some w, st1) ∧ Tw Zd K st1 (e + 2) N w none L ∧ nmL L = [] ∧ N.Nodup ∧ (∀ x ∈ N, st0.1.1 ≤ x) ∧ n + 2 * FD + 2 ≤ 2 * L.length ∧ (I1 3).toInt = nn0 + L.length ∧ (I1 3).toInt ≤ 24 ∧ st1.1.1 + 2 ≤ st0.1.1 + 5 * L.length ∧ st1.1.2 + 14 ≤ st0.1.2 + 34 * L.length ∧
      (Tq I1 A1 ms2 ∧ b2 = 0 ∧ I1 3 = ms2.1 3 ∧ (ms2.1 4).toInt = r ∧ (∀ k, k < r → ms2.2.2.1 3 k = ms0.2.2.1 3 k) ∧ rowIs ms2 (1920 + nn0) L ∧ ms2.2.2.2 2 (1920 + nn0) = ms0.2.2.2 2 (1920 + nn0) ∧ ms2.2.2.2 3 (1920 + nn0) = ms0.2.2.2 3 (1920 + nn0))) ∨
     (cv = some (none, st1) ∧ Fq I1 ms2 ∧ (n : Int) ≤ 2 * ((I1 3).toInt - (nn0 + 1 + FD)) + 1 ∧ (I1 3).toInt ≤ 24))
section CONT
variable {Zd : Nat → Nat} {K : KE} {st0 : CS} {ms0 : MS} {q : Nat → Nat} {cw : Nat} {I9 : Nat → Int32} {A9 : Nat → Nat → Int32} {R : Nat → Option Nat} {Q : Nat → Nat → Option Nat} {e r nn0 w : Nat} {o arr cl op : Int32} {kz : Nat} {s : CS} {I : Nat → Int32} {A : Nat → Nat → Int32} {me : MS} {fst : Option Nat} {ks : List Kd}
/-- the place moves on -/
theorem CI.p (hk : kc Zd K) (h : CI Zd K st0 ms0 q cw I9 A9 R Q e r nn0 w o s I A me fst ks) {s1 : CS} {p : Int32} (hC : Cx K s1 q cw (upd I 1 p) A R Q) (hst : stp K s s1) (hT : Tq (upd I 1 p) A (upd me.1 1 p, me.2.1, me.2.2.1, me.2.2.2)) : CI Zd K st0 ms0 q cw I9 A9 R Q e r nn0 w o s1 (upd I 1 p) A (upd me.1 1 p, me.2.1, me.2.2.1, me.2.2.2) fst ks := by
  obtain ⟨⟨h1, h2, h3, h4, h5, h6⟩, ⟨n1, n2, n3, n4, n5, n6⟩, g1, g2, g3, g4, g5, g6⟩ := h
  exact ⟨⟨hC, hT, ⟨h3.1, h3.2⟩, h4.tr hst.1, h5.tr (kI.p _ _).k3, h6⟩, ⟨n1.le hk.2.2 hst.1, Cs.mono ks fst none n2 (fun k _ nx h9 => Tw.le hk.2.2 hst.1 _ _ _ _ _ h9), n3, n4, n5, n6⟩, g1, g2, g3, g4, g5.tr ((kM.p me p me.2.1).low _), by rw [hst.2]; exact g6⟩
theorem CI.hold (h : CI Zd K st0 ms0 q cw I9 A9 R Q e r nn0 w o s I A me fst ks) (hr : r < 4) : m_holder me = some o := by
  have L := nums
  obtain ⟨-, -, ⟨g1, g1b, g1c⟩, ⟨g2, g3, -⟩, ⟨g4, -⟩, -⟩ := h
  have y4 : (me.1 4 - 1).toInt = r := by rw [i32sub (by omega) (by omega)]; omega
  have t4 : (me.1 4 - 1).toNatClampNeg = r := by rw [tnn, y4]; omega
  have i4 : vp_in (me.1 4 - 1) 5 := vp_of (by omega) (by omega)
  obtain ⟨t6, i6⟩ := rowN g3 (by omega)
  simp only [m_holder, at80, Option.bind_some, rd_in i4, t4, rd_in i6, t6, g4]
theorem Ak.fx (h : Ak Zd o arr cl op kz) : (if o = (5 : Int32) then (some (1 : Int32)) else (some (0 : Int32))) = some arr ∧ (if arr = (0 : Int32) then (some (125 : Int32)) else (some (93 : Int32))) = some cl ∧ 0 ≤ cl.toInt ∧ 0 ≤ op.toInt ∧ ¬ isDg cl ∧ (o = 5 ∨ o = 6) ∧ (arr = 0 → o = 6) ∧ (o = 6 → arr = 0) := by
  rcases h with ⟨rfl, rfl, rfl, rfl, -⟩ | ⟨rfl, rfl, rfl, rfl, -⟩
  · exact ⟨rfl, rfl, by decide, by decide, by unfold isDg; decide, Or.inl rfl, fun h => absurd h (by decide), fun h => absurd h (by decide)⟩
  · exact ⟨rfl, rfl, by decide, by decide, by unfold isDg; decide, Or.inr rfl, fun _ => rfl, fun _ => rfl⟩
/-- the closing bracket -/
theorem cont_end (hk : kc Zd K) (ha : Ak Zd o arr cl op kz) (hr : r < 4) (h : CI Zd K st0 ms0 q cw I9 A9 R Q e r nn0 w o s I A me fst ks) (hq : chr (A 0) (I 0) (I 1) = cl) : ∃ s1 m1, c_Text_take Zd K (q 1) cl s = some (1, s1) ∧ m_ends me = some m1 ∧ ∃ I1 A1, Cx K s1 q cw I1 A1 R Q ∧ le K st0 s1 ∧ Wq I1 A1 ∧ kI3 I9 I1 ∧ kA A9 A1 ∧ lowM (1920 + nn0) ms0 m1 ∧ s1.1 = s.1 ∧ ∃ N L, Tw Zd K s1 (e + 2) N w none L ∧ nmL L = [] ∧ N.Nodup ∧ (∀ x ∈ N, st0.1.1 ≤ x) ∧ L.length = 1 + (kL ks).flatten.length ∧ (I1 3).toInt = nn0 + L.length ∧ (I1 3).toInt ≤ 24 ∧ (Tq I1 A1 m1 ∧ I1 3 = m1.1 3 ∧ (m1.1 4).toInt = r ∧ (∀ k, k < r → m1.2.2.1 3 k = ms0.2.2.1 3 k) ∧ rowIs m1 (1920 + nn0) L ∧ m1.2.2.2 2 (1920 + nn0) = ms0.2.2.2 2 (1920 + nn0) ∧ m1.2.2.2 3 (1920 + nn0) = ms0.2.2.2 3 (1920 + nn0)) := by
  have L := nums
  obtain ⟨-, -, c0, -, -, ho, -, -⟩ := ha.fx
  obtain ⟨⟨h1, h2, h3, h4, h5, h6⟩, ⟨n1, n2, n3, n4, n5, n6⟩, ⟨g1, g1b, g1c⟩, ⟨g2, g3, g3b⟩, ⟨g4, g4b, g4c, g4d, g4e⟩, g5, g6, g7⟩ := h
  obtain ⟨s1, f1, f2, f3⟩ := c_take1 (Zd := Zd) h1 h2.2.2.2.2.2.1 h2.2.2.2.2.2.2.2 c0 hq
  obtain ⟨d1, d2, d3⟩ := chr_lt hq c0
  have h20 := h2.2.2.2.2.2.1
  have h28 := h2.2.2.2.2.2.2.2
  have k1 : (I 1 + 1).toInt = (I 1).toInt + 1 := by rw [i32add (by omega) (by omega)]; omega
  have y4 : (me.1 4 - 1).toInt = r := by rw [i32sub (by omega) (by omega)]; omega
  have t4 : (me.1 4 - 1).toNatClampNeg = r := by rw [tnn, y4]; omega
  have i4 : vp_in (me.1 4 - 1) 5 := vp_of (by omega) (by omega)
  obtain ⟨t6, i6⟩ := rowN g3 (by omega)
  have hm3 : (me.1 3).toInt = nn0 + 1 + (kL ks).flatten.length := by rw [← g1]; exact g1b
  have y9 : (me.1 3 - me.2.2.1 3 r).toInt = 1 + (kL ks).flatten.length := by rw [i32sub (by omega) (by omega)]; omega
  have y10 : (me.1 3 - me.2.2.1 3 r).toInt8.toInt32 = me.1 3 - me.2.2.1 3 r := nar_b (by omega) (by omega)
  have y12 : vp_nar .byte (me.1 3 - me.2.2.1 3 r) = me.1 3 - me.2.2.1 3 r := nar_b (by omega) (by omega)
  have hme : m_ends me = some (upd (upd me.1 4 (me.1 4 - 1)) 1 (I 1 + 1), me.2.1, va_up me.2.2.1 2 (upd (me.2.2.1 2) (1920 + nn0) (me.1 3 - me.2.2.1 3 r)), me.2.2.2) := by
    simp only [m_ends, at80, Option.bind_some, rd_in i4, t4, ix_in i6, t6, y10, y12, ← h2.2.2.1]
  have hokv : okV o 0 [] [] (kL ks) := ⟨fun h9 => by rcases ho with rfl | rfl <;> exact absurd h9 (by decide), ⟨by decide, fun c hc => by cases hc⟩, ⟨by decide, fun c hc => by cases hc⟩, by decide, n5⟩
  refine ⟨s1, _, f1, hme, upd I 1 (I 1 + 1), A, f2, h4.tr f3.1, ⟨h3.1, h3.2⟩, h5.tr (kI.p _ _).k3, h6, ?_, f3.2, w :: kN ks, (o, 1 + (kL ks).flatten.length, 0, [], []) :: (kL ks).flatten, ⟨o, 0, [], [], fst, ks, n1.le hk.2.2 f3.1, Cs.mono ks fst none n2 (fun k _ nx h9 => Tw.le hk.2.2 f3.1 _ _ _ _ _ h9), ⟨by omega, fun _ => Nat.succ_pos _⟩, hokv, rfl, rfl⟩, rfl, n3, n4, by rw [List.length_cons]; omega, by show (I 3).toInt = _; rw [List.length_cons]; omega, g1c, ?_⟩
  · refine ⟨fun k a1 a2 a3 a4 => ?_, fun k a1 a2 a3 => ?_, g6.2.2.1, fun j hj => ?_⟩
    · show upd (upd me.1 4 _) 1 _ k = _
      rw [upd_ne a1, upd_ne a4]; exact g6.1 k a1 a2 a3 a4
    · show va_up me.2.2.1 2 _ k = _
      rw [va_up_ne _ _ a2]; exact g6.2.1 k a1 a2 a3
    · obtain ⟨x1, x2, x3⟩ := g6.2.2.2 j hj
      refine ⟨x1, ?_, x3⟩
      dsimp only
      rw [va_up_self, upd_ne (by omega)]; exact x2
  · refine ⟨⟨h2.1, h2.2.1, rfl, h2.2.2.2.1, h2.2.2.2.2.1, by show 0 ≤ (I 1 + 1).toInt; omega, by show (I 1 + 1).toInt ≤ (I 0).toInt; omega, h28⟩, g1, y4, g3b, ?_, g4d, g4e⟩
    rw [rowIs_iff]
    refine ⟨⟨g4, ?_, ?_, ?_⟩, g5.keep (fun j hj1 hj2 => ⟨rfl, ?_, fun _ _ => rfl⟩)⟩
    · dsimp only
      rw [va_up_self, upd_self]
      exact i32eq (by rw [y9, ofNat_i (by omega)]; omega)
    · rw [g4b]
      rcases ho with rfl | rfl <;> rfl
    · rw [g4c]
      rcases ho with rfl | rfl <;> rfl
    · dsimp only
      rw [va_up_self, upd_ne (by omega)]
theorem mNmB (arr : Int32) {e51 : MS} {k b : Nat} (hb : 0 ≤ (e51.1 2).toInt) (hk : (e51.1 3).toInt = k) (hk2 : k < 100) (hbk : b ≤ 1920 + k) : ∃ e54, mNm arr e51 = some e54 ∧ e54.1 = e51.1 ∧ lowM b e51 e54 := by
  unfold mNm
  by_cases e : arr = 0
  · rw [if_pos e, if_pos (i32n hb)]
    exact ⟨e51, rfl, rfl, lowM.rf _ _⟩
  · rw [if_neg e, named_eq hk hk2, Option.bind_some]
    exact ⟨_, rfl, rfl, (lowM.named e51 (1920 + k) 0 0).dn hbk⟩
theorem dg_nbl {c : Int32} (h : isDg c) : ¬ isBl c := by
  rintro (e | e | e | e) <;> rw [e] at h <;> exact absurd h (by unfold isDg; decide)
theorem cont_l (hk : kc Zd K) (ha : Ak Zd o arr cl op kz) (hv : VL Zd K q cw R Q e) (hre : r + 1 + e = 4) {a1 : Int32} (ha1 : a1.toInt = r) (hw0 : wf K st0) (hz0 : Rz K st0 q) (z6 : st0.1.1 + 5 * (24 - nn0) ≤ Zd 6) (z7 : st0.1.2 + 34 * (24 - nn0) ≤ Zd 7) : ∀ (m f : Nat) (n9 : Int32) (sk s : CS) (I0 I : Nat → Int32) (A : Nat → Nat → Int32) (me : MS) (fst : Option Nat) (ks : List Kd), (24 : Int) ≤ (I 3).toInt + m → m < f → n9.toInt = ks.length → Cx K sk q cw I0 A R Q → c_Text_skipBlanks Zd K (q 1) sk = some s → ¬ isBl (chr (A 0) (I 0) (I 1)) → CI Zd K st0 ms0 q cw I9 A9 R Q e r nn0 w o s I A me fst ks →
    ∃ me1 b ms1, mNm arr me = some me1 ∧ mBg me1 = some (b, ms1) ∧ CO Zd K st0 ms0 q cw I9 A9 R Q e r nn0 w b ms1 (kL ks).flatten.length ((c_ValueParser_container_l1 Zd K (c_ValueParser_value Zd K (e + 2)) (q 2) (some (q 1)) a1 (some kz) cl w (q 1) f (n9, sk)).bind fun e32 => match e32 with | .inl o9 => some o9 | .inr e8 => (isO K e8.2 (q 1) 1).bind fun _ => (c_Text_fail Zd K (q 1) e8.2).bind fun st38 => some (none, st38)) := by
  have L := nums
  have N48 := n48
  obtain ⟨b1, b2, c0, op0, cnd, ho, harr, harr2⟩ := ha.fx
  have h10 : ¬ ((1 : Int32) = 0) := by decide
  intro m
  induction m with
  | zero =>
    intro f n9 sk s I0 I A me fst ks hm hf hn9 hCk hsk hbl hci
    -- no value is left: the part is at fault
    obtain ⟨f, rfl⟩ : ∃ g, f = g + 1 := ⟨f - 1, by omega⟩
    have hci0 := hci
    obtain ⟨⟨h1, h2, h3, h4, h5, h6⟩, ⟨n1, n2, n3, n4, n5, n6⟩, ⟨g1, g1b, g1c⟩, ⟨g2, g3, g3b⟩, -, g5, g6, g7, g7b⟩ := hci
    have hnn : (I 3).toInt = (24 : Nat) := by omega
    have k1 : (a1 + 1).toInt = (r + 1 : Nat) := by rw [i32add (by omega) (by omega)]; omega
    have h24 : ¬ (24 : Int32) ≤ n9 := fun e9 => by have := i32le.mp e9; omega
    have hpo : ∃ cvk, PO Zd K s q cw I A R Q me (e + 1) r nn0 24 arr ks cvk ∧ ∀ rv, cvk = some rv → ((if some kz = some (Zd 13) then ((some (a1 + (1 : Int32))).bind fun y65 => (isO K sk (q 2) 3).bind fun _ => (c_ValueParser_value Zd K (e + 2) (q 2) (some (q 1)) y65 sk).bind fun r68 => some (r68.1, r68.2)) else ((some (a1 + (1 : Int32))).bind fun y61 => (isO K sk (q 2) 3).bind fun _ => (c_ValueParser_member Zd K (c_ValueParser_value Zd K (e + 2)) (q 2) (some (q 1)) y61 (some w) sk).bind fun r64 => some (r64.1, r64.2))) = some rv) := by
      rcases ha with ⟨rfl, rfl, rfl, rfl, rfl⟩ | ⟨rfl, rfl, rfl, rfl, rfl⟩
      · refine ⟨_, arrKid (nn0 := nn0) (ks := ks) hv hre k1 hCk hsk h1 h2 h3 hbl g1 hnn (by omega) (by omega) g2 (by omega) (by omega), fun rv hrv => ?_⟩
        simp only [if_true, Option.bind_some, fo_2 hCk.1, hrv]
      · have hne : ¬ (some (Zd 14) = some (Zd 13)) := fun e9 => by
          have := hk.1 14 13 (by decide) (by decide) (by decide) (by decide) (Option.some.inj e9)
          omega
        refine ⟨_, objKid hk hv hre k1 hCk hsk h1 h2 h3 hbl g1 hnn (by omega) (by omega) g2 g3 (by omega) (by omega) n1 n2 (by omega) (by omega) g5, fun rv hrv => ?_⟩
        simp only [hne, if_false, Option.bind_some, fo_2 hCk.1, hrv]
    obtain ⟨cvk, ⟨st1, I1, A1, me1, b, ms1, n, b2', ms2, p1, p2, p3, p4, p5, p6, p7, p8, p9, p10, p11, p12⟩, hcv⟩ := hpo
    rcases p12 with ⟨a, N, Lk, e1, e2, e3, e4, e5, e6, e7, -⟩ | ⟨e1, e2, e3, e4⟩
    · have : Lk ≠ [] := fun e9 => by
        obtain ⟨⟨x, xs, hx, -⟩, -⟩ := tree_ok _ _ _ (Tw.tree _ _ _ _ _ e2)
        rw [e9] at hx; cases hx
      have : 0 < Lk.length := List.length_pos_iff.mpr this
      omega
    · refine ⟨me1, b, ms1, p1, p2, st1, I1, A1, n, b2', ms2, p3, p4, h4.tr p5, p6, h5.tr p7, h6.tr p8, g6.tr p9.1, by omega, by omega, Or.inr ⟨?_, e2, by omega, e4⟩⟩
      rw [c_ValueParser_container_l1_s, if_neg h24, hcv _ e1, Option.bind_some]
      rfl
  | succ m ih =>
    intro f n9 sk s I0 I A me fst ks hm hf hn9 hCk hsk hbl hci
    obtain ⟨f, rfl⟩ : ∃ g, f = g + 1 := ⟨f - 1, by omega⟩
    have hci0 := hci
    obtain ⟨⟨h1, h2, h3, h4, h5, h6⟩, ⟨n1, n2, n3, n4, n5, n6⟩, ⟨g1, g1b, g1c⟩, ⟨g2, g3, g3b⟩, ⟨g4, g4b, g4c, g4d, g4e⟩, g5, g6, g7, g7b⟩ := hci
    obtain ⟨nn, hnn⟩ : ∃ nn : Nat, (I 3).toInt = nn := ⟨(I 3).toInt.toNat, by omega⟩
    have k1 : (a1 + 1).toInt = (r + 1 : Nat) := by rw [i32add (by omega) (by omega)]; omega
    have k9 : (n9 + 1).toInt = n9.toInt + 1 := by rw [i32add (by omega) (by omega)]; omega
    have h24 : ¬ (24 : Int32) ≤ n9 := fun e9 => by have := i32le.mp e9; omega
    have hpo : ∃ cvk, PO Zd K s q cw I A R Q me (e + 1) r nn0 nn arr ks cvk ∧ ∀ rv, cvk = some rv → ((if some kz = some (Zd 13) then ((some (a1 + (1 : Int32))).bind fun y65 => (isO K sk (q 2) 3).bind fun _ => (c_ValueParser_value Zd K (e + 2) (q 2) (some (q 1)) y65 sk).bind fun r68 => some (r68.1, r68.2)) else ((some (a1 + (1 : Int32))).bind fun y61 => (isO K sk (q 2) 3).bind fun _ => (c_ValueParser_member Zd K (c_ValueParser_value Zd K (e + 2)) (q 2) (some (q 1)) y61 (some w) sk).bind fun r64 => some (r64.1, r64.2))) = some rv) := by
      rcases ha with ⟨rfl, rfl, rfl, rfl, rfl⟩ | ⟨rfl, rfl, rfl, rfl, rfl⟩
      · refine ⟨_, arrKid (nn0 := nn0) (ks := ks) hv hre k1 hCk hsk h1 h2 h3 hbl g1 hnn (by omega) (by omega) g2 (by omega) (by omega), fun rv hrv => ?_⟩
        simp only [if_true, Option.bind_some, fo_2 hCk.1, hrv]
      · have hne : ¬ (some (Zd 14) = some (Zd 13)) := fun e9 => by
          have := hk.1 14 13 (by decide) (by decide) (by decide) (by decide) (Option.some.inj e9)
          omega
        refine ⟨_, objKid hk hv hre k1 hCk hsk h1 h2 h3 hbl g1 hnn (by omega) (by omega) g2 g3 (by omega) (by omega) n1 n2 (by omega) (by omega) g5, fun rv hrv => ?_⟩
        simp only [hne, if_false, Option.bind_some, fo_2 hCk.1, hrv]
    obtain ⟨cvk, ⟨st1, I1, A1, me1, b, ms1, n, b2', ms2, p1, p2, p3, p4, p5, p6, p7, p8, p9, p10, p11, p12⟩, hcv⟩ := hpo
    refine ⟨me1, b, ms1, p1, p2, ?_⟩
    rcases p12 with ⟨a, N, Lk, e1, e2, e3, e4, e5, e5', e6, e8, e9, e10, e11⟩ | ⟨e1, e2, e3, e4⟩
    · -- a part is read
      have hokL := tree_ok _ _ _ (Tw.tree _ _ _ _ _ e2)
      have hLk : 0 < Lk.length := by
        obtain ⟨⟨x, xs, hx, -⟩, -⟩ := hokL
        rw [hx]; simp
      have hws : w < s.1.1 := by
        obtain ⟨k, c, n', hob, -⟩ := n1
        exact h1.2.1.1 w hob.1
      have hks : ∀ x ∈ kN ks, x < s.1.1 := fun x hx => h1.2.1.1 x (n2.dom x hx)
      have hst0 : st0.1.1 ≤ s.1.1 := by have := n4 w List.mem_cons_self; omega
      have hnd : (w :: (kN ks ++ N)).Nodup := by
        obtain ⟨a9, b9⟩ := List.nodup_cons.mp n3
        refine List.nodup_cons.mpr ⟨fun hx => ?_, List.nodup_append.mpr ⟨b9, e3, fun x hx y hy hxy => ?_⟩⟩
        · rcases List.mem_append.mp hx with hx | hx
          · exact a9 hx
          · have := e4 w hx; omega
        · have := hks x hx
          have := e4 y hy
          omega
      have n1' := n1.le hk.2.2 p5
      have n2' : Cs (Tw Zd K st1 (e + 1)) fst ks none := Cs.mono ks fst none n2 (fun k _ nx h9 => Tw.le hk.2.2 p5 _ _ _ _ _ h9)
      obtain ⟨s2, fst2, v1, v2, v3, v4⟩ := append_ok n1' n2' e2 hnd (by omega)
      have hC2 := v2.cx p4
      have hle2 : le K st0 s2 := le.vch hw0 hz0 (h4.tr p5) v2 (fun x hx => by
        rcases List.mem_cons.mp hx with rfl | hx
        · exact n4 _ List.mem_cons_self
        · rcases List.mem_append.mp hx with hx | hx
          · exact n4 x (List.mem_cons_of_mem _ hx)
          · have := e4 x hx; omega)
      have hkL : (kL (ks ++ [(N, a, Lk)])).flatten = (kL ks).flatten ++ Lk := by
        rw [kL_app, List.flatten_append]
        show _ ++ (Lk ++ []) = _
        rw [List.append_nil]
      have hkLl : (kL (ks ++ [(N, a, Lk)])).flatten.length = (kL ks).flatten.length + Lk.length := by rw [hkL, List.length_append]
      have hkN : kN (ks ++ [(N, a, Lk)]) = kN ks ++ N := by
        rw [kN_app, kN_cons]
        show _ ++ (N ++ []) = _
        rw [List.append_nil]
      have hcl1 : ((c_ValueParser_container_l1 Zd K (c_ValueParser_value Zd K (e + 2)) (q 2) (some (q 1)) a1 (some kz) cl w (q 1) (f + 1) (n9, sk))) = ((c_Text_skipBlanks Zd K (q 1) s2).bind fun st49 => (isO K st49 (q 1) 1).bind fun _ => (c_Text_take Zd K (q 1) cl st49).bind fun r53 => if r53.1 = (0 : Int32) then ((isO K r53.2 (q 1) 1).bind fun _ => (c_Text_need Zd K (q 1) (44 : Int32) r53.2).bind fun r57 => if r57.1 = (0 : Int32) then (some (.inl (none, r57.2))) else ((some (n9 + 1)).bind fun y59 => c_ValueParser_container_l1 Zd K (c_ValueParser_value Zd K (e + 2)) (q 2) (some (q 1)) a1 (some kz) cl w (q 1) f (y59, r57.2))) else (some (.inl (some w, r53.2)))) := by
        rw [c_ValueParser_container_l1_s, if_neg h24, hcv _ e1, Option.bind_some]
        show ((isO K st1 w 11).bind fun _ => (c_Value_append Zd K w (some a) st1).bind fun st46 => _) = _
        rw [n1'.is, Option.bind_some, v1, Option.bind_some, fo_1 hC2.1, Option.bind_some]
      rcases e11 with ⟨t1, t2, t3, t4, t5, t6⟩ | hpq
      · -- and stands well
        subst t2
        have hci2 : CI Zd K st0 ms0 q cw I9 A9 R Q e r nn0 w o s2 I1 A1 ms2 fst2 (ks ++ [(N, a, Lk)]) := by
          obtain ⟨lx1, lx2⟩ := p9
          obtain ⟨x1, x2, x3⟩ := lx2 (1920 + nn0) (Nat.le_refl _) (by omega)
          refine ⟨⟨hC2, t1, p6, hle2, h5.tr p7, h6.tr p8⟩, ⟨v3, v4, by rw [hkN]; exact hnd, fun x hx => ?_, fun ho6 => ?_, ?_⟩, ⟨t3, by rw [hkLl]; omega, e6⟩, ⟨by rw [t4]; exact g2, by rw [t5 r (by omega)]; exact g3, fun k hk9 => (t5 k (by omega)).trans (g3b k hk9)⟩, ⟨x1.trans g4, (x3 0 (by decide)).trans g4b, (x3 1 (by decide)).trans g4c, (x3 2 (by decide)).trans g4d, (x3 3 (by decide)).trans g4e⟩, ?_, g6.tr lx1, ?_⟩
          · rw [hkN] at hx
            rcases List.mem_cons.mp hx with rfl | hx
            · exact n4 _ List.mem_cons_self
            · rcases List.mem_append.mp hx with hx | hx
              · exact n4 x (List.mem_cons_of_mem _ hx)
              · have := e4 x hx; omega
          · rw [kL_app, List.map_append]
            refine List.nodup_append.mpr ⟨n5 ho6, List.nodup_cons.mpr ⟨(by simp), List.nodup_nil⟩, fun x hx y hy hxy => ?_⟩
            have hy2 : y = nmL Lk := by simpa [kL] using hy
            exact e10 (harr2 ho6) (by rw [← hy2, ← hxy]; exact hx)
          · rw [hkLl, List.length_append, List.length_singleton]
            omega
          · rw [hkL, rowF_app]
            refine ⟨g5.keep (fun j hj1 hj2 => ?_), ?_⟩
            · obtain ⟨z1, z2, z3⟩ := lx2 j (by omega) (by omega)
              exact ⟨z1, z2 (by omega), z3⟩
            · have e99 : 1920 + nn0 + 1 + (kL ks).flatten.length = 1920 + nn := by omega
              rw [e99]; exact t6
          · rw [hkLl, v2.1]
            omega
        obtain ⟨p, s3, y1, y2, y3, y4, y5, y6, y7, y8⟩ := skip_blanks (Zd := Zd) hC2 t1
        have hci3 := hci2.p hk y3 y4 y8
        have hhold := hci3.hold (by omega)
        have hlv2 : 0 < (ms2.1 4).toInt := by rw [t4]; omega
        have hbad2 : ms2.1 2 = -1 := t1.2.2.2.2.1
        have hp1 : upd I1 1 p 1 = p := upd_self
        by_cases hq : chr (A1 0) (upd I1 1 p 0) (upd I1 1 p 1) = cl
        · -- the last one
          obtain ⟨s4, m4, w1, w2, I4, A4, w3, w4, w5, w6, w7, w8, w9, N4, L4, w10, w11, w12, w13, w14, w15, w16, w17, w18, w19, w20, w21, w22, w23⟩ := cont_end hk ha (by omega) hci3 hq
          have hsee := m_sees_q y8 cl
          rw [if_pos hq] at hsee
          have hrun : mrun 1 0 ms2 0 m4 := mrun.ends hbad2 hlv2 y2 hhold b1 b2 hsee w2
          rw [hkLl] at w14
          have hci3r := hci3.2.2.2.2.2.2.2
          rw [hkLl, ← w9] at hci3r
          refine ⟨s4, I4, A4, n + 1, 0, m4, p3.tr hrun, w3, w4, w5, w6, w7, w8, by omega, by omega, Or.inl ⟨N4, L4, ?_, w10, w11, w12, w13, by omega, w15, w16, by omega, by omega, w17, rfl, w18, w19, w20, w21, w22, w23⟩⟩
          rw [hcl1, y1, Option.bind_some, fo_1 y3.1, Option.bind_some, w1, Option.bind_some]
          rfl
        · have htk := c_take0 (Zd := Zd) y3 y8.2.2.2.2.2.1 y8.2.2.2.2.2.2.2 hq
          have hsee := m_sees_q y8 cl
          rw [if_neg hq] at hsee
          by_cases hq4 : chr (A1 0) (upd I1 1 p 0) (upd I1 1 p 1) = 44
          · -- a comma
            obtain ⟨s5, z1, z2, z3⟩ := c_need1 (Zd := Zd) y3 y8.2.2.2.2.2.1 y8.2.2.2.2.2.2.2 (c := 44) (by decide) hq4
            have hmm := m_must1 y8 hq4
            obtain ⟨d1, d2, d3⟩ := chr_lt hq4 (by decide)
            have hb80 := y8.2.2.2.2.2.2.2
            have hb0 := y8.2.2.2.2.2.1
            rw [hp1] at z2 hmm d3 hb0
            have kp : (p + 1).toInt = p.toInt + 1 := by rw [i32add (by omega) (by omega)]; omega
            have hT5 := y8.up (p := p + 1) (J := ms2.2.1) (B := ms2.2.2.2) (by omega) (by omega)
            have hci5 := hci3.p hk z2 z3 hT5
            obtain ⟨p6', s6, u1, u2, u3, u4, u5, u6, u7, u8⟩ := skip_blanks (Zd := Zd) z2 hT5
            have hci6 := hci5.p hk u3 u4 u8
            have hI3e : (upd (upd (upd I1 1 p) 1 (p + 1)) 1 p6' 3) = I1 3 := rfl
            -- the next part
            obtain ⟨me1', b', ms1', x1, x2, st6, I6, A6, n6', b6, ms6, c1, c2, c3, c4, c5, c6, c7, c8, c9, c10⟩ := ih f (n9 + 1) s5 s6 _ _ A1 _ fst2 (ks ++ [(N, a, Lk)]) (by rw [hI3e]; omega) (by omega) (by rw [List.length_append, List.length_singleton]; omega) z2 u1 u7 hci6
            have hrun : mrun 1 0 ms2 b' ms1' := by
              refine mrun.part (y := (b', ms1')) hbad2 hlv2 y2 hhold b1 b2 hsee ?_ x1 x2
              rw [if_pos rfl, hmm, Option.bind_some, u2, Option.bind_some]
            rw [hkLl] at c10
            have hcl2 : c_ValueParser_container_l1 Zd K (c_ValueParser_value Zd K (e + 2)) (q 2) (some (q 1)) a1 (some kz) cl w (q 1) (f + 1) (n9, sk) = c_ValueParser_container_l1 Zd K (c_ValueParser_value Zd K (e + 2)) (q 2) (some (q 1)) a1 (some kz) cl w (q 1) f (n9 + 1, s5) := by
              rw [hcl1, y1, Option.bind_some, fo_1 y3.1, Option.bind_some, htk, Option.bind_some]
              show (if (0 : Int32) = 0 then _ else _) = _
              rw [if_pos rfl]
              show ((isO K s3 (q 1) 1).bind fun _ => _) = _
              rw [fo_1 y3.1, Option.bind_some, z1, Option.bind_some]
              rfl
            rw [hcl2]
            refine ⟨st6, I6, A6, n + (1 + n6'), b6, ms6, p3.tr (hrun.tr c1), c2, c3, c4, c5, c6, c7, c8, c9, ?_⟩
            rcases c10 with ⟨N6, L6, q1, q2, q3, q4, q5, q6, q7⟩ | ⟨q1, q2, q3, q4⟩
            · exact Or.inl ⟨N6, L6, q1, q2, q3, q4, q5, by omega, q7⟩
            · exact Or.inr ⟨q1, q2, by omega, q4⟩
          · -- neither comma nor bracket
            obtain ⟨s5, z1, z2, z3⟩ := c_need0 (Zd := Zd) y3 y8.2.2.2.2.2.1 y8.2.2.2.2.2.2.2 (c := 44) hq4 y8.2.2.2.1
            have hmm := m_must0 y8 hq4
            have hb80 := y8.2.2.2.2.2.2.2
            have hb0 := y8.2.2.2.2.2.1
            have hb7 := y8.2.2.2.2.2.2.1
            rw [hp1] at z2 hmm hb0 hb7
            have hbad : 0 ≤ (((upd (upd ms2.1 1 p) 2 p, ms2.2.1, ms2.2.2.1, ms2.2.2.2) : MS).1 2).toInt := hb0
            have hmm : m_must 44 (upd ms2.1 1 p, ms2.2.1, ms2.2.2.1, ms2.2.2.2) = some (upd (upd ms2.1 1 p) 2 p, ms2.2.1, ms2.2.2.1, ms2.2.2.2) := hmm
            have hm23 : (((upd (upd ms2.1 1 p) 2 p, ms2.2.1, ms2.2.2.1, ms2.2.2.2) : MS).1 3).toInt = (nn + Lk.length : Nat) := by
              show (ms2.1 3).toInt = _
              rw [← t3, e5']; omega
            obtain ⟨e54, x1, x2, x3⟩ := mNmB arr (b := 1920 + nn0) hbad hm23 (by omega) (by omega)
            have hb54 : 0 ≤ (e54.1 2).toInt := by rw [x2]; exact hb0
            have hrun : mrun 1 0 ms2 0 e54 := by
              refine mrun.part (y := (0, e54)) hbad2 hlv2 y2 hhold b1 b2 hsee ?_ x1 (mBgB hb54)
              rw [if_pos rfl, hmm, Option.bind_some, m_blanksB hbad, Option.bind_some]
            have hroom := hci3.2.2.2.2.2.2.2
            rw [hkLl, y4.2] at hroom
            refine ⟨s5, upd (upd I1 1 p) 2 p, A1, n + 1, 0, e54, p3.tr hrun, z2, hle2.tr (y4.1.tr z3.1), ⟨p6.1, p6.2⟩, (h5.tr p7).tr ((kI.p _ _).tr (kI.f _ _)).k3, h6.tr p8, ((g6.tr p9.1).tr (((kM.p ms2 p ms2.2.1).tr (kM.f _ _ _)).low _)).tr x3, ?_, ?_, Or.inr ⟨?_, ⟨hb0, ?_, ?_, hb0⟩, ?_, e6⟩⟩
            · rw [z3.2, y4.2]; omega
            · rw [z3.2, y4.2]; omega
            · rw [hcl1, y1, Option.bind_some, fo_1 y3.1, Option.bind_some, htk, Option.bind_some]
              simp only [if_true, fo_1 y3.1, Option.bind_some, z1]
            · show p.toInt ≤ 80
              omega
            · rw [x2]; rfl
            · show ((n + 1 : Nat) : Int) ≤ 2 * ((I1 3).toInt - _) + 1
              omega
      · -- a digit too many behind it
        obtain ⟨pq1, ⟨pq2, pq3, pq4⟩, pq5, pq6⟩ := hpq
        have hskip := c_skip_id (Zd := Zd) hC2 pq2 pq4 (dg_nbl pq5)
        have hncl : ¬ chr (A1 0) (I1 0) (I1 1) = cl := fun e9 => cnd (by rw [← e9]; exact pq5)
        have hn44 : ¬ chr (A1 0) (I1 0) (I1 1) = 44 := fun e9 => by rw [e9] at pq5; exact absurd pq5 (by unfold isDg; decide)
        have htk := c_take0 (Zd := Zd) hC2 pq2 pq4 hncl
        obtain ⟨s5, z1, z2, z3⟩ := c_need0 (Zd := Zd) hC2 pq2 pq4 (c := 44) hn44 pq1
        refine ⟨s5, upd I1 2 (I1 1), A1, n, b2', ms2, p3, z2, hle2.tr z3.1, ⟨p6.1, p6.2⟩, (h5.tr p7).tr (kI.f _ _).k3, h6.tr p8, g6.tr p9.1, ?_, ?_, Or.inr ⟨?_, ⟨pq2, pq3, pq6, pq2⟩, ?_, e6⟩⟩
        · rw [z3.2, v2.1]; omega
        · rw [z3.2, v2.1]; omega
        · rw [hcl1, hskip, Option.bind_some, fo_1 hC2.1, Option.bind_some, htk, Option.bind_some]
          simp only [if_true, fo_1 hC2.1, Option.bind_some, z1]
        · show (n : Int) ≤ 2 * ((I1 3).toInt - _) + 1
          omega
    · -- the part is at fault
      refine ⟨st1, I1, A1, n, b2', ms2, p3, p4, h4.tr p5, p6, h5.tr p7, h6.tr p8, g6.tr p9.1, by omega, by omega, Or.inr ⟨?_, e2, by omega, e4⟩⟩
      rw [c_ValueParser_container_l1_s, if_neg h24, hcv _ e1, Option.bind_some]
      rfl
end CONT
