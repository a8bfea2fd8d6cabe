/-! A list of operations: class and model. -/
theorem OPD.two {L : List Nd} (h : OPD L) (hE : ∀ z, kidAt L 0 [111, 112] = some z → 0 < z) : 2 ≤ L.length := by
  obtain ⟨os, ps, ⟨z, x, y, h1, h2, h3, h4, -⟩, -⟩ := h
  have := hE z h3
  have := (List.getElem?_eq_some_iff.mp h4).1
  omega
theorem fnd_ge {t : List Int32} {z : Nat} : ∀ (Ls : List (List Nd)) (c : Nat), fnd t c Ls = some z → c ≤ z := by
  intro Ls
  induction Ls with
  | nil => intro c h; cases h
  | cons X Ls ih =>
    intro c h
    unfold fnd at h
    by_cases e : (nmL X).map u8 = t
    · rw [if_pos e] at h; cases h; exact Nat.le_refl _
    · rw [if_neg e] at h
      have := ih _ h
      omega
theorem OPD.two' {L : List Nd} (h : OPD L) : 2 ≤ L.length := by
  refine h.two (fun z hz => ?_)
  obtain ⟨os, ps, ⟨z0, x, y, h1, h2, h3, h4, -⟩, -⟩ := h
  unfold kidAt at hz
  rw [h1] at hz
  dsimp only at hz
  rw [if_pos h2] at hz
  exact fnd_ge _ _ hz
section APPLY
variable {Zd : Nat → Nat} {K : KE} {st0 s : CS} {ms0 ms : MS} {q : Nat → Nat} {cw : Nat} {I0 I : Nat → Int32} {A0 A : Nat → Nat → Int32} {R0 : Nat → Option Nat} {Q : Nat → Nat → Option Nat}
/-- whether all parts are operations -/
theorem il_l (hc : kc Zd K) (hwf : wf K s) {d E : Nat} {sp : Int32} (hsp : rd (ms.2.2.1 2) 2100 1920 = some sp) (hE : (1920 + sp).toInt = E) (hE2 : E ≤ 1980) : ∀ (ks : List Kd) (c f1 f2 : Nat) (r : Option Nat) (v : Int32), Cs (fT Zd K s (d + 1)) r ks none → rowF ms c (kL ks).flatten → c + (kL ks).flatten.length = E → (kL ks).flatten.length ≤ 24 → v.toInt = c → ks.length < f1 → ks.length < f2 → (∃ e1 e2, c_Patcher_isList_l1 Zd K s f1 r = some (.inr e1) ∧ m_operate_l1 ms 1920 f2 v = some (.inr e2) ∧ ∀ k ∈ ks, OPD k.2.2) ∨ (c_Patcher_isList_l1 Zd K s f1 r = some (.inl 0) ∧ m_operate_l1 ms 1920 f2 v = some (.inl (-3, ms))) := by
  intro ks
  induction ks with
  | nil =>
    intro c f1 f2 r v h hr he hl hv hf1 hf2
    obtain ⟨f1, rfl⟩ : ∃ f, f1 = f + 1 := ⟨f1 - 1, by have : 0 < f1 := hf1; omega⟩
    obtain ⟨f2, rfl⟩ : ∃ f, f2 = f + 1 := ⟨f2 - 1, by have : 0 < f2 := hf2; omega⟩
    have h : r = none := h
    subst h
    have he : c + 0 = E := he
    have hle : 1920 + sp ≤ v := i32le.mpr (by omega)
    refine Or.inl ⟨none, v, by rw [c_Patcher_isList_l1_s]; rfl, ?_, fun k hk => by cases hk⟩
    rw [m_operate_l1_s]
    simp only [hsp, Option.bind_some, hle, if_true]
  | cons k ks ih =>
    intro c f1 f2 r v h hr he hl hv hf1 hf2
    obtain ⟨f1, rfl⟩ : ∃ f, f1 = f + 1 := ⟨f1 - 1, by have : ks.length + 1 < f1 := hf1; omega⟩
    obtain ⟨f2, rfl⟩ : ∃ f, f2 = f + 1 := ⟨f2 - 1, by have : ks.length + 1 < f2 := hf2; omega⟩
    obtain ⟨h1, nx, h2, h3⟩ := h
    subst h1
    rw [kL_cons, List.flatten_cons] at hr he hl
    rw [List.length_append] at he hl
    have hokk := tree_ok _ _ _ h2.1
    obtain ⟨s1, s2⟩ := spanF hr hokk hv (by omega)
    have hrk : rowIs ms c k.2.2 := ((rowF_of hokk).mp (rowF_app.mp hr).1).1
    have hspi : (Int32.ofNat k.2.2.length).toInt = k.2.2.length := ofNat_i (by omega)
    have hv2 : (v + Int32.ofNat k.2.2.length).toInt = (c + k.2.2.length : Nat) := by rw [i32add (by omega) (by omega)]; omega
    have hnle : ¬ 1920 + sp ≤ v := fun e => by have := i32le.mp e; omega
    obtain ⟨x, w1, w2, w3⟩ := form_lock hc hwf h2.1 hrk (by omega) (by omega) hv
    rcases w3 with rfl | ⟨rfl, w3⟩
    · right
      refine ⟨?_, ?_⟩
      · rw [c_Patcher_isList_l1_s]
        simp only [nl, w1, Option.bind_some, if_true]
      · rw [m_operate_l1_s]
        simp only [hsp, Option.bind_some, hnle, if_false, w2, if_true]
    · have h10 : ¬ ((1 : Int32) = 0) := by decide
      have e1 : c_Patcher_isList_l1 Zd K s (f1 + 1) (some k.2.1) = c_Patcher_isList_l1 Zd K s f1 nx := by
        rw [c_Patcher_isList_l1_s]
        simp only [nl, w1, Option.bind_some, h10, if_false, h2.2]
      have e2 : m_operate_l1 ms 1920 (f2 + 1) v = m_operate_l1 ms 1920 f2 (v + Int32.ofNat k.2.2.length) := by
        rw [m_operate_l1_s]
        simp only [hsp, Option.bind_some, hnle, if_false, w2, h10, s1]
      rw [e1, e2]
      rcases ih (c + k.2.2.length) f1 f2 nx _ h3 (rowF_app.mp hr).2 (by omega) (by omega) hv2 (Nat.lt_of_succ_lt_succ hf1) (Nat.lt_of_succ_lt_succ hf2) with ⟨x1, x2, y1, y2, y3⟩ | y
      · refine Or.inl ⟨x1, x2, y1, y2, fun k9 hk9 => ?_⟩
        rcases List.mem_cons.mp hk9 with e9 | e9
        · rw [e9]; exact w3
        · exact y3 k9 e9
      · exact Or.inr y
/-- what a list of operations comes to -/
def AO (Zd : Nat → Nat) (K : KE) (st0 : CS) (ms0 : MS) (q : Nat → Nat) (cw : Nat) (I0 : Nat → Int32) (A0 : Nat → Nat → Int32) (R0 : Nat → Option Nat) (Q : Nat → Nat → Option Nat) (s : CS) (m : Nat) (cv : Option ((Int32 × CS) ⊕ (Int32 × Option Nat × CS))) (mv : Option ((Int32 × MS) ⊕ (Int32 × Int32 × MS))) : Prop :=
  ∃ s1 I1 A1 ms1 r, s1.1.1 ≤ s.1.1 + 70 * m ∧ s1.1.2 ≤ s.1.2 + 440 * m ∧ PF K st0 ms0 q cw I0 A0 R0 Q s1 I1 A1 ms1 (some r) ∧
    ((∃ x, cv = some (.inl (x, s1)) ∧ mv = some (.inl (x, ms1)) ∧ x ≠ 0) ∨ (∃ x1 r1 x2 x3 N1 L1, cv = some (.inr (x1, r1, s1)) ∧ mv = some (.inr (x2, x3, ms1)) ∧ PD Zd K st0 5 24 s1 ms1 N1 r L1))
set_option maxRecDepth 10000 in
theorem ap_l (hc : kc Zd K) (hw0 : wf K st0) (hz0 : Rz K st0 q) {d E : Nat} (hd : d + 1 ≤ 5) {sp : Int32} (hsp : rd (ms0.2.2.1 2) 2100 1920 = some sp) (hE : (1920 + sp).toInt = E) (hE2 : E ≤ 1980) : ∀ (ks : List Kd) (c f1 f2 : Nat) (r : Option Nat) (v i : Int32) (s : CS) (I : Nat → Int32) (A : Nat → Nat → Int32) (ms : MS) (N : List Nat) (a : Nat) (L : List Nd), Cs (fT Zd K st0 (d + 1)) r ks none → rowF ms0 c (kL ks).flatten → c + (kL ks).flatten.length = E → (kL ks).flatten.length ≤ 24 → 1920 ≤ c → (∀ k ∈ ks, OPD k.2.2) → v.toInt = c → 0 ≤ i.toInt → i.toInt + ks.length ≤ 100 → ks.length < f1 → ks.length < f2 → PF K st0 ms0 q cw I0 A0 R0 Q s I A ms (some a) → PD Zd K st0 5 24 s ms N a L → s.1.1 + 70 * ks.length ≤ Zd 6 → s.1.2 + 440 * ks.length ≤ Zd 7 →
    AO Zd K st0 ms0 q cw I0 A0 R0 Q s ks.length (c_Patcher_apply_l1 Zd K (q 3) f1 (i, r, s)) (m_operate_l2 1920 f2 (i, v, ms)) := by
  have Nn := nums
  have h10 : ¬ ((1 : Int32) = 0) := by decide
  intro ks
  induction ks with
  | nil =>
    intro c f1 f2 r v i s I A ms N a L h hr he hl hc9 hop hv hi0 hi1 hf1 hf2 hF hD z6 z7
    obtain ⟨f1, rfl⟩ : ∃ f, f1 = f + 1 := ⟨f1 - 1, by have : 0 < f1 := hf1; omega⟩
    obtain ⟨f2, rfl⟩ : ∃ f, f2 = f + 1 := ⟨f2 - 1, by have : 0 < f2 := hf2; omega⟩
    have h : r = none := h
    subst h
    have he : c + 0 = E := he
    have hle : 1920 + sp ≤ v := i32le.mpr (by omega)
    have hsps : rd (ms.2.2.1 2) 2100 1920 = some sp := by
      rw [← hsp, rd_in (vp_of (by decide) (by decide)), rd_in (vp_of (by decide) (by decide)), show (1920 : Int32).toNatClampNeg = 1920 from by decide, (hF.2.2.2.2.2.2.2.2 1920 (by decide)).2.1]
    refine ⟨s, I, A, ms, a, by omega, by omega, hF, Or.inr ⟨i, none, i, v, N, L, ?_, ?_, hD⟩⟩
    · rw [c_Patcher_apply_l1_s]; rfl
    · rw [m_operate_l2_s]
      simp only [hsps, Option.bind_some, hle, if_true]
  | cons k ks ih =>
    intro c f1 f2 r v i s I A ms N a L h hr he hl hc9 hop hv hi0 hi1 hf1 hf2 hF hD z6 z7
    obtain ⟨f1, rfl⟩ : ∃ f, f1 = f + 1 := ⟨f1 - 1, by have : ks.length + 1 < f1 := hf1; omega⟩
    obtain ⟨f2, rfl⟩ : ∃ f, f2 = f + 1 := ⟨f2 - 1, by have : ks.length + 1 < f2 := hf2; omega⟩
    obtain ⟨h1, nx, h2, h3⟩ := h
    subst h1
    rw [kL_cons, List.flatten_cons] at hr he hl
    rw [List.length_append] at he hl
    rw [List.length_cons] at hi1
    obtain ⟨M6, h6⟩ : ∃ M, M = 70 * ks.length := ⟨_, rfl⟩
    obtain ⟨M7, h7⟩ : ∃ M, M = 440 * ks.length := ⟨_, rfl⟩
    have y6 : s.1.1 + (M6 + 70) ≤ Zd 6 := by rw [h6]; exact z6
    have y7 : s.1.2 + (M7 + 440) ≤ Zd 7 := by rw [h7]; exact z7
    clear z6 z7
    have e6 : ∀ x, x ≤ s.1.1 + (M6 + 70) → x ≤ s.1.1 + 70 * (k :: ks).length := fun x hx => by rw [h6] at hx; exact hx
    have e7 : ∀ x, x ≤ s.1.2 + (M7 + 440) → x ≤ s.1.2 + 440 * (k :: ks).length := fun x hx => by rw [h7] at hx; exact hx
    have i6 : ∀ x, x + M6 ≤ Zd 6 → x + 70 * ks.length ≤ Zd 6 := fun x hx => by rw [h6] at hx; exact hx
    have i7 : ∀ x, x + M7 ≤ Zd 7 → x + 440 * ks.length ≤ Zd 7 := fun x hx => by rw [h7] at hx; exact hx
    have v6 : ∀ x y, x ≤ y + 70 * ks.length → x ≤ y + M6 := fun x y hx => by rw [h6]; exact hx
    have v7 : ∀ x y, x ≤ y + 440 * ks.length → x ≤ y + M7 := fun x y hx => by rw [h7]; exact hx
    clear h6 h7
    have hokk := tree_ok _ _ _ h2.1
    obtain ⟨s1, s2⟩ := spanF hr hokk hv (by omega)
    have hrk : rowIs ms0 c k.2.2 := ((rowF_of hokk).mp (rowF_app.mp hr).1).1
    have hspi : (Int32.ofNat k.2.2.length).toInt = k.2.2.length := ofNat_i (by omega)
    have hv2 : (v + Int32.ofNat k.2.2.length).toInt = (c + k.2.2.length : Nat) := by rw [i32add (by omega) (by omega)]; omega
    have ki : (i + 1).toInt = i.toInt + 1 := by rw [i32add (by omega) (by omega)]; omega
    have hnle : ¬ 1920 + sp ≤ v := fun e => by have := i32le.mp e; omega
    clear hE
    have hsps : ∀ m9 : MS, kW 1980 ms0 m9 → rd (m9.2.2.1 2) 2100 1920 = some sp ∧ rd (m9.2.2.1 2) 2100 v = some (Int32.ofNat k.2.2.length) := by
      intro m9 h9
      constructor
      · rw [← hsp, rd_in (vp_of (by decide) (by decide)), rd_in (vp_of (by decide) (by decide)), show (1920 : Int32).toNatClampNeg = 1920 from by decide, (h9.2.2.2 1920 (by decide)).2.1]
      · have hin : vp_in v 2100 := vp_of (by omega) (by omega)
        have hvn : v.toNatClampNeg = c := by rw [tnn]; omega
        rw [rd_in hin, hvn] at s1
        rw [rd_in hin, hvn, (h9.2.2.2 c (by omega)).2.1]
        exact s1
    obtain ⟨x, s2', I2, A2, ms2, r2, w1, w2, w3, w4, w5, w6⟩ := perf_lock hc hw0 hz0 hF hD hd h2.1 hrk (by omega) (by omega) (hop k List.mem_cons_self) hv (by omega) (by omega)
    rcases w6 with rfl | ⟨rfl, N1, L1, w6⟩
    · refine ⟨s2', I2, A2, ms2, r2, e6 _ (by omega), e7 _ (by omega), w5, Or.inl ⟨-10 - i, ?_, ?_, fun e => ?_⟩⟩
      · rw [c_Patcher_apply_l1_s]
        simp only [nl, fo_3 hF.1.1, Option.bind_some, w1, if_true]
      · rw [m_operate_l2_s]
        simp only [(hsps ms hF.2.2.2.2.2).1, Option.bind_some, hnle, if_false, w2, if_true]
      · have n10 : (-10 : Int32).toInt = -10 := by decide
        have e1 : (-10 - i : Int32).toInt = -10 - i.toInt := by rw [i32sub (by omega) (by omega), n10]
        rw [e, Nn.1] at e1
        omega
    · obtain ⟨⟨nx9, hT9⟩, j2, j3, j4, j5⟩ := w6
      have htr := Tw.tree _ _ _ _ _ hT9
      have hsz := size9 hc.2.2 9 10 r2 L1 0 htr (by decide) (by decide) (by decide)
      obtain ⟨n, d1, d2, d3⟩ := dep_ok hc 9 10 r2 L1 0 htr (by decide) (by decide) (by decide)
      obtain ⟨xf, f3, f4, f5⟩ := fits_ok j4 (by omega) hT9.ok
      have hdoc : gQ K s2' (q 3) 4 1 = some (some r2) := by rw [fg_3_1 w5.1.1, va_up_self]
      have hLi : (Int32.ofNat L1.length).toInt = L1.length := ofNat_i (by omega)
      have hni : (Int32.ofNat n).toInt = n := ofNat_i (by omega)
      have hms : ∀ r9, (if xf = (0 : Int32) then (some (.inl (((-5) : Int32), ms2))) else ((rd (ms2.2.2.1 2) 2100 v).bind fun x31 => (some (v + x31)).bind fun y32 => m_operate_l2 1920 f2 (i + 1, y32, ms2))) = r9 → m_operate_l2 1920 (f2 + 1) (i, v, ms) = r9 := by
        intro r9 hr9
        rw [← hr9, m_operate_l2_s]
        simp only [(hsps ms hF.2.2.2.2.2).1, Option.bind_some, hnle, if_false, w2, h10, f3]
      by_cases hfit : L1.length ≤ 24 ∧ dle 4 L1
      · have hx1 : xf = 1 := f5.mpr hfit
        have hsz1 : ¬ (24 : Int32) < Int32.ofNat L1.length := fun e => by have := i32lt.mp e; omega
        have hdp1 : Int32.ofNat n ≤ 4 := i32le.mpr (by have := (d3 4).mpr hfit.2; omega)
        have hT5 := Tw.flat hc.2.2 9 4 _ _ _ _ hT9 hfit.2
        have hg5 : gQ K s2' k.2.1 11 5 = some nx := w5.2.1.fQ (Or.inl rfl) h2.2
        obtain ⟨s3, I3, A3, ms3, r3, u1, u2, u3, u4⟩ := ih (c + k.2.2.length) f1 f2 nx (v + Int32.ofNat k.2.2.length) (i + 1) s2' I2 A2 ms2 N1 r2 L1 h3 (rowF_app.mp hr).2 (by omega) (by omega) (by omega) (fun k9 hk9 => hop k9 (List.mem_cons_of_mem _ hk9)) hv2 (by omega) (by omega) (Nat.lt_of_succ_lt_succ hf1) (Nat.lt_of_succ_lt_succ hf2) w5 ⟨⟨nx9, hT5⟩, j2, j3, j4, hfit.1⟩ (i6 _ (by omega)) (i7 _ (by omega))
        have e1 : c_Patcher_apply_l1 Zd K (q 3) (f1 + 1) (i, some k.2.1, s) = c_Patcher_apply_l1 Zd K (q 3) f1 (i + 1, nx, s2') := by
          rw [c_Patcher_apply_l1_s]
          simp only [nl, fo_3 hF.1.1, Option.bind_some, w1, h10, if_false, hdoc, hsz, hsz1, d1, hdp1, if_true, hg5]
        have e2 : m_operate_l2 1920 (f2 + 1) (i, v, ms) = m_operate_l2 1920 f2 (i + 1, v + Int32.ofNat k.2.2.length, ms2) := by
          apply hms
          rw [hx1, if_neg h10, (hsps ms2 w5.2.2.2.2.2).2]
          rfl
        rw [e1, e2]
        have u1 := v6 _ _ u1
        have u2 := v7 _ _ u2
        exact ⟨s3, I3, A3, ms3, r3, e6 _ (by omega), e7 _ (by omega), u3, u4⟩
      · have hx0 : xf = 0 := by
          rcases f4 with e | e
          · exact e
          · exact absurd (f5.mp e) hfit
        refine ⟨s2', I2, A2, ms2, r2, e6 _ (by omega), e7 _ (by omega), w5, Or.inl ⟨-5, ?_, hms _ (by rw [if_pos hx0]), by decide⟩⟩
        rw [c_Patcher_apply_l1_s]
        by_cases hsz1 : (24 : Int32) < Int32.ofNat L1.length
        · simp only [nl, fo_3 hF.1.1, Option.bind_some, w1, h10, if_false, hdoc, hsz, hsz1, if_true]
        · have hl24 : L1.length ≤ 24 := by
            have : ¬ (24 : Int32).toInt < (Int32.ofNat L1.length).toInt := fun e => hsz1 (i32lt.mpr e)
            omega
          have hdp1 : ¬ Int32.ofNat n ≤ 4 := fun e => hfit ⟨hl24, (d3 4).mp (by have := i32le.mp e; omega)⟩
          simp only [nl, fo_3 hF.1.1, Option.bind_some, w1, h10, if_false, hdoc, hsz, hsz1, d1, hdp1]
end APPLY
