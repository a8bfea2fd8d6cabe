/-! Writing: texts in quotes, class and model; numbers, the model. -/
def esc (c : Int32) : List Int32 := if c = 34 then [92, c] else if c = 92 then [92, c] else [c]
def tStr (cs : List Int32) : List Int32 := 34 :: ((cs.map u8).flatMap esc ++ [34])
theorem esc_len (c : Int32) : (esc c).length ≤ 2 := by
  unfold esc
  split
  · exact Nat.le_refl 2
  · split
    · exact Nat.le_refl 2
    · show 1 ≤ 2; decide
theorem escs_len : ∀ cs : List Int32, (cs.flatMap esc).length ≤ 2 * cs.length := by
  intro cs
  induction cs with
  | nil => exact Nat.le_refl 0
  | cons c cs ih =>
    rw [List.flatMap_cons, List.length_append, List.length_cons]
    have := esc_len c
    omega
theorem tStr_len {cs : List Int32} (h : cs.length ≤ 10) : (tStr cs).length ≤ 22 := by
  unfold tStr
  have := escs_len (cs.map u8)
  rw [List.length_map] at this
  rw [List.length_cons, List.length_append]
  show _ + 1 + 1 ≤ 22
  omega
section STRW
variable {Zd : Nat → Nat} {K : KE} {R : Nat → Option Nat} {Q : Nat → Nat → Option Nat} {s0 s : CS} {q0 : Nat → Nat} {cw0 : Nat} {I0 : Nat → Int32} {A0 : Nat → Nat → Int32} {T : List Int32}
theorem WB.le (h : WB K R Q s0 q0 cw0 I0 A0 T s) : le K s0 s := by
  obtain ⟨q, cw, I, A, hy, -⟩ := h
  exact hy.2.1
theorem WB.is (h : WB K R Q s0 q0 cw0 I0 A0 T s) : isO K s (q0 7) 2 = some () := by
  obtain ⟨q, cw, I, A, hy, -⟩ := h
  exact isO_ob hy.sb.1
theorem qs_l (hz : Wm Zd s0 cw0) {b : Nat} {cs : List Int32} (hb : strOf K s0 b = some cs) (hl : cs.length ≤ 10) : ∀ (rs ds : List Int32) (fuel : Nat) (n : Int32) (T : List Int32) (s : CS), cs = ds ++ rs → n.toInt = ds.length → rs.length < fuel → WB K R Q s0 q0 cw0 I0 A0 T s → T.length + ((rs.map u8).flatMap esc).length ≤ 1200 → ∃ e s1, c_Value_writeString_l1 Zd K (some b) (q0 7) fuel (n, s) = some (e, s1) ∧ WB K R Q s0 q0 cw0 I0 A0 (T ++ (rs.map u8).flatMap esc) s1 := by
  have N := nums
  intro rs
  induction rs with
  | nil =>
    intro ds fuel n T s h1 h2 h3 h h5
    obtain ⟨f, rfl⟩ : ∃ f, fuel = f + 1 := ⟨fuel - 1, by have : (0 : Nat) < fuel := h3; omega⟩
    have hs := h.le.str hb
    have hds : cs.length = ds.length := by rw [h1, List.append_nil]
    have hle : Int32.ofNat cs.length ≤ n := i32le.mpr (by rw [ofNat_i (by omega)]; omega)
    refine ⟨n, s, ?_, by show WB K R Q s0 q0 cw0 I0 A0 (T ++ []) s; rw [List.append_nil]; exact h⟩
    rw [c_Value_writeString_l1_s]
    simp only [Option.bind_some, str_isO hs, str_len hs, hle, if_true]
  | cons c rs ih =>
    intro ds fuel n T s h1 h2 h3 h h5
    obtain ⟨f, rfl⟩ : ∃ f, fuel = f + 1 := ⟨fuel - 1, by have : rs.length + 1 < fuel := h3; omega⟩
    have h3 : rs.length + 1 < f + 1 := h3
    have hs := h.le.str hb
    have hcl : cs.length = ds.length + (rs.length + 1) := by rw [h1, List.length_append]; rfl
    have hle : ¬ Int32.ofNat cs.length ≤ n := fun e => by have := i32le.mp e; rw [ofNat_i (by omega)] at this; omega
    have hch := str_char (Zd := Zd) hs (by omega) (i := n) (by omega) (by omega)
    have hcg : cs.getD n.toInt.toNat 0 = c := by
      rw [h2, Int.toNat_natCast, h1, List.getD_eq_getElem?_getD, List.getElem?_append_right (Nat.le_refl _), Nat.sub_self]
      rfl
    rw [hcg] at hch
    have k1 : (n + 1).toInt = n.toInt + 1 := by rw [i32add (by omega) (by omega)]; omega
    obtain ⟨u1, u2⟩ := u8_r2 c
    have h5 : T.length + (esc (u8 c) ++ (rs.map u8).flatMap esc).length ≤ 1200 := h5
    rw [List.length_append] at h5
    show ∃ e s1, _ ∧ WB K R Q s0 q0 cw0 I0 A0 (T ++ (esc (u8 c) ++ (rs.map u8).flatMap esc)) s1
    by_cases e34 : u8 c = 34
    · have hes : esc (u8 c) = [92] ++ [u8 c] := by unfold esc; rw [if_pos e34]; rfl
      rw [hes] at h5 ⊢
      have h5 : T.length + (2 + ((rs.map u8).flatMap esc).length) ≤ 1200 := h5
      obtain ⟨s1, f1, f2⟩ := h.chr hz (by omega) (c := 92) (by decide) (by decide)
      obtain ⟨s2, g1, g2⟩ := f2.chr hz (by rw [List.length_append]; show T.length + 1 < 1200; omega) u1 u2
      obtain ⟨e, s3, i1, i2⟩ := ih (ds ++ [c]) f (n + 1) _ s2 (by rw [h1, List.append_assoc]; rfl) (by rw [k1, h2, List.length_append]; rfl) (by omega) g2 (by rw [List.length_append, List.length_append]; show T.length + 1 + 1 + _ ≤ 1200; omega)
      refine ⟨e, s3, ?_, by rw [List.append_assoc, List.append_assoc] at i2; rw [List.append_assoc]; exact i2⟩
      rw [c_Value_writeString_l1_s]
      rw [e34] at hch g1
      simp only [Option.bind_some, str_isO hs, str_len hs, hle, if_false, hch, if_true, h.is, f1, f2.is, g1]
      exact i1
    · by_cases e92 : u8 c = 92
      · have hes : esc (u8 c) = [92] ++ [u8 c] := by unfold esc; rw [if_neg e34, if_pos e92]; rfl
        rw [hes] at h5 ⊢
        have h5 : T.length + (2 + ((rs.map u8).flatMap esc).length) ≤ 1200 := h5
        obtain ⟨s1, f1, f2⟩ := h.chr hz (by omega) (c := 92) (by decide) (by decide)
        obtain ⟨s2, g1, g2⟩ := f2.chr hz (by rw [List.length_append]; show T.length + 1 < 1200; omega) u1 u2
        obtain ⟨e, s3, i1, i2⟩ := ih (ds ++ [c]) f (n + 1) _ s2 (by rw [h1, List.append_assoc]; rfl) (by rw [k1, h2, List.length_append]; rfl) (by omega) g2 (by rw [List.length_append, List.length_append]; show T.length + 1 + 1 + _ ≤ 1200; omega)
        refine ⟨e, s3, ?_, by rw [List.append_assoc, List.append_assoc] at i2; rw [List.append_assoc]; exact i2⟩
        rw [c_Value_writeString_l1_s]
        rw [e92] at hch g1
        simp only [Option.bind_some, str_isO hs, str_len hs, hle, if_false, hch, show ¬ ((92 : Int32) = 34) from by decide, if_true, h.is, f1, f2.is, g1]
        exact i1
      · have hes : esc (u8 c) = [u8 c] := by unfold esc; rw [if_neg e34, if_neg e92]
        rw [hes] at h5 ⊢
        have h5 : T.length + (1 + ((rs.map u8).flatMap esc).length) ≤ 1200 := h5
        obtain ⟨s2, g1, g2⟩ := h.chr hz (by omega) u1 u2
        obtain ⟨e, s3, i1, i2⟩ := ih (ds ++ [c]) f (n + 1) _ s2 (by rw [h1, List.append_assoc]; rfl) (by rw [k1, h2, List.length_append]; rfl) (by omega) g2 (by rw [List.length_append]; show T.length + 1 + _ ≤ 1200; omega)
        refine ⟨e, s3, ?_, by rw [List.append_assoc] at i2; exact i2⟩
        rw [c_Value_writeString_l1_s]
        simp only [Option.bind_some, str_isO hs, str_len hs, hle, if_false, hch, e34, e92, h.is, g1]
        exact i1
theorem WB.qs (hz : Wm Zd s0 cw0) (h : WB K R Q s0 q0 cw0 I0 A0 T s) {b : Nat} {cs : List Int32} (hb : strOf K s0 b = some cs) (hl : cs.length ≤ 10) (hT : T.length + (tStr cs).length ≤ 1200) : ∃ s1, c_Value_writeString Zd K (some b) (some (q0 7)) s = some s1 ∧ WB K R Q s0 q0 cw0 I0 A0 (T ++ tStr cs) s1 := by
  have htl : (tStr cs).length = 1 + (((cs.map u8).flatMap esc).length + 1) := by unfold tStr; rw [List.length_cons, List.length_append, Nat.add_comm]; rfl
  obtain ⟨s1, f1, f2⟩ := h.chr hz (by omega) (c := 34) (by decide) (by decide)
  obtain ⟨e, s2, g1, g2⟩ := qs_l (Zd := Zd) hz hb hl cs [] 4096 0 _ s1 rfl rfl (by omega) f2 (by rw [List.length_append]; show T.length + 1 + _ ≤ 1200; omega)
  obtain ⟨s3, k1, k2⟩ := g2.chr hz (by rw [List.length_append, List.length_append]; show T.length + 1 + _ < 1200; omega) (c := 34) (by decide) (by decide)
  refine ⟨s3, ?_, by rw [List.append_assoc, List.append_assoc] at k2; exact k2⟩
  simp only [c_Value_writeString, Option.bind_some, h.is, f1, g1, g2.is, k1]
end STRW
/-- the model while it writes -/
def MB (m0 : MS) (T : List Int32) (m : MS) : Prop := (∀ k, k ≠ 11 → m.1 k = m0.1 k) ∧ m.2.1 = m0.2.1 ∧ (∀ k, k ≠ 11 → m.2.2.1 k = m0.2.2.1 k) ∧ m.2.2.2 = m0.2.2.2 ∧ (m.1 11).toInt = T.length ∧ ∀ i, i < T.length → m.2.2.1 11 i = T.getD i 0
section MODELW
variable {m0 m : MS} {T : List Int32}
theorem MB.chr (h : MB m0 T m) (hT : T.length < 1200) {c : Int32} (c0 : 0 ≤ c.toInt) (c1 : c.toInt ≤ 255) : ∃ m1, m_emit c m = some m1 ∧ MB m0 (T ++ [c]) m1 := by
  have N := nums
  obtain ⟨h1, h2, h3, h4, h5, h6⟩ := h
  have k1 : (m.1 11 + 1).toInt = (m.1 11).toInt + 1 := by rw [i32add (by omega) (by omega)]; omega
  have hn : vp_nar .char c = c := c16 c0 (by omega)
  have tn : (m.1 11).toNatClampNeg = T.length := by rw [tnn]; omega
  refine ⟨(upd m.1 11 (m.1 11 + 1), m.2.1, va_up m.2.2.1 11 (upd (m.2.2.1 11) T.length c), m.2.2.2), by simp only [m_emit, c16 c0 (show c.toInt < 65536 by omega), Option.bind_some, ix_in (vp_of (show 0 ≤ (m.1 11).toInt by omega) (show (m.1 11).toInt < (1200 : Nat) by omega)), hn, tn], fun k hk => (upd_ne hk).trans (h1 k hk), h2, fun k hk => (va_up_ne _ _ hk).trans (h3 k hk), h4, by dsimp only; rw [upd_self, k1, h5, List.length_append]; rfl, fun i hi => ?_⟩
  dsimp only
  rw [va_up_self]
  rw [List.length_append] at hi
  have hi : i < T.length + 1 := hi
  by_cases e : i = T.length
  · subst e
    have := getD_r (T := T) (X := [c]) (i := 0)
    rw [Nat.add_zero] at this
    rw [upd_self, this]
    rfl
  · rw [upd_ne e, getD_l (by omega)]
    exact h6 i (by omega)
theorem es_l {cs : List Int32} (hok : okC cs) (hl : cs.length ≤ 10) : ∀ (rs ds : List Int32) (fuel : Nat) (n : Int32) (T : List Int32) (m : MS), cs = ds ++ rs → n.toInt = ds.length → rs.length < fuel → MB m0 T m → T.length + (rs.flatMap esc).length ≤ 1200 → ∃ e m1, m_emitString_l1 (encU cs).1 (encU cs).2 fuel (n, m) = some (e, m1) ∧ MB m0 (T ++ rs.flatMap esc) m1 := by
  have N := nums
  intro rs
  induction rs with
  | nil =>
    intro ds fuel n T m h1 h2 h3 h h5
    obtain ⟨f, rfl⟩ : ∃ f, fuel = f + 1 := ⟨fuel - 1, by have : (0 : Nat) < fuel := h3; omega⟩
    have hds : cs.length = ds.length := by rw [h1, List.append_nil]
    have hle : Int32.ofNat cs.length ≤ n := i32le.mpr (by rw [ofNat_i (by omega)]; omega)
    refine ⟨n, m, ?_, by show MB m0 (T ++ []) m; rw [List.append_nil]; exact h⟩
    rw [m_emitString_l1_s]
    simp only [enc_len hok hl, Option.bind_some, hle, if_true]
  | cons c rs ih =>
    intro ds fuel n T m h1 h2 h3 h h5
    obtain ⟨f, rfl⟩ : ∃ f, fuel = f + 1 := ⟨fuel - 1, by have : rs.length + 1 < fuel := h3; omega⟩
    have h3 : rs.length + 1 < f + 1 := h3
    have hcl : cs.length = ds.length + (rs.length + 1) := by rw [h1, List.length_append]; rfl
    have hle : ¬ Int32.ofNat cs.length ≤ n := fun e => by have := i32le.mp e; rw [ofNat_i (by omega)] at this; omega
    have hch := enc_chr hok hl (i := n) (j := ds.length) h2 (by omega)
    have hcg : cs.getD ds.length 0 = c := by
      rw [h1, List.getD_eq_getElem?_getD, List.getElem?_append_right (Nat.le_refl _), Nat.sub_self]
      rfl
    rw [hcg] at hch
    have k1 : (n + 1).toInt = n.toInt + 1 := by rw [i32add (by omega) (by omega)]; omega
    obtain ⟨u1, u2⟩ := hok c (by rw [h1]; simp)
    have u2 : c.toInt ≤ 255 := by omega
    have h5 : T.length + (esc c ++ rs.flatMap esc).length ≤ 1200 := h5
    rw [List.length_append] at h5
    show ∃ e m1, _ ∧ MB m0 (T ++ (esc c ++ rs.flatMap esc)) m1
    by_cases e34 : c = 34
    · have hes : esc c = [92] ++ [c] := by unfold esc; rw [if_pos e34]; rfl
      rw [hes] at h5 ⊢
      have h5 : T.length + (2 + (rs.flatMap esc).length) ≤ 1200 := h5
      obtain ⟨s1, f1, f2⟩ := h.chr (by omega) (c := 92) (by decide) (by decide)
      obtain ⟨s2, g1, g2⟩ := f2.chr (by rw [List.length_append]; show T.length + 1 < 1200; omega) u1 u2
      obtain ⟨e, s3, i1, i2⟩ := ih (ds ++ [c]) f (n + 1) _ s2 (by rw [h1, List.append_assoc]; rfl) (by rw [k1, h2, List.length_append]; rfl) (by omega) g2 (by rw [List.length_append, List.length_append]; show T.length + 1 + 1 + _ ≤ 1200; omega)
      refine ⟨e, s3, ?_, by rw [List.append_assoc, List.append_assoc] at i2; rw [List.append_assoc]; exact i2⟩
      rw [m_emitString_l1_s]
      simp only [enc_len hok hl, Option.bind_some, hle, if_false, hch, e34, if_true, f1]
      rw [e34] at g1
      simp only [g1, Option.bind_some]
      exact i1
    · by_cases e92 : c = 92
      · have hes : esc c = [92] ++ [c] := by unfold esc; rw [if_neg e34, if_pos e92]; rfl
        rw [hes] at h5 ⊢
        have h5 : T.length + (2 + (rs.flatMap esc).length) ≤ 1200 := h5
        obtain ⟨s1, f1, f2⟩ := h.chr (by omega) (c := 92) (by decide) (by decide)
        obtain ⟨s2, g1, g2⟩ := f2.chr (by rw [List.length_append]; show T.length + 1 < 1200; omega) u1 u2
        obtain ⟨e, s3, i1, i2⟩ := ih (ds ++ [c]) f (n + 1) _ s2 (by rw [h1, List.append_assoc]; rfl) (by rw [k1, h2, List.length_append]; rfl) (by omega) g2 (by rw [List.length_append, List.length_append]; show T.length + 1 + 1 + _ ≤ 1200; omega)
        refine ⟨e, s3, ?_, by rw [List.append_assoc, List.append_assoc] at i2; rw [List.append_assoc]; exact i2⟩
        rw [m_emitString_l1_s]
        simp only [enc_len hok hl, Option.bind_some, hle, if_false, hch, e92, show ¬ ((92 : Int32) = 34) from by decide, if_true, f1]
        rw [e92] at g1
        simp only [g1, Option.bind_some]
        exact i1
      · have hes : esc c = [c] := by unfold esc; rw [if_neg e34, if_neg e92]
        rw [hes] at h5 ⊢
        have h5 : T.length + (1 + (rs.flatMap esc).length) ≤ 1200 := h5
        obtain ⟨s2, g1, g2⟩ := h.chr (by omega) u1 u2
        obtain ⟨e, s3, i1, i2⟩ := ih (ds ++ [c]) f (n + 1) _ s2 (by rw [h1, List.append_assoc]; rfl) (by rw [k1, h2, List.length_append]; rfl) (by omega) g2 (by rw [List.length_append]; show T.length + 1 + _ ≤ 1200; omega)
        refine ⟨e, s3, ?_, by rw [List.append_assoc] at i2; exact i2⟩
        rw [m_emitString_l1_s]
        simp only [enc_len hok hl, Option.bind_some, hle, if_false, hch, e34, e92, g1]
        exact i1
theorem okC_u8 (cs : List Int32) : okC (cs.map u8) := by
  intro c hc
  obtain ⟨x, -, rfl⟩ := List.mem_map.mp hc
  exact u8_r x
theorem MB.qs (h : MB m0 T m) {cs : List Int32} (hl : cs.length ≤ 10) (hT : T.length + (tStr cs).length ≤ 1200) : ∃ m1, m_emitString (enc cs).1 (enc cs).2 m = some m1 ∧ MB m0 (T ++ tStr cs) m1 := by
  have htl : (tStr cs).length = 1 + (((cs.map u8).flatMap esc).length + 1) := by unfold tStr; rw [List.length_cons, List.length_append, Nat.add_comm]; rfl
  obtain ⟨s1, f1, f2⟩ := h.chr (by omega) (c := 34) (by decide) (by decide)
  obtain ⟨e, s2, g1, g2⟩ := es_l (okC_u8 cs) (by rw [List.length_map]; exact hl) (cs.map u8) [] 4096 0 _ s1 rfl rfl (by rw [List.length_map]; omega) f2 (by rw [List.length_append]; show T.length + 1 + _ ≤ 1200; omega)
  obtain ⟨s3, k1, k2⟩ := g2.chr (by rw [List.length_append, List.length_append]; show T.length + 1 + _ < 1200; omega) (c := 34) (by decide) (by decide)
  refine ⟨s3, ?_, by rw [List.append_assoc, List.append_assoc] at k2; exact k2⟩
  have g1 : m_emitString_l1 (enc cs).1 (enc cs).2 4096 (0, s1) = some (e, s2) := g1
  simp only [m_emitString, Option.bind_some, f1, g1, k1]
theorem idiv {a b : Int32} {x y : Nat} (ha : a.toInt = x) (hb : b.toInt = y) (hy : 0 < y) : (a / b).toInt = (x / y : Nat) := by
  rw [Int32.toInt_div_of_ne_right _ _ (fun e => by rw [e] at hb; rw [show (-1 : Int32).toInt = -1 from by decide] at hb; omega), ha, hb]
  rfl
theorem en_l {y5 : Int32} {n : Nat} (hy : y5.toInt = n) (hn : n < 1000000) : ∀ (k fuel : Nat) (p : Int32) (T : List Int32) (m : MS), p.toInt = (10 ^ k : Nat) → k ≤ 5 → k + 1 < fuel → MB m0 T m → T.length + (k + 1) ≤ 1200 → ∃ e m1, m_emitNumber_l2 y5 fuel (p, m) = some (e, m1) ∧ MB m0 (T ++ tMs (k + 1) n) m1 := by
  have N := nums
  have N48 := n48
  intro k
  induction k with
  | zero =>
    intro fuel p T m hp hk hf h hT
    obtain ⟨f, rfl⟩ : ∃ f, fuel = f + 2 := ⟨fuel - 2, by omega⟩
    have hp1 : p = 1 := i32eq (by rw [hp]; rfl)
    subst hp1
    have hq := idiv hy (show (1 : Int32).toInt = (1 : Nat) by decide) (by decide)
    rw [Nat.div_one] at hq
    have hq2 := idiv hq (show (10 : Int32).toInt = (10 : Nat) by decide) (by decide)
    have h10 := (mul10 (v := y5 / 1 / 10) (by omega) (by omega)).2
    have hd : (48 + (y5 / 1 - y5 / 1 / 10 * 10)).toInt = 48 + (n % 10 : Nat) := by
      have e1 : (y5 / 1 - y5 / 1 / 10 * 10).toInt = (n % 10 : Nat) := by rw [i32sub (by omega) (by omega)]; omega
      rw [i32add (by omega) (by omega)]; omega
    have hdd : 48 + (y5 / 1 - y5 / 1 / 10 * 10) = dgt n 0 := i32eq (by rw [hd, dgt_i, Nat.pow_zero, Nat.div_one])
    obtain ⟨m1, f1, f2⟩ := h.chr (by omega) (c := dgt n 0) (by rw [dgt_i]; omega) (by rw [dgt_i]; omega)
    refine ⟨0, m1, ?_, f2⟩
    rw [m_emitNumber_l2_s]
    have nz1 : nz 1 = some () := rfl
    simp only [show ¬ ((1 : Int32) ≤ 0) from by decide, if_false, nz1, Option.bind_some, hdd, f1, show (1 : Int32) / 10 = 0 from by decide]
    rw [m_emitNumber_l2_s]
    rfl
  | succ k ih =>
    intro fuel p T m hp hk hf h hT
    obtain ⟨f, rfl⟩ : ∃ f, fuel = f + 1 := ⟨fuel - 1, by omega⟩
    have hpk : 0 < 10 ^ k := Nat.pow_pos (by decide)
    have hpe : (10 : Nat) ^ (k + 1) = 10 * 10 ^ k := by rw [Nat.pow_succ, Nat.mul_comm]
    have hp5 : (10 : Nat) ^ (k + 1) ≤ 10 ^ 5 := Nat.pow_le_pow_right (by decide) hk
    have hp5 : (10 : Nat) ^ (k + 1) ≤ 100000 := hp5
    have hq := idiv hy hp (by omega)
    obtain ⟨x, hx⟩ : ∃ x, n / 10 ^ (k + 1) = x := ⟨_, rfl⟩
    rw [hx] at hq
    have hxn : x ≤ n := by rw [← hx]; exact Nat.div_le_self _ _
    have hpp := idiv hp (show (10 : Int32).toInt = (10 : Nat) by decide) (by decide)
    have hpd : 10 ^ (k + 1) / 10 = 10 ^ k := by rw [hpe]; exact Nat.mul_div_cancel_left _ (by decide)
    rw [hpd] at hpp
    have hpos : ¬ p ≤ 0 := fun e => by have := i32le.mp e; rw [hp] at this; omega
    have hdd : 48 + (y5 / p - y5 / p / 10 * 10) = dgt n (k + 1) := by
      apply i32eq
      rw [dgt_i, hx]
      clear hx hpd hpp hp5 hpe hpk hp hpos
      have hq2 := idiv hq (show (10 : Int32).toInt = (10 : Nat) by decide) (by decide)
      have h10 := (mul10 (v := y5 / p / 10) (by omega) (by omega)).2
      have e1 : (y5 / p - y5 / p / 10 * 10).toInt = (x % 10 : Nat) := by rw [i32sub (by omega) (by omega)]; omega
      rw [i32add (by omega) (by omega)]; omega
    obtain ⟨m1, f1, f2⟩ := h.chr (by omega) (c := dgt n (k + 1)) (by rw [dgt_i]; omega) (by rw [dgt_i]; omega)
    obtain ⟨e, m2, i1, i2⟩ := ih f (p / 10) _ m1 hpp (by omega) (by omega) f2 (by rw [List.length_append]; show T.length + 1 + (k + 1) ≤ 1200; omega)
    have nzp : nz p = some () := by
      unfold nz
      rw [if_neg (fun e => hpos (by rw [e]; decide))]
    refine ⟨e, m2, ?_, by rw [List.append_assoc] at i2; exact i2⟩
    rw [m_emitNumber_l2_s]
    simp only [hpos, if_false, nzp, Option.bind_some, hdd, f1]
    exact i1
theorem ep_l {y5 : Int32} {n : Nat} (hy : y5.toInt = n) (hn : n < 1000000) : ∃ p : Int32, m_emitNumber_l1 y5 4096 1 = some p ∧ p.toInt = (10 ^ (nDig n - 1) : Nat) := by
  have N48 := n48
  have N9 : (9 : Int32).toInt = 9 := by decide
  have c : ∀ {p : Int32} {q : Nat}, p.toInt = q → 0 < q → (y5 / p ≤ 9 ↔ n / q ≤ 9) := fun hp hq => by
    have := idiv hy hp hq
    exact ⟨fun e => by have := i32le.mp e; omega, fun e => i32le.mpr (by omega)⟩
  unfold nDig
  rw [show (4096 : Nat) = 4090 + 1 + 1 + 1 + 1 + 1 + 1 from rfl]
  rw [m_emitNumber_l1_s, show nz 1 = some () from rfl, Option.bind_some]
  have q0 := c (p := 1) (q := 1) (by decide) (by decide)
  by_cases h0 : n < 10
  · rw [if_pos (q0.mpr (by omega)), if_pos h0]
    exact ⟨1, rfl, by decide⟩
  rw [if_neg (fun e => by have := q0.mp e; omega), Option.bind_some, show (1 : Int32) * 10 = 10 from by decide, if_neg h0]
  rw [m_emitNumber_l1_s, show nz 10 = some () from rfl, Option.bind_some]
  have q1 := c (p := 10) (q := 10) (by decide) (by decide)
  by_cases h1 : n < 100
  · rw [if_pos (q1.mpr (by omega)), if_pos h1]
    exact ⟨10, rfl, by decide⟩
  rw [if_neg (fun e => by have := q1.mp e; omega), Option.bind_some, show (10 : Int32) * 10 = 100 from by decide, if_neg h1]
  rw [m_emitNumber_l1_s, show nz 100 = some () from rfl, Option.bind_some]
  have q2 := c (p := 100) (q := 100) (by decide) (by decide)
  by_cases h2 : n < 1000
  · rw [if_pos (q2.mpr (by omega)), if_pos h2]
    exact ⟨100, rfl, by decide⟩
  rw [if_neg (fun e => by have := q2.mp e; omega), Option.bind_some, show (100 : Int32) * 10 = 1000 from by decide, if_neg h2]
  rw [m_emitNumber_l1_s, show nz 1000 = some () from rfl, Option.bind_some]
  have q3 := c (p := 1000) (q := 1000) (by decide) (by decide)
  by_cases h3 : n < 10000
  · rw [if_pos (q3.mpr (by omega)), if_pos h3]
    exact ⟨1000, rfl, by decide⟩
  rw [if_neg (fun e => by have := q3.mp e; omega), Option.bind_some, show (1000 : Int32) * 10 = 10000 from by decide, if_neg h3]
  rw [m_emitNumber_l1_s, show nz 10000 = some () from rfl, Option.bind_some]
  have q4 := c (p := 10000) (q := 10000) (by decide) (by decide)
  by_cases h4 : n < 100000
  · rw [if_pos (q4.mpr (by omega)), if_pos h4]
    exact ⟨10000, rfl, by decide⟩
  rw [if_neg (fun e => by have := q4.mp e; omega), Option.bind_some, show (10000 : Int32) * 10 = 100000 from by decide, if_neg h4]
  rw [m_emitNumber_l1_s, show nz 100000 = some () from rfl, Option.bind_some]
  have q5 := c (p := 100000) (q := 100000) (by decide) (by decide)
  by_cases h5 : n < 1000000
  · rw [if_pos (q5.mpr (by omega))]
    exact ⟨100000, rfl, by decide⟩
  omega
theorem MB.num (h : MB m0 T m) {num : Int32} (hn : num.toInt.natAbs < 1000000) (hT : T.length + (tNum num).length ≤ 1200) : ∃ m1, m_emitNumber num.toInt64 m = some m1 ∧ MB m0 (T ++ tNum num) m1 := by
  have N := nums
  have d6 := nDig_6 num.toInt.natAbs
  have hge : ∀ a : Int64, (0 : Int32) ≤ lg_cmp a 0 ↔ 0 ≤ a.toInt := by
    intro a
    unfold lg_cmp
    have z : (0 : Int64).toInt = 0 := by decide
    by_cases h1 : a > 0
    · have := Int64.lt_iff_toInt_lt.mp h1
      rw [if_pos h1]
      exact ⟨fun _ => by omega, fun _ => by decide⟩
    · rw [if_neg h1]
      by_cases h2 : a = 0
      · rw [if_pos h2, h2]; exact ⟨fun _ => by decide, fun _ => by decide⟩
      · rw [if_neg h2]
        refine ⟨fun e => absurd e (by decide), fun e => ?_⟩
        have h3 : ¬ 0 < a.toInt := fun e9 => h1 (Int64.lt_iff_toInt_lt.mpr (by omega))
        exact absurd (Int64.toInt_inj.mp (by omega)) h2
  have h64 : num.toInt64.toInt = num.toInt := Int32.toInt_toInt64 num
  by_cases hneg : num.toInt < 0
  · have hc : ¬ (0 : Int32) ≤ lg_cmp num.toInt64 0 := fun e => by have := (hge _).mp e; omega
    have htn := tNum_neg hneg
    have htl : (tNum num).length = nDig num.toInt.natAbs + 1 := by rw [htn, List.length_cons, tMs_len]
    rw [htl] at hT
    rw [htn]
    have hy : (-num.toInt64).toInt32.toInt = (num.toInt.natAbs : Nat) := by
      rw [Int64.toInt_toInt32, Int64.toInt_neg, h64]
      have : (-num.toInt).bmod (2 ^ 64) = -num.toInt := by
        apply Int.bmod_eq_of_le
        · omega
        · omega
      rw [this]
      have h9 : -num.toInt = (num.toInt.natAbs : Nat) := by omega
      rw [h9]
      apply Int.bmod_eq_of_le
      · omega
      · omega
    generalize num.toInt.natAbs = n at *
    obtain ⟨p, p1, p2⟩ := ep_l hy hn
    obtain ⟨m1, f1, f2⟩ := h.chr (by omega) (c := 45) (by decide) (by decide)
    obtain ⟨e, m2, g1, g2⟩ := en_l hy hn (nDig n - 1) 4096 p _ m1 p2 (by omega) (by omega) f2 (by rw [List.length_append]; show T.length + 1 + _ ≤ 1200; omega)
    rw [show nDig n - 1 + 1 = nDig n by omega] at g2
    refine ⟨m2, ?_, by rw [List.append_assoc] at g2; exact g2⟩
    simp only [m_emitNumber, Option.bind_some, hc, if_false, f1, p1, g1]
  · have hc : (0 : Int32) ≤ lg_cmp num.toInt64 0 := (hge _).mpr (by omega)
    have htn := tNum_pos hneg
    have htl : (tNum num).length = nDig num.toInt.natAbs := by rw [htn, tMs_len]
    rw [htl] at hT
    rw [htn]
    have hy : num.toInt64.toInt32.toInt = (num.toInt.natAbs : Nat) := by
      rw [Int64.toInt_toInt32, h64]
      have h9 : num.toInt = (num.toInt.natAbs : Nat) := by omega
      rw [h9]
      apply Int.bmod_eq_of_le
      · omega
      · omega
    generalize num.toInt.natAbs = n at *
    obtain ⟨p, p1, p2⟩ := ep_l hy hn
    obtain ⟨e, m2, g1, g2⟩ := en_l hy hn (nDig n - 1) 4096 p _ m p2 (by omega) (by omega) h (by omega)
    rw [show nDig n - 1 + 1 = nDig n by omega] at g2
    refine ⟨m2, ?_, g2⟩
    simp only [m_emitNumber, Option.bind_some, hc, if_true, p1, g1]
end MODELW
