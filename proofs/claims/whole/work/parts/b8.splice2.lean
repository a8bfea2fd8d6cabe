/-! The model's splice; the holder of a node; a part kept aside. -/
theorem adj_snoc {i m g : Nat} {X : List Nd} {x : Nd} : adjL i m g 0 (X ++ [x]) = adjL i m g 0 X ++ [(x.1, (if i < X.length + x.2.1 then x.2.1 + m - g else x.2.1), x.2.2)] := by
  rw [adjL_app, Nat.zero_add]
  rfl
section SPL
variable {ms : MS} {L : List Nd}
/-- the spans of those that hold the place -/
theorem spl_l {h m g : Nat} {hI mI gI : Int32} (hh : hI.toInt = (1980 + h : Nat)) (hmI : mI.toInt = m) (hgI : gI.toInt = g) (hm : m ≤ 24) (hl : L.length ≤ 24) (hg : ∀ i x, L[i]? = some x → x.2.1 ≤ 24 ∧ (h < i + x.2.1 → i ≤ h → g ≤ x.2.1)) (hhl : h < L.length) : ∀ (r i fuel : Nat) (cI : Int32) (mk : MS), i + r = h + 1 → cI.toInt = (1980 + i : Nat) → r < fuel → rowIs mk 1980 (adjL h m g 0 (L.take i) ++ L.drop i) → ∃ e m1, m_splice_l1 gI hI mI fuel (cI, mk) = some (e, m1) ∧ rowIs m1 1980 (adjL h m g 0 (L.take (h + 1)) ++ L.drop (h + 1)) ∧ m1.1 = mk.1 ∧ m1.2.1 = mk.2.1 ∧ m1.2.2.2 = mk.2.2.2 ∧ (∀ k, k ≠ 2 → m1.2.2.1 k = mk.2.2.1 k) ∧ ∀ j, j < 1980 ∨ 1980 + h < j → m1.2.2.1 2 j = mk.2.2.1 2 j := by
  have N := nums
  intro r
  induction r with
  | zero =>
    intro i fuel cI mk h1 h2 h3 hr
    obtain ⟨f, rfl⟩ : ∃ f, fuel = f + 1 := ⟨fuel - 1, by omega⟩
    refine ⟨cI, mk, ?_, by rw [show h + 1 = i by omega]; exact hr, rfl, rfl, rfl, fun _ _ => rfl, fun _ _ => rfl⟩
    have hlt : hI < cI := i32lt.mpr (by omega)
    rw [m_splice_l1_s, if_pos hlt]
  | succ r ih =>
    intro i fuel cI mk h1 h2 h3 hr
    obtain ⟨f, rfl⟩ : ∃ f, fuel = f + 1 := ⟨fuel - 1, by omega⟩
    have hil : i < L.length := by omega
    have hx : L[i]? = some L[i] := List.getElem?_eq_getElem hil
    generalize hxx : L[i] = x at hx
    have hdr : L.drop i = x :: L.drop (i + 1) := by rw [List.drop_eq_getElem_cons hil, hxx]
    have htk : L.take (i + 1) = L.take i ++ [x] := by rw [List.take_add_one, hx]; rfl
    have hla : (adjL h m g 0 (L.take i)).length = i := by rw [adjL_len, List.length_take]; omega
    rw [hdr] at hr
    have hrx := hr i x (by rw [List.getElem?_append_right (by omega), hla, Nat.sub_self]; rfl)
    obtain ⟨g1, g2⟩ := hg i x hx
    have hin : vp_in cI 2100 := vp_of (by omega) (by omega)
    have hcn : cI.toNatClampNeg = 1980 + i := by rw [tnn]; omega
    have hrd : rd (mk.2.2.1 2) 2100 cI = some (Int32.ofNat x.2.1) := by rw [rd_in hin, hcn, hrx.2.1]
    have hsp : (Int32.ofNat x.2.1).toInt = x.2.1 := ofNat_i (by omega)
    have y31 : (cI + Int32.ofNat x.2.1).toInt = (1980 + i + x.2.1 : Nat) := by rw [i32add (by omega) (by omega)]; omega
    have hz : ¬ hI < cI := fun e => by have := i32lt.mp e; omega
    have kc1 : (cI + 1).toInt = (1980 + (i + 1) : Nat) := by rw [i32add (by omega) (by omega)]; omega
    obtain ⟨sp, hsp1, hsp2⟩ : ∃ sp : Nat, (if cI + Int32.ofNat x.2.1 ≤ hI then (some (Int32.ofNat x.2.1)) else ((some (Int32.ofNat x.2.1 + mI)).bind fun y40 => (some (y40 - gI)).bind fun y41 => some y41)) = some (Int32.ofNat sp) ∧ sp = (if h < i + x.2.1 then x.2.1 + m - g else x.2.1) := by
      by_cases c : h < i + x.2.1
      · have gg := g2 c (by omega)
        refine ⟨x.2.1 + m - g, ?_, by rw [if_pos c]⟩
        rw [if_neg (fun e => by have := i32le.mp e; omega)]
        show some (Int32.ofNat x.2.1 + mI - gI) = _
        congr 1
        apply i32eq
        have a1 : (Int32.ofNat x.2.1 + mI).toInt = x.2.1 + m := by rw [i32add (by omega) (by omega)]; omega
        rw [i32sub (by omega) (by omega), a1, ofNat_i (by omega)]
        omega
      · refine ⟨x.2.1, ?_, by rw [if_neg c]⟩
        rw [if_pos (i32le.mpr (by omega))]
    have hsp3 : (Int32.ofNat sp).toInt = sp := ofNat_i (by rw [hsp2]; split <;> omega)
    have hsp4 : sp ≤ 48 := by rw [hsp2]; split <;> omega
    obtain ⟨n1, n2⟩ := nar_s (x := Int32.ofNat sp) (by omega) (by omega)
    have hr2 := hr.sp (sp := sp) hla
    have hlist : adjL h m g 0 (L.take i) ++ (x.1, sp, x.2.2) :: L.drop (i + 1) = adjL h m g 0 (L.take (i + 1)) ++ L.drop (i + 1) := by
      rw [htk, adj_snoc, List.length_take, show min i L.length = i by omega, hsp2, List.append_assoc]
      rfl
    rw [hlist] at hr2
    obtain ⟨e9, m1, i1, i2, i3, i4, i5, i6, i7⟩ := ih (i + 1) f (cI + 1) _ (by omega) kc1 (by omega) hr2
    refine ⟨e9, m1, ?_, i2, i3, i4, i5, fun k hk => ?_, fun j hj => ?_⟩
    · rw [m_splice_l1_s]
      simp only [Option.bind_some] at hsp1
      simp only [hz, if_false, hrd, Option.bind_some, hsp1, n1, n2, ix_in hin, hcn]
      exact i1
    · rw [i6 k hk]
      exact va_up_ne _ _ hk
    · rw [i7 j hj]
      show upd (mk.2.2.1 2) (1980 + i) _ j = _
      rw [upd_ne (by omega)]
def splL (L : List Nd) (h c m g : Nat) (P : List Nd) : List Nd := (adjL h m g 0 (L.take (h + 1)) ++ L.drop (h + 1)).take c ++ P ++ (adjL h m g 0 (L.take (h + 1)) ++ L.drop (h + 1)).drop (c + g)
theorem row_mid {ms : MS} {b : Nat} {X P Z : List Nd} (h1 : ∀ i x, X[i]? = some x → hdF ms (b + i) x ∧ (0 < i → (ms.2.2.2 2 (b + i), ms.2.2.2 3 (b + i)) = enc x.2.2.2.2)) (h2 : rowF ms (b + X.length) P) (h3 : rowF ms (b + X.length + P.length) Z) (hX : 0 < X.length) : rowIs ms b (X ++ P ++ Z) := by
  intro i x hx
  rw [List.append_assoc] at hx
  by_cases c : i < X.length
  · rw [List.getElem?_append_left c] at hx
    obtain ⟨⟨a1, a2, a3, a4⟩, a5⟩ := h1 i x hx
    exact ⟨a1, a2, a3, a4, a5⟩
  · rw [List.getElem?_append_right (by omega)] at hx
    by_cases c2 : i - X.length < P.length
    · rw [List.getElem?_append_left c2] at hx
      obtain ⟨⟨a1, a2, a3, a4⟩, a5⟩ := h2 _ x hx
      rw [show b + X.length + (i - X.length) = b + i by omega] at a1 a2 a3 a4 a5
      exact ⟨a1, a2, a3, a4, fun _ => a5⟩
    · rw [List.getElem?_append_right (by omega)] at hx
      obtain ⟨⟨a1, a2, a3, a4⟩, a5⟩ := h3 _ x hx
      rw [show b + X.length + P.length + (i - X.length - P.length) = b + i by omega] at a1 a2 a3 a4 a5
      exact ⟨a1, a2, a3, a4, fun _ => a5⟩
/-- a part goes, a part comes -/
theorem splice_ok (hr : rowIs ms 1980 L) (hl : L.length ≤ 24) (hok : okL L) {h c g : Nat} {P : List Nd} (hP : rowF ms 2040 P) (hPl : P.length ≤ 24) (hPo : ∀ x ∈ P, okN 24 x) {cI gI hI w : Int32} (hw : (w = 0 ∧ P = []) ∨ (w = 1 ∧ okL P)) (hc : cI.toInt = (1980 + c : Nat)) (hgI : gI.toInt = g) (hh : hI.toInt = (1980 + h : Nat)) (hhc : h < c) (hcg : c + g ≤ L.length) (hg : ∀ i x, L[i]? = some x → h < i + x.2.1 → i ≤ h → g ≤ x.2.1) :
    ∃ ms1, m_splice cI gI hI w ms = some ms1 ∧ rowIs ms1 1980 (splL L h c P.length g P) ∧ kW 1980 ms ms1 := by
  have N := nums
  have W := nWk
  obtain ⟨⟨x0, xs0, e0, e1⟩, hall⟩ := hok
  have hhl : h < L.length := by omega
  have hr0 := hr 0 x0 (by rw [e0]; rfl)
  have hrd0 : rd (ms.2.2.1 2) 2100 1980 = some (Int32.ofNat L.length) := by
    rw [rd_in (vp_of (by decide) (by decide)), show (1980 : Int32).toNatClampNeg = 1980 + 0 from by decide, hr0.2.1, e1]
  have hLi : (Int32.ofNat L.length).toInt = L.length := ofNat_i (by omega)
  have y5 : (1980 + Int32.ofNat L.length).toInt = (1980 + L.length : Nat) := by rw [i32add (by omega) (by omega)]; omega
  -- how many come
  obtain ⟨mI, hmI1, hmI2⟩ : ∃ mI : Int32, (if w = (0 : Int32) then (some (0 : Int32)) else ((m_at (82 : Int32)).bind fun x42 => (rd (ms.2.2.1 2) 2100 x42).bind fun x45 => some x45)) = some mI ∧ mI.toInt = P.length := by
    rcases hw with ⟨e, e2⟩ | ⟨e, ⟨⟨p0, ps0, p1, p2⟩, -⟩⟩
    · exact ⟨0, by rw [if_pos e], by rw [e2]; rfl⟩
    · have hp0 := hP 0 p0 (by rw [p1]; rfl)
      refine ⟨Int32.ofNat P.length, ?_, ofNat_i (by omega)⟩
      rw [if_neg (by rw [e]; decide), at82, Option.bind_some, rd_in (vp_of (by decide) (by decide)), show (2040 : Int32).toNatClampNeg = 2040 + 0 from by decide, hp0.1.2.1, p2]
      rfl
  obtain ⟨e9, m1, i1, i2, i3, i4, i5, i6, i7⟩ := spl_l (gI := gI) hh hmI2 hgI hPl hl (fun i x hx => ⟨by have := (hall x (List.mem_of_getElem? hx)).2.2; omega, fun h9 h8 => hg i x hx h9 h8⟩) hhl (h + 1) 0 4096 1980 ms (by omega) (by decide) (by omega) (by simpa [adjL] using hr)
  generalize hm : P.length = m at *
  generalize hL2 : adjL h m g 0 (L.take (h + 1)) ++ L.drop (h + 1) = L2 at *
  have hL2l : L2.length = L.length := by rw [← hL2, List.length_append, adjL_len, List.length_take, List.length_drop]; omega
  have hL2g : ∀ i, h < i → L2[i]? = L[i]? := by
    intro i hi
    have hla : (adjL h m g 0 (L.take (h + 1))).length = h + 1 := by rw [adjL_len, List.length_take]; omega
    rw [← hL2, List.getElem?_append_right (by omega), hla, List.getElem?_drop, show h + 1 + (i - (h + 1)) = i by omega]
  have hP1 : rowF m1 2040 P := hP.keep (fun j j1 j2 => ⟨by rw [i6 1 (by decide)], i7 j (by omega), fun k _ => by rw [i5]⟩)
  have y15 : (cI + gI).toInt = (1980 + c + g : Nat) := by rw [i32add (by omega) (by omega)]; omega
  have y16 : (mI - gI).toInt = ((1980 + c + m : Nat) : Int) - (1980 + c + g : Nat) := by rw [i32sub (by omega) (by omega)]; omega
  obtain ⟨m2, s1, s2⟩ := shift_ok (ms := m1) (x0 := cI + gI) (xe := 1980 + Int32.ofNat L.length) (by9 := mI - gI) (a := 1980 + c + g) (b := 1980 + c + m) (n := L.length - (c + g)) y15 (by rw [y5]; omega) y16 (by omega) (by omega) (fun i hi => by
    have hlt : c + g + i < L.length := by omega
    have hx : L2[c + g + i]? = some L[c + g + i] := by rw [hL2g _ (by omega), List.getElem?_eq_getElem hlt]
    have hrx := i2 _ _ hx
    have ho := hall _ (List.getElem_mem hlt)
    rw [show 1980 + c + g + i = 1980 + (c + g + i) by omega, hrx.1, hrx.2.1]
    exact ⟨nar_b (by have := ho.1.1; omega) (by have := ho.1.2; omega), nar_b (by rw [ofNat_i (by have := ho.2.2; omega)]; omega) (by rw [ofNat_i (by have := ho.2.2; omega)]; have := ho.2.2; omega)⟩)
  have hP2 : rowF m2 2040 P := hP1.keep (fun j j1 j2 => ⟨by rw [s2.2.2.2.2.1 1 (Or.inl rfl), if_neg (by omega)], by rw [s2.2.2.2.2.1 2 (Or.inr rfl), if_neg (by omega)], fun k hk => by rw [s2.2.2.2.2.2 k hk, if_neg (by omega)]⟩)
  obtain ⟨m3, c1, c2⟩ : ∃ m3, (if w = (0 : Int32) then (some m2) else ((m_at (82 : Int32)).bind fun x23 => (m_copy x23 cI mI m2).bind fun st27 => some st27)) = some m3 ∧ cpd m2 m3 2040 (1980 + c) m := by
    rcases hw with ⟨e, e2⟩ | ⟨e, -⟩
    · refine ⟨m2, by rw [if_pos e], ?_⟩
      have : m = 0 := by rw [← hm, e2]; rfl
      rw [this]; exact cpd.zero m2 _ _
    · obtain ⟨m3, d1, d2⟩ := copy_ok (ms := m2) (a0 := 2040) (a1 := cI) (a2 := mI) (a := 2040) (b := 1980 + c) (n := m) (by decide) hc hmI2 (by omega) (by omega) (by omega) (fun i hi => by
        have hlt : i < P.length := by omega
        have hrx := hP2 i P[i] (List.getElem?_eq_getElem hlt)
        have ho := hPo _ (List.getElem_mem hlt)
        rw [hrx.1.1, hrx.1.2.1]
        exact ⟨nar_b (by have := ho.1.1; omega) (by have := ho.1.2; omega), nar_b (by rw [ofNat_i (by have := ho.2.2; omega)]; omega) (by rw [ofNat_i (by have := ho.2.2; omega)]; have := ho.2.2; omega)⟩)
      exact ⟨m3, by rw [if_neg (by rw [e]; decide), at82, Option.bind_some, d1]; rfl, d2⟩
  refine ⟨m3, ?_, ?_, ?_⟩
  · simp only [m_splice, at81, Option.bind_some, hrd0, hmI1, i1, s1, c1]
  · unfold splL
    rw [hL2]
    have hX : (L2.take c).length = c := by rw [List.length_take]; omega
    have hZ : (L2.drop (c + g)).length = L.length - (c + g) := by rw [List.length_drop]; omega
    refine row_mid (fun i x hx => ?_) ?_ ?_ (by omega)
    · have hic : i < c := by have := (List.getElem?_eq_some_iff.mp hx).1; omega
      rw [List.getElem?_take_of_lt hic] at hx
      have hrx := i2 i x hx
      have q1 : ∀ k, k = 1 ∨ k = 2 → m3.2.2.1 k (1980 + i) = m1.2.2.1 k (1980 + i) := fun k hk => by rw [c2.2.2.2.2.1 k hk, if_neg (by omega), s2.2.2.2.2.1 k hk, if_neg (by omega)]
      have q2 : ∀ k, k < 4 → m3.2.2.2 k (1980 + i) = m1.2.2.2 k (1980 + i) := fun k hk => by rw [c2.2.2.2.2.2 k hk, if_neg (by omega), s2.2.2.2.2.2 k hk, if_neg (by omega)]
      unfold hdF
      rw [q1 1 (Or.inl rfl), q1 2 (Or.inr rfl), q2 0 (by decide), q2 1 (by decide), q2 2 (by decide), q2 3 (by decide)]
      exact ⟨⟨hrx.1, hrx.2.1, hrx.2.2.1, hrx.2.2.2.1⟩, hrx.2.2.2.2⟩
    · rw [hX]
      intro i x hx
      have hi : i < P.length := (List.getElem?_eq_some_iff.mp hx).1
      have hrx := hP2 i x hx
      unfold hdF
      rw [c2.2.2.2.2.1 1 (Or.inl rfl), c2.2.2.2.2.1 2 (Or.inr rfl), c2.2.2.2.2.2 0 (by decide), c2.2.2.2.2.2 1 (by decide), c2.2.2.2.2.2 2 (by decide), c2.2.2.2.2.2 3 (by decide), if_pos (by omega), if_pos (by omega), if_pos (by omega), if_pos (by omega), if_pos (by omega), if_pos (by omega), show 1980 + c + i - (1980 + c) = i by omega]
      exact hrx
    · rw [hX, hm]
      intro i x hx
      have hi : i < L.length - (c + g) := by have := (List.getElem?_eq_some_iff.mp hx).1; omega
      rw [List.getElem?_drop] at hx
      have hrx := i2 _ x hx
      have q1 : ∀ k, k = 1 ∨ k = 2 → m3.2.2.1 k (1980 + c + m + i) = m1.2.2.1 k (1980 + (c + g + i)) := fun k hk => by rw [c2.2.2.2.2.1 k hk, if_neg (by omega), s2.2.2.2.2.1 k hk, if_pos (by omega), show 1980 + c + g + (1980 + c + m + i - (1980 + c + m)) = 1980 + (c + g + i) by omega]
      have q2 : ∀ k, k < 4 → m3.2.2.2 k (1980 + c + m + i) = m1.2.2.2 k (1980 + (c + g + i)) := fun k hk => by rw [c2.2.2.2.2.2 k hk, if_neg (by omega), s2.2.2.2.2.2 k hk, if_pos (by omega), show 1980 + c + g + (1980 + c + m + i - (1980 + c + m)) = 1980 + (c + g + i) by omega]
      unfold hdF
      rw [q1 1 (Or.inl rfl), q1 2 (Or.inr rfl), q2 0 (by decide), q2 1 (by decide), q2 2 (by decide), q2 3 (by decide)]
      exact ⟨⟨hrx.1, hrx.2.1, hrx.2.2.1, hrx.2.2.2.1⟩, hrx.2.2.2.2 (by omega)⟩
  · have k1 : kW 1980 ms m1 := ⟨i3, fun k _ h2 => i6 k h2, fun k _ => by rw [i5], fun j hj => ⟨by rw [i6 1 (by decide)], i7 j (Or.inl hj), fun k _ => by rw [i5]⟩⟩
    exact (k1.tr (s2.kW (by omega))).tr (c2.kW (by omega))
/-- the holder of a node -/
theorem above_ok (hr : rowIs ms 1980 L) (hl : L.length ≤ 60) (hs : ∀ x ∈ L, x.2.1 ≤ 60) {c : Nat} {v : Int32} (hv : v.toInt = (1980 + c : Nat)) (hc : c < L.length) : m_above v ms = some (hoI 1980 (hol L c c)) := by
  have N := nums
  have W := nWk
  have key : ∀ (r n fuel : Nat) (g : Int32), n + r = c → g.toInt = (1980 + n : Nat) → r < fuel → ∃ e, m_above_l1 v ms fuel (hoI 1980 (hol L c n), g) = some (hoI 1980 (hol L c c), e) := by
    intro r
    induction r with
    | zero =>
      intro n fuel g h1 h2 h3
      obtain ⟨f, rfl⟩ : ∃ f, fuel = f + 1 := ⟨fuel - 1, by omega⟩
      have : n = c := by omega
      subst this
      have hle : v ≤ g := i32le.mpr (by omega)
      exact ⟨g, by rw [m_above_l1_s, if_pos hle]⟩
    | succ r ih =>
      intro n fuel g h1 h2 h3
      obtain ⟨f, rfl⟩ : ∃ f, fuel = f + 1 := ⟨fuel - 1, by omega⟩
      have hnl : n < L.length := by omega
      have hx : L[n]? = some L[n] := List.getElem?_eq_getElem hnl
      generalize hxx : L[n] = x at hx
      have hsx := hs x (List.mem_of_getElem? hx)
      have hrx := hr n x hx
      have hrd : rd (ms.2.2.1 2) 2100 g = some (Int32.ofNat x.2.1) := by rw [rd_in (vp_of (by omega) (by omega)), show g.toNatClampNeg = 1980 + n by rw [tnn]; omega, hrx.2.1]
      have hsp : (Int32.ofNat x.2.1).toInt = x.2.1 := ofNat_i (by omega)
      have y12 : (g + Int32.ofNat x.2.1).toInt = (1980 + n + x.2.1 : Nat) := by rw [i32add (by omega) (by omega)]; omega
      have k1 : (g + 1).toInt = (1980 + (n + 1) : Nat) := by rw [i32add (by omega) (by omega)]; omega
      obtain ⟨e, he⟩ := ih (n + 1) f (g + 1) (by omega) k1 (by omega)
      refine ⟨e, ?_⟩
      have hnle : ¬ v ≤ g := fun e9 => by have := i32le.mp e9; omega
      rw [m_above_l1_s, if_neg hnle]
      have hst : (if g + Int32.ofNat x.2.1 ≤ v then (some (hoI 1980 (hol L c n))) else (some g)) = some (hoI 1980 (hol L c (n + 1))) := by
        rw [hol_s hx]
        by_cases c9 : c < n + x.2.1
        · rw [if_pos c9, if_neg (fun e9 => by have := i32le.mp e9; omega)]
          show some g = some (Int32.ofNat (1980 + n))
          rw [show g = Int32.ofNat (1980 + n) from i32eq (by rw [h2, ofNat_i (by omega)])]
        · rw [if_neg c9, if_pos (i32le.mpr (by omega))]
      simp only [hrd, Option.bind_some, hst]
      exact he
  obtain ⟨e, he⟩ := key c 0 4096 1980 (by omega) (by decide) (by omega)
  have he : m_above_l1 v ms 4096 (-1, 1980) = some (hoI 1980 (hol L c c), e) := he
  simp only [m_above, at81, Option.bind_some, he]
/-- a value kept aside -/
theorem part_ok {X : List Nd} {b : Nat} {v : Int32} (hr : rowIs ms b X) (hX : okL X) (hl : X.length ≤ 24) (hb : b + X.length ≤ 2040) (hv : v.toInt = b) : ∃ ms1, m_part v ms = some ms1 ∧ rowIs ms1 2040 X ∧ kW 2040 ms ms1 ∧ ms1.2.1 = ms.2.1 := by
  have hX0 := hX
  obtain ⟨⟨x, xs, e1, e2⟩, hall⟩ := hX0
  have hx := hr 0 x (by rw [e1]; rfl)
  rw [Nat.add_zero] at hx
  have hrd : rd (ms.2.2.1 2) 2100 v = some (Int32.ofNat X.length) := by rw [rd_in (vp_of (by omega) (by omega)), show v.toNatClampNeg = b by rw [tnn]; omega, hx.2.1, e2]
  obtain ⟨ms1, c1, c2⟩ := copy_ok (ms := ms) (a0 := v) (a1 := 2040) (a2 := Int32.ofNat X.length) (a := b) (b := 2040) (n := X.length) hv (by decide) (ofNat_i (by omega)) (by omega) (by omega) (by omega) (row_nar hr hX (by omega))
  exact ⟨ms1, by simp only [m_part, at82, Option.bind_some, hrd, c1], hr.cp c2, c2.kW (Nat.le_refl _), c2.2.1⟩
theorem partName_ok {X : List Nd} (hr : rowIs ms 2040 X) (hX : okL X) (ns : List Int32) {x y : Int64} (hxy : (x, y) = enc ns) : ∃ ms1, m_partName x y ms = some ms1 ∧ rowF ms1 2040 (nmd ns X) ∧ kW 2040 ms ms1 ∧ ms1.2.1 = ms.2.1 ∧ ms1.2.2.1 = ms.2.2.1 := by
  have i4 : ix 2100 2040 = some 2040 := by rw [ix_in (vp_of (by decide) (by decide))]; rfl
  refine ⟨(ms.1, ms.2.1, ms.2.2.1, va_up (va_up ms.2.2.2 2 (vp_updL (ms.2.2.2 2) 2040 x)) 3 (vp_updL (ms.2.2.2 3) 2040 y)), by simp only [m_partName, at82, Option.bind_some, i4], ?_, ?_, rfl, rfl⟩
  · obtain ⟨⟨x9, xs, e1, e2⟩, hall⟩ := hX
    subst e1
    intro i z hz
    cases i with
    | zero =>
      cases hz
      have hx := hr 0 x9 rfl
      refine ⟨⟨hx.1, hx.2.1, hx.2.2.1, hx.2.2.2.1⟩, ?_⟩
      show (vp_updL (ms.2.2.2 2) 2040 x 2040, vp_updL (ms.2.2.2 3) 2040 y 2040) = _
      rw [updL_self, updL_self]; exact hxy
    | succ i =>
      have hx := hr (i + 1) z hz
      refine ⟨⟨hx.1, hx.2.1, hx.2.2.1, hx.2.2.2.1⟩, ?_⟩
      show (vp_updL (ms.2.2.2 2) 2040 x (2040 + (i + 1)), vp_updL (ms.2.2.2 3) 2040 y (2040 + (i + 1))) = _
      rw [updL_ne (by omega), updL_ne (by omega)]; exact hx.2.2.2.2 (by omega)
  · refine ⟨rfl, fun _ _ _ => rfl, fun k hk => ?_, fun j hj => ⟨rfl, rfl, fun k hk => ?_⟩⟩
    · show va_up (va_up _ _ _) _ _ k = _
      rw [va_up_ne _ _ (by omega), va_up_ne _ _ (by omega)]
    · rcases (show k = 0 ∨ k = 1 ∨ k = 2 ∨ k = 3 by omega) with rfl | rfl | rfl | rfl
      · rfl
      · rfl
      · show vp_updL (ms.2.2.2 2) 2040 x j = _
        rw [updL_ne (by omega)]
      · show vp_updL (ms.2.2.2 3) 2040 y j = _
        rw [updL_ne (by omega)]
end SPL
