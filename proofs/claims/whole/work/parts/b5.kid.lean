/-! A node's part that a token leads to: class and model. -/
def ci (r : Option Nat) : Int32 := match r with
  | none => -1
  | some j => Int32.ofNat (1980 + j)
theorem fnd_sh (t : List Int32) (o : Nat) : ∀ (Ls : List (List Nd)) (c : Nat), fnd t (o + c) Ls = (fnd t c Ls).map (fun z => o + z) := by
  intro Ls
  induction Ls with
  | nil => intro c; rfl
  | cons X Ls ih =>
    intro c
    unfold fnd
    by_cases e : (nmL X).map u8 = t
    · rw [if_pos e, if_pos e]; rfl
    · rw [if_neg e, if_neg e, Nat.add_assoc, ih]
theorem stt_sh (o : Nat) : ∀ (Ls : List (List Nd)) (c : Nat), stt (o + c) Ls = (stt c Ls).map (fun z => o + z) := by
  intro Ls
  induction Ls with
  | nil => intro c; rfl
  | cons X Ls ih =>
    intro c
    unfold stt
    rw [List.map_cons, Nat.add_assoc, ih]
theorem rowIs_F {ms : MS} {b : Nat} {A X B : List Nd} (h : rowIs ms b (A ++ X ++ B)) (hA : 0 < A.length) : rowF ms (b + A.length) X := by
  intro i x hx
  have hi : i < X.length := (List.getElem?_eq_some_iff.mp hx).1
  have h1 := h (A.length + i) x (by
    rw [List.append_assoc, List.getElem?_append_right (by omega), Nat.add_sub_cancel_left, List.getElem?_append_left hi]
    exact hx)
  rw [← Nat.add_assoc] at h1
  exact ⟨⟨h1.1, h1.2.1, h1.2.2.1, h1.2.2.2.1⟩, h1.2.2.2.2 (by omega)⟩
theorem part_at {M M1 : List Nat} {p i : Nat} {pre post : List Kd} {k : Kd} (hM : M.length = i) (hk : k.1[0]? = some k.2.1) : (M ++ (p :: kN (pre ++ k :: post)) ++ M1)[i + 1 + (kN pre).length]? = some k.2.1 := by
  have hl : 0 < k.1.length := (List.getElem?_eq_some_iff.mp hk).1
  rw [kN_app, kN_cons, List.append_assoc, List.getElem?_append_right (by omega), show i + 1 + (kN pre).length - M.length = (kN pre).length + 1 by omega]
  show ((p :: (kN pre ++ (k.1 ++ kN post))) ++ M1)[(kN pre).length + 1]? = _
  rw [List.cons_append, List.getElem?_cons_succ, List.append_assoc, List.getElem?_append_right (Nat.le_refl _), Nat.sub_self, List.append_assoc, List.getElem?_append_left hl]
  exact hk
section KID
variable {Zd : Nat → Nat} {K : KE} {s : CS} {ms : MS}
theorem find_mid {p : Kd → Bool} {pre post : List Kd} {k : Kd} (h1 : ∀ y ∈ pre, p y = false) (h2 : p k = true) : (pre ++ k :: post).find? p = some k := by
  rw [List.find?_append]
  have : pre.find? p = none := List.find?_eq_none.mpr (fun y hy => by rw [h1 y hy]; decide)
  rw [this, List.find?_cons_of_pos h2]
  rfl
theorem kid_lock (hc : kc Zd K) {d i p tb : Nat} {N : List Nat} {a : Nat} {nx : Option Nat} {L : List Nd} {t : List Int32} (hT : Tw Zd K s d N a nx L) (hp : N[i]? = some p) (ht : Pt K s tb t) (ht9 : t.length ≤ 9) (hrow : rowIs ms 1980 L) (hl : L.length ≤ 24) (hm : (ms.2.1 0, ms.2.1 1) = encU t) {v : Int32} (hv : v.toInt = (1980 + i : Nat)) :
    ∃ kd o, gQ K s p 11 0 = some (some kd) ∧ isO K s p 11 = some () ∧ ((some kd = some (Zd 14)) = (o = 6)) ∧ rd (ms.2.2.1 1) 2100 v = some o ∧ (∀ j, kidAt L i t = some j → ∃ y, N[j]? = some y) ∧ (o = 6 → c_Value_member Zd K p (some tb) s = some ((kidAt L i t).bind fun j => N[j]?) ∧ m_member v (ms.2.1 0) (ms.2.1 1) ms = some (ci (kidAt L i t))) ∧ (¬ o = 6 → ∃ x e19, c_Pointer_index Zd K (some tb) s = some x ∧ c_Value_element Zd K p x s = some ((kidAt L i t).bind fun j => N[j]?) ∧ (if o = 5 then ((m_tokenNumber ms).bind fun x32 => some x32) else some ((-1) : Int32)) = some e19 ∧ (if e19 < 0 then some ((-1) : Int32) else ((m_element v e19 ms).bind fun x26 => some x26)) = some (ci (kidAt L i t))) := by
  have Nn := nums
  obtain ⟨e, N1, nx1, L1, A, B, M, M1, g1, g2, g3, g4, g5, g6, -⟩ := Tw.foc hc.2.2 d N a nx L hT i p hp
  cases e with
  | zero => exact g1.elim
  | succ e =>
  obtain ⟨o, num, cs, ns, fst, ks, h1, h2, h3, h4, h5, h6⟩ := g1
  obtain ⟨kd, hq0, hord⟩ := h1.q0
  have hfl : (kL ks).flatten.length + 1 = L1.length := by rw [h6, List.length_cons]
  have hLl : L.length = A.length + L1.length + B.length := by rw [g3, List.length_append, List.length_append]
  have hoks := h2.oks
  have hlk : (kL ks).length = ks.length := by unfold kL; rw [List.length_map]
  have hkid : kidAt L i t = if o = 6 then fnd t (i + 1) (kL ks) else if o = 5 then (match tnum t with
      | none => none
      | some n => (stt (i + 1) (kL ks))[n]?) else none := by
    rw [g3, h6]
    exact kidAt_eq (x := (o, 1 + (kL ks).flatten.length, num, cs, ns)) g4 rfl hoks (by rw [hlk]; exact h3.1)
  have hroot := hrow i (o, 1 + (kL ks).flatten.length, num, cs, ns) (by
    rw [g3, h6, List.append_assoc, List.getElem?_append_right (by omega), show i - A.length = 0 by omega]
    rfl)
  have hrF : rowF ms (1980 + i + 1) (kL ks).flatten := by
    have h9 : rowIs ms 1980 ((A ++ [(o, 1 + (kL ks).flatten.length, num, cs, ns)]) ++ (kL ks).flatten ++ B) := by
      rw [g3, h6] at hrow
      simpa using hrow
    have := rowIs_F h9 (by simp)
    rw [List.length_append, g4] at this
    exact this
  have hvn : v.toNatClampNeg = 1980 + i := by rw [tnn]; omega
  have hin : vp_in v 2100 := vp_of (by omega) (by omega)
  have hsp2 : (ms.2.2.1 2 (1980 + i)).toInt = 1 + (kL ks).flatten.length := by
    have e9 : ms.2.2.1 2 (1980 + i) = Int32.ofNat (1 + (kL ks).flatten.length) := hroot.2.1
    rw [e9, ofNat_i (by omega)]; omega
  have hrd2 : rd (ms.2.2.1 2) 2100 v = some (ms.2.2.1 2 (1980 + i)) := by rw [rd_in hin, hvn]
  have hnames : ∀ X ∈ kL ks, okS (nmL X) := by
    intro X hX
    obtain ⟨k, hk, rfl⟩ := List.mem_map.mp hX
    obtain ⟨nx9, h9⟩ := Cs.all ks fst none h2 k hk
    obtain ⟨n9, -, -, h8⟩ := (rdC_T e _ _ _ _ h9).2
    exact h8
  have hpart : ∀ pre k post, ks = pre ++ k :: post → N[i + 1 + (kL pre).flatten.length]? = some k.2.1 := by
    intro pre k post e9
    subst e9
    obtain ⟨nxk, c1, c2, c3⟩ := h2.mid
    rw [g5, h5, ← c1.lens]
    exact part_at g6 c2.hd
  obtain ⟨cs0, ht1, ht2, ht3⟩ := ht
  have ht : Pt K s tb t := ⟨cs0, ht1, ht2, ht3⟩
  obtain ⟨htok, ht10⟩ := ht.ok
  refine ⟨kd, o, hq0, h1.is, kd_14 hc hord (i := 6) (by decide), by rw [rd_in hin, hvn, hroot.1], ?_, ?_, ?_⟩
  · intro j hj
    rw [hkid] at hj
    by_cases o6 : o = 6
    · rw [if_pos o6] at hj
      obtain ⟨pre, k, post, e1, e2, -, -⟩ := fnd_some ks _ hj
      exact ⟨_, by rw [e2]; exact hpart pre k post e1⟩
    · rw [if_neg o6] at hj
      by_cases o5 : o = 5
      · rw [if_pos o5] at hj
        cases htn : tnum t with
        | none => rw [htn] at hj; cases hj
        | some n =>
          rw [htn] at hj
          obtain ⟨pre, k, post, e1, e2, -⟩ := stt_some ks _ _ hj
          exact ⟨_, by rw [e2]; exact hpart pre k post e1⟩
      · rw [if_neg o5] at hj; cases hj
  · intro o6
    have hk6 : some kd = some (Zd 14) := (kd_14 hc hord (i := 6) (by decide)).mpr o6
    rw [if_pos o6] at hkid
    have hml := member_l (Zd := Zd) (rdC_T e) ht1 (show cs0.length ≤ 100 by have := ht2.1; omega) ks 4096 fst h2 (by have := h3.1; omega)
    constructor
    · have hcm : ∀ r, c_Value_member_l1 Zd K (some tb) s 4096 fst = some r → c_Value_member Zd K p (some tb) s = (match r with | .inl o9 => some o9 | .inr e8 => some none) := by
        intro r hr
        simp only [c_Value_member, hq0, Option.bind_some, hk6, if_true, h1.q4, hr]
        cases r <;> rfl
      rw [hcm _ hml, hkid]
      cases hf : fnd t (i + 1) (kL ks) with
      | none =>
        have hno := fnd_none ks _ hf
        have : ks.find? (fun k => decide (nmL k.2.2 = cs0)) = none := List.find?_eq_none.mpr (fun y hy => by
          have h9 := hno y hy
          intro e9
          exact h9 (by rw [of_decide_eq_true e9, ht3]))
        rw [this]
        rfl
      | some z =>
        obtain ⟨pre, k, post, e1, e2, e3, e4⟩ := fnd_some ks _ hf
        have hkm : k ∈ ks := by rw [e1]; simp
        have : ks.find? (fun k => decide (nmL k.2.2 = cs0)) = some k := by
          rw [e1]
          refine find_mid (fun y hy => ?_) ?_
          · apply decide_eq_false
            intro e9
            exact e4 y hy (by rw [e9, ht3])
          · apply decide_eq_true
            exact u8_inj (hnames _ (List.mem_map.mpr ⟨k, hkm, rfl⟩)) ht2 (by rw [e3, ht3])
        rw [this]
        show some (some k.2.1) = some ((some z).bind fun j => N[j]?)
        rw [Option.bind_some, e2, hpart pre k post e1]
    · rw [member_ok (base := 1980 + i) (Ls := kL ks) hv hsp2 (by omega) hrF hoks (by rw [hlk]; have := h3.1; omega), hm, fdR_fnd htok ht10 (kL ks) _ _ hnames (h4.2.2.2.2 o6), hkid, Nat.add_assoc, fnd_sh]
      cases fnd t (i + 1) (kL ks) <;> rfl
  · intro o6
    rw [if_neg o6] at hkid
    obtain ⟨x, y, x1, x2, x3⟩ := idx_lock (Zd := Zd) ht ht9 hm
    have hcf : Cs (fT Zd K s e) fst ks none := Cs.mono ks fst none h2 (fun k hk nx9 h9 => ⟨Tw.tree _ _ _ _ _ h9, (rdC_T e _ _ _ _ h9).1⟩)
    by_cases o5 : o = 5
    · have hk5 : some kd = some (Zd 13) := (kd_14 hc hord (i := 5) (by decide)).mpr o5
      rw [if_pos o5] at hkid
      obtain ⟨r, hr1, hr2⟩ := elm_c (a0 := x) ks 4096 0 fst hcf (by have := h3.1; omega) (by decide) (by rw [Nn.1]; have := h3.1; omega)
      rw [Nn.1, Int.sub_zero] at hr2
      refine ⟨x, y, x1, ?_, by rw [if_pos o5, x2]; rfl, ?_⟩
      · have hce : c_Value_element Zd K p x s = some (elC ks x.toInt) := by
          simp only [c_Value_element, hq0, Option.bind_some, hk5, if_true, h1.q4, hr1]
          exact hr2
        rw [hce, hkid]
        cases htn : tnum t with
        | none =>
          rw [htn] at x3
          have : elC ks x.toInt = none := by rw [x3.1]; rfl
          rw [this]; rfl
        | some n =>
          rw [htn] at x3
          have : elC ks x.toInt = (ks[n]?).map (fun k => k.2.1) := by
            unfold elC
            rw [if_pos (by omega), show x.toInt.toNat = n by omega]
          rw [this]
          dsimp only
          cases hs : (stt (i + 1) (kL ks))[n]? with
          | none => rw [List.getElem?_eq_none (stt_none hs)]; rfl
          | some z =>
            obtain ⟨pre, k, post, e1, e2, e3⟩ := stt_some ks _ _ hs
            have : ks[n]? = some k := by rw [e1, List.getElem?_append_right (by omega), show n - pre.length = 0 by omega]; rfl
            rw [this, Option.bind_some, e2, hpart pre k post e1]; rfl
      · rw [hkid]
        cases htn : tnum t with
        | none =>
          rw [htn] at x3
          rw [x3.2, if_pos (by decide)]; rfl
        | some n =>
          rw [htn] at x3
          have hy0 : ¬ y < 0 := fun e9 => by have := i32lt.mp e9; omega
          have hv1 : (v + 1).toInt = (1980 + i + 1 : Nat) := by rw [i32add (by omega) (by omega)]; omega
          obtain ⟨i1, v1, hel⟩ := elmF hrd2 (E := 1980 + i + 1 + (kL ks).flatten.length) (by rw [i32add (by omega) (by omega), hsp2]; omega) (by omega) (kL ks) (1980 + i + 1) 4096 y (-1) (v + 1) hrF hoks rfl hv1 (by rw [hlk]; have := h3.1; omega) (by rw [hlk]; have := h3.1; omega) (by omega)
          rw [if_neg hy0]
          simp only [m_element, Option.bind_some, hel]
          congr 1
          unfold elS
          rw [if_pos (by omega), Nat.add_assoc, stt_sh, List.getElem?_map]
          have hlen : (stt (i + 1) (kL ks)).length ≤ 64 := by rw [stt_len, hlk]; exact h3.1
          by_cases hn9 : n ≤ 999
          · rw [show y.toInt.toNat = n by omega]
            cases (stt (i + 1) (kL ks))[n]? <;> rfl
          · rw [List.getElem?_eq_none (l := stt (i + 1) (kL ks)) (i := y.toInt.toNat) (by omega), List.getElem?_eq_none (l := stt (i + 1) (kL ks)) (i := n) (by omega)]
            rfl
    · rw [if_neg o5] at hkid
      have hk5 : ¬ some kd = some (Zd 13) := fun e9 => o5 ((kd_14 hc hord (i := 5) (by decide)).mp e9)
      refine ⟨x, -1, x1, ?_, by rw [if_neg o5], ?_⟩
      · rw [hkid]
        simp only [c_Value_element, hq0, Option.bind_some, hk5, if_false]
        rfl
      · rw [hkid, if_pos (by decide)]; rfl
end KID
