/-! A part added to an object or an array. -/
theorem kl_le : ∀ Ls : List (List Nd), (∀ X ∈ Ls, 0 < X.length) → Ls.length ≤ Ls.flatten.length := by
  intro Ls
  induction Ls with
  | nil => intro _; exact Nat.le_refl _
  | cons X Ls ih =>
    intro h
    have h1 := h X List.mem_cons_self
    have h2 := ih (fun Y hY => h Y (List.mem_cons_of_mem _ hY))
    rw [List.length_cons, List.flatten_cons, List.length_append]
    omega
theorem okL_nmd {L : List Nd} (h : okL L) (ns : List Int32) : okL (nmd ns L) ∧ ∀ n, L.length ≤ n → ∀ x ∈ nmd ns L, okN n x := by
  obtain ⟨⟨x, xs, e, e2⟩, hall⟩ := h
  subst e
  have hx := hall x List.mem_cons_self
  refine ⟨⟨⟨_, xs, rfl, e2⟩, fun y hy => ?_⟩, fun n hn y hy => ?_⟩
  · rcases List.mem_cons.mp hy with h9 | h9
    · rw [h9]; exact hx
    · exact hall y (List.mem_cons_of_mem _ h9)
  · rcases List.mem_cons.mp hy with h9 | h9
    · rw [h9]; exact ⟨hx.1, hx.2.1, Nat.le_trans hx.2.2 hn⟩
    · have := hall y (List.mem_cons_of_mem _ h9)
      exact ⟨this.1, this.2.1, Nat.le_trans this.2.2 hn⟩
/-- what changing the document comes to -/
def DC9 (Zd : Nat → Nat) (K : KE) (s : CS) (ms : MS) (N V : List Nat) (a : Nat) (s1 : CS) (ms1 : MS) : Prop := ∃ (W N2 : List Nat) (nx : Option Nat) (L2 : List Nd), vch s s1 W ∧ (∀ x ∈ W, x ∈ N ∨ x ∈ V) ∧ Tw Zd K s1 9 N2 a nx L2 ∧ N2.Nodup ∧ (∀ x ∈ N2, x ∈ N ∨ x ∈ V) ∧ rowIs ms1 1980 L2 ∧ L2.length ≤ 48 ∧ kW 1980 ms ms1
section ADD
variable {Zd : Nat → Nat} {K : KE} {s : CS} {ms : MS} {N V : List Nat} {a v p h tb : Nat} {nx nxv : Option Nat} {L Lv : List Nd} {t : List Int32}
theorem nd_all {w : Nat} {ks : List Kd} (h1 : (w :: kN ks).Nodup) (h2 : V.Nodup) (h3 : ∀ x ∈ V, x ∉ w :: kN ks) : (w :: (kN ks ++ V)).Nodup := by
  obtain ⟨a1, a2⟩ := List.nodup_cons.mp h1
  refine List.nodup_cons.mpr ⟨fun h9 => ?_, List.nodup_append.mpr ⟨a2, h2, fun x hx y hy e => h3 y hy (by rw [← e]; exact List.mem_cons_of_mem _ hx)⟩⟩
  rcases List.mem_append.mp h9 with h8 | h8
  · exact a1 h8
  · exact h3 w h8 List.mem_cons_self
theorem nd_mid {w : Nat} {X Y Z : List Nat} (h1 : (w :: (X ++ (Y ++ Z))).Nodup) (h2 : V.Nodup) (h3 : ∀ x ∈ V, x ∉ w :: (X ++ (Y ++ Z))) : (w :: (X ++ (V ++ Z))).Nodup := by
  obtain ⟨a1, a2⟩ := List.nodup_cons.mp h1
  obtain ⟨b1, b2, b3⟩ := List.nodup_append.mp a2
  obtain ⟨c1, c2, c3⟩ := List.nodup_append.mp b2
  refine List.nodup_cons.mpr ⟨fun h9 => ?_, List.nodup_append.mpr ⟨b1, List.nodup_append.mpr ⟨h2, c2, fun x hx y hy e => h3 x hx (by rw [e]; exact List.mem_cons_of_mem _ (List.mem_append_right _ (List.mem_append_right _ hy)))⟩, fun x hx y hy e => ?_⟩⟩
  · rcases List.mem_append.mp h9 with h8 | h8
    · exact a1 (List.mem_append_left _ h8)
    · rcases List.mem_append.mp h8 with h7 | h7
      · exact h3 w h7 List.mem_cons_self
      · exact a1 (List.mem_append_right _ (List.mem_append_right _ h7))
  · rcases List.mem_append.mp hy with h8 | h8
    · exact h3 y h8 (by rw [← e]; exact List.mem_cons_of_mem _ (List.mem_append_left _ hx))
    · exact b3 x hx y (List.mem_append_right _ h8) e
/-- a member comes, or takes another's place -/
theorem addM_lock (hc : kc Zd K) (hT : Tw Zd K s 5 N a nx L) (hnd : N.Nodup) (hl : L.length ≤ 24) (hr : rowIs ms 1980 L) (hp : N[h]? = some p) (hV : Tw Zd K s 5 V v nxv Lv) (hVn : V.Nodup) (hVd : ∀ x ∈ V, x ∉ N) (hVr : rowIs ms 2040 Lv) (hVl : Lv.length ≤ 24) (ht : Pt K s tb t) (ht9 : t.length ≤ 9) (hm : (ms.2.1 0, ms.2.1 1) = encU t) (hkd : gQ K s p 11 0 = some (some (Zd 14))) {hI : Int32} (hhI : hI.toInt = (1980 + h : Nat)) :
    ∃ s1 ms1 x56 st60 e63 e66, c_Patcher_addMember Zd K (some p) (some tb) (some v) s = some s1 ∧ m_member hI (ms.2.1 0) (ms.2.1 1) ms = some x56 ∧ m_partName (ms.2.1 0) (ms.2.1 1) ms = some st60 ∧ (if (0 : Int32) ≤ x56 then (some x56) else ((rd (st60.2.2.1 2) 2100 hI).bind fun x72 => (some (hI + x72)).bind fun y73 => some y73)) = some e63 ∧ (if (0 : Int32) ≤ x56 then ((rd (st60.2.2.1 2) 2100 x56).bind fun x71 => some x71) else (some (0 : Int32))) = some e66 ∧ m_splice e63 e66 hI 1 st60 = some ms1 ∧ DC9 Zd K s ms N V a s1 ms1 := by
  have Nn := nums
  obtain ⟨kd, o9, k1, k2, k3, k4, k5, k6, -⟩ := kid_lock hc hT hp ht ht9 hr hl hm hhI
  rw [hkd] at k1
  cases k1
  have o6 : o9 = 6 := k3.mp rfl
  subst o6
  obtain ⟨m1, m2⟩ := k6 rfl
  obtain ⟨d1, M, M1, A, B, o, num, cs, ns, fst, nx1, ks, h1, h2, h3, h4, h5, ⟨g1, g2⟩, ⟨g3, g4⟩, g5, g6, g7⟩ := reb hc.2.2 hT hnd hp
  have ho6 : o = 6 := by
    obtain ⟨kz, y1, y2⟩ := h1.q0
    rw [hkd] at y1
    cases y1
    exact (kd_14 hc y2 (i := 6) (by decide)).mp rfl
  subst ho6
  have hd1 : 0 < d1 := h4 (by decide)
  have hoks := h2.oks
  have hlk : (kL ks).length = ks.length := by unfold kL; rw [List.length_map]
  have hkl := kl_le (kL ks) (fun X hX => by obtain ⟨⟨x, xs, e, -⟩, -⟩ := hoks X hX; rw [e]; exact Nat.succ_pos _)
  have hLl : L.length = A.length + (1 + (kL ks).flatten.length) + B.length := by rw [g3, List.length_append, List.length_append, List.length_cons]; omega
  have hkid : kidAt L h t = fnd t (h + 1) (kL ks) := by
    rw [g3, kidAt_eq g4 rfl hoks (by rw [hlk]; exact h3), if_pos rfl]
  rw [hkid] at m1 m2
  obtain ⟨cs0, ht1, ht2, ht3⟩ := ht
  have henc : enc cs0 = encU t := by rw [enc_u, ← ht3]
  have hVo := hV.ok
  have hnames : ∀ X ∈ kL ks, okS (nmL X) := by
    intro X hX
    obtain ⟨k, hk, rfl⟩ := List.mem_map.mp hX
    obtain ⟨nx9, h9⟩ := Cs.all ks fst none h2 k hk
    obtain ⟨n9, -, -, h8⟩ := (rdC_T d1 _ _ _ _ h9).2
    exact h8
  have hVk : ∀ x ∈ V, x ∉ p :: kN ks := fun x hx h9 => hVd x hx (by rw [g1]; exact List.mem_append_left _ (List.mem_append_right _ h9))
  have hokL := hT.ok
  have hnst := Tw_nst hc.2.2 _ _ _ _ _ hT
  have hNs : ∀ x ∈ p :: kN ks, x ∈ N := fun x hx => by rw [g1]; exact List.mem_append_left _ (List.mem_append_right _ hx)
  obtain ⟨st60, p1, p2, p3, p4, p5⟩ := partName_ok hVr hVo cs0 (x := ms.2.1 0) (y := ms.2.1 1) (by rw [hm, henc])
  have hr60 : rowIs st60 1980 L := hr.kW p3 (by omega)
  obtain ⟨n1, n2⟩ := okL_nmd hVo cs0
  have hPl : (nmd cs0 Lv).length ≤ 24 := by rw [nmd_len]; exact hVl
  cases hf : fnd t (h + 1) (kL ks) with
  | none =>
    rw [hf] at m1 m2
    have hno := fnd_none ks _ hf
    -- the class
    obtain ⟨s2, e1, e2, e3⟩ := (hV.ups (d1 + 4) (by omega)).name hVn ht1 ht2
    have hoff : ∀ x ∈ p :: kN ks, x ∉ [v] := fun x hx h9 => by rw [List.mem_singleton] at h9; exact hVk v hV.mem (by rw [← h9]; exact hx)
    have hN2 := h1.mono (e2.sm (K := K) (N := [p]) (fun x hx => by rw [List.mem_singleton] at hx; rw [hx]; exact hoff p List.mem_cons_self)) (List.mem_singleton.mpr rfl)
    have hc2 : Cs (Tw Zd K s2 (d1 + 4)) fst ks none := Cs.keep e2 (h2.ups (by omega)) (fun x hx => hoff x (List.mem_cons_of_mem _ hx))
    obtain ⟨s3, fst3, f1, f2, f3, f4⟩ := append_ok hN2 hc2 e3 (nd_all g6 hVn hVk) (by omega)
    have hkL1 : kL (ks ++ [(V, v, nmd cs0 Lv)]) = kL ks ++ [nmd cs0 Lv] := by rw [kL_app]; rfl
    have hkN1 : kN (ks ++ [(V, v, nmd cs0 Lv)]) = kN ks ++ V := by rw [kN_app, kN_cons]; show _ ++ (_ ++ []) = _; rw [List.append_nil]
    have hfl1 : (kL (ks ++ [(V, v, nmd cs0 Lv)])).flatten = (kL ks).flatten ++ (nmd cs0 Lv ++ []) := by rw [hkL1, List.flatten_append]; rfl
    obtain ⟨N2, t1, t2, t3⟩ := g7 s3 V (p :: (kN ks ++ V)) fst3 (ks ++ [(V, v, nmd cs0 Lv)]) ((e2.sub (fun x hx => by rw [List.mem_singleton] at hx; rw [hx]; exact List.mem_cons_of_mem _ (List.mem_append_right _ hV.mem))).tr f2) (fun x hx => by
      rcases List.mem_cons.mp hx with h9 | h9
      · left; rw [h9]; exact List.mem_cons_self
      · rcases List.mem_append.mp h9 with h8 | h8
        · left; exact List.mem_cons_of_mem _ h8
        · right; exact h8) hVd f3 f4 (by rw [List.length_append, List.length_singleton]; omega) (fun h9 => absurd h9 (by decide)) (fun _ => by
      rw [hkL1, List.map_append]
      refine List.nodup_append.mpr ⟨h5.2.2.2.2 rfl, by simp, fun x hx y hy e9 => ?_⟩
      obtain ⟨X, hX, hX2⟩ := List.mem_map.mp hx
      obtain ⟨k, hk, hk2⟩ := List.mem_map.mp hX
      have hy2 : y = cs0 := by
        have : y = nmL (nmd cs0 Lv) := by simpa using hy
        rw [this, nmd_nm cs0 hVo]
      refine hno k hk ?_
      rw [hk2, hX2, e9, hy2, ht3]) (by rw [hkN1]; exact nd_all g6 hVn hVk) (fun x hx => by
      rw [hkN1] at hx
      rcases List.mem_append.mp hx with h8 | h8
      · left; exact h8
      · right; exact h8)
    -- the model
    have hsp2 : rd (st60.2.2.1 2) 2100 hI = some (Int32.ofNat (1 + (kL ks).flatten.length)) := by
      have hroot := hr60 h ((6 : Int32), 1 + (kL ks).flatten.length, num, cs, ns) (by
        rw [g3, List.append_assoc, List.getElem?_append_right (by omega), show h - A.length = 0 by omega]
        rfl)
      rw [rd_in (vp_of (by omega) (by omega)), show hI.toNatClampNeg = 1980 + h by rw [tnn]; omega, hroot.2.1]
    have hspi : (Int32.ofNat (1 + (kL ks).flatten.length)).toInt = 1 + (kL ks).flatten.length := by rw [ofNat_i (by omega)]; omega
    have hL2 : L = A ++ (((6 : Int32), 1 + ((kL ks).flatten ++ (([] : List Nd) ++ [])).length, num, cs, ns) :: ((kL ks).flatten ++ (([] : List Nd) ++ []))) ++ B := by rw [List.append_nil, List.append_nil]; exact g3
    obtain ⟨ms1, w1, w2, w3⟩ := row_done (cI := hI + Int32.ofNat (1 + (kL ks).flatten.length)) (gI := 0) (hI := hI) (w := 1) hL2 g4 hr60 hl hokL hnst p2 hPl (n2 24 hVl) (Or.inr ⟨rfl, n1⟩) (by rw [i32add (by omega) (by omega)]; omega) rfl hhI
    refine ⟨s3, ms1, -1, st60, _, 0, ?_, m2, p1, ?_, ?_, w1, ?_⟩
    · have m1 : c_Value_member Zd K p (some tb) s = some none := m1
      simp only [c_Patcher_addMember, Option.bind_some, k2, m1, nl, e1, hN2.is, f1]
    · rw [if_neg (by decide), hsp2]; rfl
    · rw [if_neg (by decide)]
    · refine ⟨p :: (kN ks ++ V), N2, nx, _, (e2.sub (fun x hx => by rw [List.mem_singleton] at hx; rw [hx]; exact List.mem_cons_of_mem _ (List.mem_append_right _ hV.mem))).tr f2, fun x hx => ?_, t1, t2, t3, ?_, ?_, (p3.dn (by omega)).tr w3⟩
      · rcases List.mem_cons.mp hx with h9 | h9
        · left; rw [h9]; exact hNs p List.mem_cons_self
        · rcases List.mem_append.mp h9 with h8 | h8
          · left; exact hNs x (List.mem_cons_of_mem _ h8)
          · right; exact h8
      · rw [hfl1]
        rw [List.nil_append, List.append_nil] at w2
        rw [List.append_nil] at w2 ⊢
        exact w2
      · rw [hfl1, List.length_append, List.length_append, adjL_len, List.length_cons, List.length_append, List.length_append, nmd_len]
        show A.length + ((kL ks).flatten.length + (Lv.length + 0) + 1) + B.length ≤ 48
        omega
  | some z =>
    rw [hf] at m1 m2
    obtain ⟨pre, k, post, e1, e2, e3, e4⟩ := fnd_some ks _ hf
    subst e1
    have hkm : k ∈ pre ++ k :: post := by simp
    have hnk : nmL k.2.2 = cs0 := u8_inj (hnames _ (List.mem_map.mpr ⟨k, hkm, rfl⟩)) ht2 (by rw [e3, ht3])
    obtain ⟨nxk, c1, c2, c3⟩ := h2.mid
    have hNz : N[z]? = some k.2.1 := by
      rw [g1, e2, ← c1.lens]
      exact part_at g2 c2.hd
    have m1 : c_Value_member Zd K p (some tb) s = some (some k.2.1) := by rw [m1, Option.bind_some, hNz]
    have hkL0 : kL (pre ++ k :: post) = kL pre ++ k.2.2 :: kL post := by rw [kL_app, kL_cons]
    have hkN0 : kN (pre ++ k :: post) = kN pre ++ (k.1 ++ kN post) := by rw [kN_app, kN_cons]
    have hfl0 : (kL (pre ++ k :: post)).flatten = (kL pre).flatten ++ (k.2.2 ++ (kL post).flatten) := by rw [hkL0, List.flatten_append, List.flatten_cons]
    have hfll : (kL (pre ++ k :: post)).flatten.length = (kL pre).flatten.length + (k.2.2.length + (kL post).flatten.length) := by rw [hfl0, List.length_append, List.length_append]
    have hpl : pre.length ≤ 64 := by have := h3; rw [List.length_append] at this; omega
    obtain ⟨s3, fst3, f1, f2, f3, f4⟩ := swap_ok h1 (h2.ups (show d1 ≤ d1 + 4 by omega)) (hV.ups (d1 + 4) (by omega)) (nd_all g6 hVn hVk) (by omega)
    rw [hnk] at f4
    have hkL1 : kL (pre ++ (V, v, nmd cs0 Lv) :: post) = kL pre ++ nmd cs0 Lv :: kL post := by rw [kL_app, kL_cons]
    have hkN1 : kN (pre ++ (V, v, nmd cs0 Lv) :: post) = kN pre ++ (V ++ kN post) := by rw [kN_app, kN_cons]
    have hfl1 : (kL (pre ++ (V, v, nmd cs0 Lv) :: post)).flatten = (kL pre).flatten ++ (nmd cs0 Lv ++ (kL post).flatten) := by rw [hkL1, List.flatten_append, List.flatten_cons]
    have hW : ∀ x ∈ p :: (kN pre ++ V), x ∈ p :: kN (pre ++ k :: post) ∨ x ∈ V := by
      intro x hx
      rcases List.mem_cons.mp hx with h9 | h9
      · left; rw [h9]; exact List.mem_cons_self
      · rcases List.mem_append.mp h9 with h8 | h8
        · left; rw [hkN0]; exact List.mem_cons_of_mem _ (List.mem_append_left _ h8)
        · right; exact h8
    obtain ⟨N2, t1, t2, t3⟩ := g7 s3 V (p :: (kN pre ++ V)) fst3 (pre ++ (V, v, nmd cs0 Lv) :: post) f2 hW hVd f3 f4 (by
      have := h3
      rw [List.length_append, List.length_cons] at this ⊢
      exact this) (fun h9 => absurd h9 (by decide)) (fun _ => by
      have := h5.2.2.2.2 rfl
      rw [hkL0, List.map_append, List.map_cons, hnk] at this
      rw [hkL1, List.map_append, List.map_cons, nmd_nm cs0 hVo]
      exact this) (by
      rw [hkN1]
      rw [hkN0] at g6 hVk
      exact nd_mid g6 hVn hVk) (fun x hx => by
      rw [hkN1] at hx
      rw [hkN0]
      rcases List.mem_append.mp hx with h8 | h8
      · left; exact List.mem_append_left _ h8
      · rcases List.mem_append.mp h8 with h7 | h7
        · right; exact h7
        · left; exact List.mem_append_right _ (List.mem_append_right _ h7))
    have hzi : (ci (some z)).toInt = (1980 + (h + 1 + (kL pre).flatten.length) : Nat) := by
      show (Int32.ofNat (1980 + z)).toInt = _
      rw [ofNat_i (by omega), e2]
    have hz0 : (0 : Int32) ≤ ci (some z) := i32le.mpr (by omega)
    have hL2 : L = A ++ (((6 : Int32), 1 + ((kL pre).flatten ++ (k.2.2 ++ (kL post).flatten)).length, num, cs, ns) :: ((kL pre).flatten ++ (k.2.2 ++ (kL post).flatten))) ++ B := by rw [← hfl0]; exact g3
    have hsp2 : rd (st60.2.2.1 2) 2100 (ci (some z)) = some (Int32.ofNat k.2.2.length) := by
      have h9 : rowIs st60 1980 ((A ++ (((6 : Int32), 1 + (kL (pre ++ k :: post)).flatten.length, num, cs, ns) :: (kL pre).flatten)) ++ (k.2.2 ++ (kL post).flatten) ++ B) := by
        have := hr60
        rw [g3, hfl0] at this
        rw [hfl0]
        simpa using this
      have h8 := rowIs_F h9 (by rw [List.length_append, List.length_cons]; omega)
      have hlen : (A ++ (((6 : Int32), 1 + (kL (pre ++ k :: post)).flatten.length, num, cs, ns) :: (kL pre).flatten)).length = h + 1 + (kL pre).flatten.length := by rw [List.length_append, List.length_cons, g4]; omega
      rw [hlen] at h8
      exact (spanF h8 c2.ok hzi (by omega)).1
    obtain ⟨ms1, w1, w2, w3⟩ := row_done (cI := ci (some z)) (gI := Int32.ofNat k.2.2.length) (hI := hI) (w := 1) hL2 g4 hr60 hl hokL hnst p2 hPl (n2 24 hVl) (Or.inr ⟨rfl, n1⟩) hzi (ofNat_i (by omega)) hhI
    refine ⟨s3, ms1, ci (some z), st60, _, _, ?_, m2, p1, by rw [if_pos hz0], by rw [if_pos hz0, hsp2]; rfl, w1, ?_⟩
    · simp only [c_Patcher_addMember, Option.bind_some, k2, m1, nl, f1]
    · refine ⟨p :: (kN pre ++ V), N2, nx, _, f2, fun x hx => ?_, t1, t2, t3, ?_, ?_, (p3.dn (by omega)).tr w3⟩
      · rcases hW x hx with h9 | h9
        · left; exact hNs x h9
        · right; exact h9
      · rw [hfl0, hfl1]; exact w2
      · rw [hfl1, List.length_append, List.length_append, adjL_len, List.length_cons, List.length_append, List.length_append, nmd_len]
        omega
end ADD
