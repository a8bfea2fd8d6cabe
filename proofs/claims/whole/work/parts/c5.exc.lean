/-! A part taken away, or exchanged for another. -/
section EXC
variable {Zd : Nat → Nat} {K : KE} {s : CS} {ms : MS} {N : List Nat} {a p h : Nat} {nx : Option Nat} {L : List Nd} {t : List Int32}
theorem exc_lock (hc : kc Zd K) (hT : Tw Zd K s 5 N a nx L) (hnd : N.Nodup) (hl : L.length ≤ 24) (hr : rowIs ms 1980 L) (hp : N[h]? = some p) {z : Nat} (hz : kidAt L h t = some z) :
    ∃ y, N[z]? = some y ∧ h < z ∧ z < L.length ∧ isO K s p 11 = some () ∧
    (∃ s1 ms1, c_Value_drop Zd K p (some y) s = some s1 ∧ m_removed (ci (some z)) ms = some (1, ms1) ∧ DC9 Zd K s ms N [] a s1 ms1) ∧
    (∀ (V : List Nat) (v : Nat) (nxv : Option Nat) (Lv : List Nd), Tw Zd K s 5 V v nxv Lv → V.Nodup → (∀ x ∈ V, x ∉ N) → rowIs ms 2040 Lv → Lv.length ≤ 24 → ∃ s1 ms1, c_Value_swap Zd K p (some y) (some v) s = some s1 ∧ m_replaced (ci (some z)) ms = some (1, ms1) ∧ DC9 Zd K s ms N V a s1 ms1) := by
  have Nn := nums
  have Wn := nWk
  obtain ⟨d1, M, M1, A, B, o, num, cs, ns, fst, nx1, ks, h1, h2, h3, h4, h5, ⟨g1, g2⟩, ⟨g3, g4⟩, g5, g6, g7⟩ := reb hc.2.2 hT hnd hp
  have hoks := h2.oks
  have hlk : (kL ks).length = ks.length := by unfold kL; rw [List.length_map]
  have hdec : ∃ pre k post, ks = pre ++ k :: post ∧ z = h + 1 + (kL pre).flatten.length := by
    rw [g3, kidAt_eq g4 rfl hoks (by rw [hlk]; exact h3)] at hz
    dsimp only at hz
    by_cases o6 : o = 6
    · rw [if_pos o6] at hz
      obtain ⟨pre, k, post, e1, e2, -, -⟩ := fnd_some ks _ hz
      exact ⟨pre, k, post, e1, e2⟩
    · rw [if_neg o6] at hz
      by_cases o5 : o = 5
      · rw [if_pos o5] at hz
        cases hn9 : tnum t with
        | none => rw [hn9] at hz; cases hz
        | some n =>
          rw [hn9] at hz
          obtain ⟨pre, k, post, e1, e2, -⟩ := stt_some ks _ _ hz
          exact ⟨pre, k, post, e1, e2⟩
      · rw [if_neg o5] at hz; cases hz
  obtain ⟨pre, k, post, e1, e2⟩ := hdec
  subst e1
  have ho5 : 5 ≤ o.toInt := by
    rcases Int.lt_or_le o.toInt 5 with h9 | h9
    · have := h5.1 h9
      rw [kL_app, kL_cons] at this
      simp at this
    · exact h9
  have hd1 : 0 < d1 := h4 ho5
  obtain ⟨nxk, c1, c2, c3⟩ := h2.mid
  have hNz : N[z]? = some k.2.1 := by
    rw [g1, e2, ← c1.lens]
    exact part_at g2 c2.hd
  have hokL := hT.ok
  have hnst := Tw_nst hc.2.2 _ _ _ _ _ hT
  have hNs : ∀ x ∈ p :: kN (pre ++ k :: post), x ∈ N := fun x hx => by rw [g1]; exact List.mem_append_left _ (List.mem_append_right _ hx)
  have hkL0 : kL (pre ++ k :: post) = kL pre ++ k.2.2 :: kL post := by rw [kL_app, kL_cons]
  have hkN0 : kN (pre ++ k :: post) = kN pre ++ (k.1 ++ kN post) := by rw [kN_app, kN_cons]
  have hfl0 : (kL (pre ++ k :: post)).flatten = (kL pre).flatten ++ (k.2.2 ++ (kL post).flatten) := by rw [hkL0, List.flatten_append, List.flatten_cons]
  have hfll : (kL (pre ++ k :: post)).flatten.length = (kL pre).flatten.length + (k.2.2.length + (kL post).flatten.length) := by rw [hfl0, List.length_append, List.length_append]
  have hLl : L.length = A.length + (1 + (kL (pre ++ k :: post)).flatten.length) + B.length := by rw [g3, List.length_append, List.length_append, List.length_cons]; omega
  have hpl : pre.length ≤ 64 := by have := h3; rw [List.length_append] at this; omega
  have hkpos := c2.pos
  have hzi : (ci (some z)).toInt = (1980 + (h + 1 + (kL pre).flatten.length) : Nat) := by
    show (Int32.ofNat (1980 + z)).toInt = _
    rw [ofNat_i (by omega), e2]
  have hz0 : (0 : Int32) ≤ ci (some z) := i32le.mpr (by omega)
  have hL2 : L = A ++ ((o, 1 + ((kL pre).flatten ++ (k.2.2 ++ (kL post).flatten)).length, num, cs, ns) :: ((kL pre).flatten ++ (k.2.2 ++ (kL post).flatten))) ++ B := by rw [← hfl0]; exact g3
  -- the row from the part on
  have hrk : ∀ m9 : MS, rowIs m9 1980 L → rowF m9 (1980 + (h + 1 + (kL pre).flatten.length)) (k.2.2 ++ (kL post).flatten) := by
    intro m9 hr9
    have h9 : rowIs m9 1980 ((A ++ ((o, 1 + (kL (pre ++ k :: post)).flatten.length, num, cs, ns) :: (kL pre).flatten)) ++ (k.2.2 ++ (kL post).flatten) ++ B) := by
      have := hr9
      rw [g3, hfl0] at this
      rw [hfl0]
      simpa using this
    have h8 := rowIs_F h9 (by rw [List.length_append, List.length_cons]; omega)
    have hlen : (A ++ ((o, 1 + (kL (pre ++ k :: post)).flatten.length, num, cs, ns) :: (kL pre).flatten)).length = h + 1 + (kL pre).flatten.length := by rw [List.length_append, List.length_cons, g4]; omega
    rw [hlen] at h8
    exact h8
  have hsp : ∀ m9 : MS, rowIs m9 1980 L → rd (m9.2.2.1 2) 2100 (ci (some z)) = some (Int32.ofNat k.2.2.length) := fun m9 hr9 => (spanF (hrk m9 hr9) c2.ok hzi (by omega)).1
  -- the holder
  have hhol : hol L z z = some h := by
    have hroot : L[h]? = some (o, 1 + (kL (pre ++ k :: post)).flatten.length, num, cs, ns) := by
      rw [g3, List.append_assoc, List.getElem?_append_right (by omega), show h - A.length = 0 by omega]
      rfl
    have hokE : okE (kL pre).flatten := okE_flat (kL pre) (fun X hX => by
      obtain ⟨y, hy, rfl⟩ := List.mem_map.mp hX
      obtain ⟨nx9, h9⟩ := Cs.all pre fst _ c1 y hy
      exact tree_end hc.2.2 d1 _ _ (Tw.tree _ _ _ _ _ h9))
    have hsk := hol_skip (LL := L) (j := z) (n := h + 1) (kL pre).flatten.length (fun i x i1 i2 hx => by
      rw [hL2] at hx
      have hx2 : (kL pre).flatten[i - (h + 1)]? = some x := by
        rw [List.append_assoc, List.getElem?_append_right (by omega), List.cons_append, show i - A.length = (i - (h + 1)) + 1 by omega, List.getElem?_cons_succ, List.append_assoc, List.getElem?_append_left (by omega)] at hx
        exact hx
      have := hokE _ x hx2
      omega)
    rw [← e2] at hsk
    rw [hsk, hol_s hroot, if_pos (show z < h + (1 + (kL (pre ++ k :: post)).flatten.length) by omega)]
  have habv : ∀ m9 : MS, rowIs m9 1980 L → m_above (ci (some z)) m9 = some (Int32.ofNat (1980 + h)) := by
    intro m9 hr9
    rw [above_ok hr9 (by omega) (fun x hx => by have := (hokL.2 x hx).2.2; omega) (c := z) (by rw [hzi, e2]) (by omega), hhol]
    rfl
  have hhI : (Int32.ofNat (1980 + h)).toInt = (1980 + h : Nat) := ofNat_i (by omega)
  refine ⟨k.2.1, hNz, by omega, by omega, h1.is, ?_, ?_⟩
  · -- taken away
    obtain ⟨s3, fst3, f1, f2, f3, f4⟩ := drop_ok h1 h2 g6 (by omega)
    have hkL1 : kL (pre ++ post) = kL pre ++ kL post := kL_app _ _
    have hkN1 : kN (pre ++ post) = kN pre ++ kN post := kN_app _ _
    have hfl1 : (kL (pre ++ post)).flatten = (kL pre).flatten ++ (([] : List Nd) ++ (kL post).flatten) := by rw [hkL1, List.flatten_append]; rfl
    have hW : ∀ x ∈ p :: kN pre, x ∈ p :: kN (pre ++ k :: post) ∨ x ∈ ([] : List Nat) := by
      intro x hx
      left
      rcases List.mem_cons.mp hx with h9 | h9
      · rw [h9]; exact List.mem_cons_self
      · rw [hkN0]; exact List.mem_cons_of_mem _ (List.mem_append_left _ h9)
    obtain ⟨N2, t1, t2, t3⟩ := g7 s3 [] (p :: kN pre) fst3 (pre ++ post) f2 hW (fun x hx => by cases hx) f3 (f4.ups (by omega)) (by
      have := h3
      rw [List.length_append, List.length_cons] at this
      rw [List.length_append]; omega) (fun h9 => by omega) (fun h9 => by
      have := h5.2.2.2.2 h9
      rw [hkL0, List.map_append, List.map_cons] at this
      rw [hkL1, List.map_append]
      obtain ⟨b1, b2, b3⟩ := List.nodup_append.mp this
      exact List.nodup_append.mpr ⟨b1, (List.nodup_cons.mp b2).2, fun x hx y hy => b3 x hx y (List.mem_cons_of_mem _ hy)⟩) (by
      rw [hkN1]
      rw [hkN0] at g6
      have := nd_mid (V := []) g6 List.nodup_nil (fun x hx => by cases hx)
      rw [List.nil_append] at this
      exact this) (fun x hx => by
      left
      rw [hkN1] at hx
      rw [hkN0]
      rcases List.mem_append.mp hx with h8 | h8
      · exact List.mem_append_left _ h8
      · exact List.mem_append_right _ (List.mem_append_right _ h8))
    obtain ⟨ms1, w1, w2, w3⟩ := row_done (P := []) (cI := ci (some z)) (gI := Int32.ofNat k.2.2.length) (hI := Int32.ofNat (1980 + h)) (w := 0) hL2 g4 hr hl hokL hnst (rowF_nil ms 2040) (by decide) (fun x hx => by cases hx) (Or.inl ⟨rfl, rfl⟩) hzi (ofNat_i (by omega)) hhI
    refine ⟨s3, ms1, f1, ?_, p :: kN pre, N2, nx, _, f2, fun x hx => ?_, t1, t2, t3, ?_, ?_, w3⟩
    · have hlt : (1980 : Int32) < ci (some z) := i32lt.mpr (by omega)
      simp only [m_removed, at81, Option.bind_some, hlt, if_true, habv ms hr, hsp ms hr, w1]
    · rcases hW x hx with h9 | h9
      · left; exact hNs x h9
      · right; exact h9
    · rw [hfl0, hfl1]; exact w2
    · rw [hfl1, List.length_append, List.length_append, adjL_len, List.length_cons, List.nil_append, List.length_append]
      omega
  · -- exchanged
    intro V v nxv Lv hV hVn hVd hVr hVl
    have hVo := hV.ok
    have hVk : ∀ x ∈ V, x ∉ p :: kN (pre ++ k :: post) := fun x hx h9 => hVd x hx (hNs x h9)
    obtain ⟨s3, fst3, f1, f2, f3, f4⟩ := swap_ok h1 (h2.ups (show d1 ≤ d1 + 4 by omega)) (hV.ups (d1 + 4) (by omega)) (nd_all g6 hVn hVk) (by omega)
    have hkL1 : kL (pre ++ (V, v, nmd (nmL k.2.2) Lv) :: post) = kL pre ++ nmd (nmL k.2.2) Lv :: kL post := by rw [kL_app, kL_cons]
    have hkN1 : kN (pre ++ (V, v, nmd (nmL k.2.2) Lv) :: post) = kN pre ++ (V ++ kN post) := by rw [kN_app, kN_cons]
    have hfl1 : (kL (pre ++ (V, v, nmd (nmL k.2.2) Lv) :: post)).flatten = (kL pre).flatten ++ (nmd (nmL k.2.2) Lv ++ (kL post).flatten) := by rw [hkL1, List.flatten_append, List.flatten_cons]
    have hW : ∀ x ∈ p :: (kN pre ++ V), x ∈ p :: kN (pre ++ k :: post) ∨ x ∈ V := by
      intro x hx
      rcases List.mem_cons.mp hx with h9 | h9
      · left; rw [h9]; exact List.mem_cons_self
      · rcases List.mem_append.mp h9 with h8 | h8
        · left; rw [hkN0]; exact List.mem_cons_of_mem _ (List.mem_append_left _ h8)
        · right; exact h8
    obtain ⟨N2, t1, t2, t3⟩ := g7 s3 V (p :: (kN pre ++ V)) fst3 (pre ++ (V, v, nmd (nmL k.2.2) Lv) :: post) f2 hW hVd f3 f4 (by
      have := h3
      rw [List.length_append, List.length_cons] at this ⊢
      exact this) (fun h9 => by omega) (fun h9 => by
      have := h5.2.2.2.2 h9
      rw [hkL0, List.map_append, List.map_cons] at this
      rw [hkL1, List.map_append, List.map_cons, nmd_nm _ hVo]
      exact this) (by
      rw [hkN1]
      rw [hkN0] at g6 hVk
      exact nd_mid g6 hVn hVk) (fun x hx => by
      rw [hkN1] at hx
      rw [hkN0]
      rcases List.mem_append.mp hx with h8 | h8
      · left; exact List.mem_append_left _ h8
      · rcases List.mem_append.mp h8 with h7 | h7
        · right; exact h7
        · left; exact List.mem_append_right _ (List.mem_append_right _ h7))
    -- the name in the row
    have hin : vp_in (ci (some z)) 2100 := vp_of (by omega) (by omega)
    have hcn : (ci (some z)).toNatClampNeg = 1980 + (h + 1 + (kL pre).flatten.length) := by rw [tnn]; omega
    have hnm := ((rowF_of c2.ok).mp (rowF_app.mp (hrk ms hr)).1).2
    obtain ⟨st9, p1, p2, p3, p4, p5⟩ := partName_ok hVr hVo (nmL k.2.2) hnm
    have hr9 : rowIs st9 1980 L := hr.kW p3 (by omega)
    obtain ⟨n1, n2⟩ := okL_nmd hVo (nmL k.2.2)
    obtain ⟨ms1, w1, w2, w3⟩ := row_done (cI := ci (some z)) (gI := Int32.ofNat k.2.2.length) (hI := Int32.ofNat (1980 + h)) (w := 1) hL2 g4 hr9 hl hokL hnst p2 (by rw [nmd_len]; exact hVl) (n2 24 hVl) (Or.inr ⟨rfl, n1⟩) hzi (ofNat_i (by omega)) hhI
    refine ⟨s3, ms1, f1, ?_, p :: (kN pre ++ V), N2, nx, _, f2, fun x hx => ?_, t1, t2, t3, ?_, ?_, (p3.dn (by omega)).tr w3⟩
    · have hne : ¬ ci (some z) = 1980 := fun e9 => by rw [e9] at hzi; omega
      simp only [m_replaced, hz0, if_true, at81, Option.bind_some, hne, if_false, rd_in hin, hcn, p1]
      simp only [habv st9 hr9, Option.bind_some]
      have := hsp st9 hr9
      rw [rd_in hin, hcn] at this
      rw [Option.some.inj this, w1]
      rfl
    · rcases hW x hx with h9 | h9
      · left; exact hNs x h9
      · right; exact h9
    · rw [hfl0, hfl1]; exact w2
    · rw [hfl1, List.length_append, List.length_append, adjL_len, List.length_cons, List.length_append, List.length_append, nmd_len]
      omega
end EXC
