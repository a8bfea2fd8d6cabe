/-! An element added to an array. -/
section ADE
variable {Zd : Nat → Nat} {K : KE} {s : CS} {ms : MS} {N V : List Nat} {a v p h tb : Nat} {nx nxv : Option Nat} {L Lv : List Nd} {t : List Int32}
/-- the place that a token names among n elements: class and model -/
theorem plc_lock (hc : kc Zd K) (hwf : wf K s) (ht : Pt K s tb t) (ht9 : t.length ≤ 9) (hm : (ms.2.1 0, ms.2.1 1) = encU t) {x12 : Int32} {n : Nat} (hx : x12.toInt = n) (hn : n ≤ 100) :
    ∃ e19 e26, ((c_String_equals Zd K tb (some (Zd 31)) s).bind fun x16 => (if x16 = (0 : Int32) then ((c_Pointer_index Zd K (some tb) s).bind fun x27 => some x27) else (some x12))) = some e19 ∧ ((m_lengthOf (ms.2.1 0)).bind fun x22 => (if x22 = (1 : Int32) then ((m_charOf (ms.2.1 0) (ms.2.1 1) (0 : Int32)).bind fun x49 => if x49 = (45 : Int32) then (some x12) else ((m_tokenNumber ms).bind fun x53 => some x53)) else ((m_tokenNumber ms).bind fun x46 => some x46))) = some e26 ∧ ((∃ i : Nat, i ≤ n ∧ e19.toInt = i ∧ e26.toInt = i) ∨ ((e19 < 0 ∨ x12 < e19) ∧ (e26 < 0 ∨ x12 < e26))) := by
  have Nn := nums
  obtain ⟨cs0, ht1, ht2, ht3⟩ := ht
  have ht : Pt K s tb t := ⟨cs0, ht1, ht2, ht3⟩
  obtain ⟨hok, -⟩ := ht.ok
  have hml := enc_len hok (show t.length ≤ 10 by omega)
  have hm0 : ms.2.1 0 = (encU t).1 := congrArg Prod.fst hm
  have hm1 : ms.2.1 1 = (encU t).2 := congrArg Prod.snd hm
  have hk31 := hc.str hwf (i := 12) (p := (31, [45])) rfl
  have heq := str_eq (Zd := Zd) ht1 hk31 (by have := ht2.1; omega) (by decide)
  have hni := ofNat_i (n := t.length) (by omega)
  by_cases hd : cs0 = [45]
  · have ht45 : t = [45] := by rw [ht3, hd]; decide
    have hch := enc_chr hok (show t.length ≤ 10 by omega) (i := 0) (j := 0) (by decide) (by rw [ht45]; decide)
    have h45 : t.getD 0 0 = 45 := by rw [ht45]; rfl
    rw [h45] at hch
    have hl1 : Int32.ofNat t.length = 1 := by rw [ht45]; rfl
    refine ⟨x12, x12, ?_, ?_, Or.inl ⟨n, Nat.le_refl _, hx, hx⟩⟩
    · rw [heq, if_pos hd, Option.bind_some, if_neg (show ¬ ((1 : Int32) = 0) from by decide)]
    · rw [hm0, hml, Option.bind_some, if_pos hl1, hm1, hch, Option.bind_some, if_pos rfl]
  · obtain ⟨x, y, x1, x2, x3⟩ := idx_lock (Zd := Zd) ht ht9 hm
    refine ⟨x, y, ?_, ?_, ?_⟩
    · rw [heq, if_neg hd, Option.bind_some, if_pos rfl, x1]; rfl
    · have htn : (m_tokenNumber ms).bind (fun x53 => some x53) = some y := by rw [x2]; rfl
      rw [hm0, hml, Option.bind_some, ← hm0]
      by_cases hl1 : Int32.ofNat t.length = 1
      · have hl : t.length = 1 := by
          have : (Int32.ofNat t.length).toInt = (1 : Int32).toInt := by rw [hl1]
          omega
        have hch := enc_chr hok (show t.length ≤ 10 by omega) (i := 0) (j := 0) (by decide) (by omega)
        have h45 : ¬ t.getD 0 0 = 45 := by
          intro e9
          apply hd
          have hcl : cs0.length = 1 := by rw [ht3, List.length_map] at hl; exact hl
          obtain ⟨c, rfl⟩ := List.length_eq_one_iff.mp hcl
          have hu : u8 c = 45 := by rw [ht3] at e9; exact e9
          have hb := ht2.2 c (by simp)
          have := i2b_u8 hb.1 hb.2
          rw [hu] at this
          rw [← this]; rfl
        rw [if_pos hl1, hm0, hm1, hch, Option.bind_some, if_neg h45]
        exact htn
      · rw [if_neg hl1]; exact htn
    · cases hn9 : tnum t with
      | none =>
        rw [hn9] at x3
        exact Or.inr ⟨Or.inl (by rw [x3.1]; decide), Or.inl (by rw [x3.2]; decide)⟩
      | some k =>
        rw [hn9] at x3
        by_cases hkn : k ≤ n
        · exact Or.inl ⟨k, hkn, x3.1, by rw [x3.2]; omega⟩
        · exact Or.inr ⟨Or.inr (i32lt.mpr (by omega)), Or.inr (i32lt.mpr (by omega))⟩
theorem addE_lock (hc : kc Zd K) (hwf : wf K s) (hT : Tw Zd K s 5 N a nx L) (hnd : N.Nodup) (hl : L.length ≤ 24) (hr : rowIs ms 1980 L) (hp : N[h]? = some p) (hV : Tw Zd K s 5 V v nxv Lv) (hVn : V.Nodup) (hVd : ∀ x ∈ V, x ∉ N) (hVr : rowIs ms 2040 Lv) (hVl : Lv.length ≤ 24) (hVm : nmL Lv = []) (ht : Pt K s tb t) (ht9 : t.length ≤ 9) (hm : (ms.2.1 0, ms.2.1 1) = encU t) (hkd : gQ K s p 11 0 = some (some (Zd 13))) {hI : Int32} (hhI : hI.toInt = (1980 + h : Nat)) :
    ∃ x19 e26, m_count hI ms = some x19 ∧ ((m_lengthOf (ms.2.1 0)).bind fun x22 => (if x22 = (1 : Int32) then ((m_charOf (ms.2.1 0) (ms.2.1 1) (0 : Int32)).bind fun x49 => if x49 = (45 : Int32) then (some x19) else ((m_tokenNumber ms).bind fun x53 => some x53)) else ((m_tokenNumber ms).bind fun x46 => some x46))) = some e26 ∧
    ((c_Patcher_addElement Zd K (some p) (some tb) (some v) s = some (0, s) ∧ m_within e26 0 x19 = some 0) ∨
     ∃ s1 ms1 st33 e36, c_Patcher_addElement Zd K (some p) (some tb) (some v) s = some (1, s1) ∧ m_within e26 0 x19 = some 1 ∧ m_partName 0 0 ms = some st33 ∧ (if e26 = x19 then ((rd (st33.2.2.1 2) 2100 hI).bind fun x44 => (some (hI + x44)).bind fun y45 => some y45) else ((m_element hI e26 st33).bind fun x41 => some x41)) = some e36 ∧ m_splice e36 0 hI 1 st33 = some ms1 ∧ DC9 Zd K s ms N V a s1 ms1) := by
  have Nn := nums
  obtain ⟨d1, M, M1, A, B, o, num, cs, ns, fst, nx1, ks, h1, h2, h3, h4, h5, ⟨g1, g2⟩, ⟨g3, g4⟩, g5, g6, g7⟩ := reb hc.2.2 hT hnd hp
  have ho5 : o = 5 := by
    obtain ⟨kz, y1, y2⟩ := h1.q0
    rw [hkd] at y1
    cases y1
    exact (kd_14 hc y2 (i := 5) (by decide)).mp rfl
  subst ho5
  have hd1 : 0 < d1 := h4 (by decide)
  have hoks := h2.oks
  have hlk : (kL ks).length = ks.length := by unfold kL; rw [List.length_map]
  have hkl := kl_le (kL ks) (fun X hX => by obtain ⟨⟨x, xs, e, -⟩, -⟩ := hoks X hX; rw [e]; exact Nat.succ_pos _)
  have hLl : L.length = A.length + (1 + (kL ks).flatten.length) + B.length := by rw [g3, List.length_append, List.length_append, List.length_cons]; omega
  have hVo := hV.ok
  have hVk : ∀ x ∈ V, x ∉ p :: kN ks := fun x hx h9 => hVd x hx (by rw [g1]; exact List.mem_append_left _ (List.mem_append_right _ h9))
  have hokL := hT.ok
  have hnst := Tw_nst hc.2.2 _ _ _ _ _ hT
  have hNs : ∀ x ∈ p :: kN ks, x ∈ N := fun x hx => by rw [g1]; exact List.mem_append_left _ (List.mem_append_right _ hx)
  have hrF : ∀ m9 : MS, rowIs m9 1980 L → rowF m9 (1980 + h + 1) (kL ks).flatten ∧ rd (m9.2.2.1 2) 2100 hI = some (Int32.ofNat (1 + (kL ks).flatten.length)) := by
    intro m9 hr9
    have hroot := hr9 h ((5 : Int32), 1 + (kL ks).flatten.length, num, cs, ns) (by
      rw [g3, List.append_assoc, List.getElem?_append_right (by omega), show h - A.length = 0 by omega]
      rfl)
    refine ⟨?_, by rw [rd_in (vp_of (by omega) (by omega)), show hI.toNatClampNeg = 1980 + h by rw [tnn]; omega, hroot.2.1]⟩
    have h9 : rowIs m9 1980 ((A ++ [((5 : Int32), 1 + (kL ks).flatten.length, num, cs, ns)]) ++ (kL ks).flatten ++ B) := by
      rw [g3] at hr9
      simpa using hr9
    have := rowIs_F h9 (by simp)
    rw [List.length_append, g4] at this
    exact this
  have hspi : (Int32.ofNat (1 + (kL ks).flatten.length)).toInt = 1 + (kL ks).flatten.length := by rw [ofNat_i (by omega)]; omega
  have hEi : (hI + Int32.ofNat (1 + (kL ks).flatten.length)).toInt = (1980 + h + 1 + (kL ks).flatten.length : Nat) := by rw [i32add (by omega) (by omega)]; omega
  have hv1 : (hI + 1).toInt = (1980 + h + 1 : Nat) := by rw [i32add (by omega) (by omega)]; omega
  obtain ⟨hrF0, hsp0⟩ := hrF ms hr
  -- how many
  obtain ⟨x19, v9, c1, c2⟩ := cntF hsp0 hEi (by omega) (kL ks) (1980 + h + 1) 4096 0 (hI + 1) hrF0 hoks rfl hv1 (by rw [hlk]; omega) (by decide) (by rw [Nn.1, hlk]; omega)
  rw [Nn.1, hlk, Int.zero_add] at c2
  have hcnt : m_count hI ms = some x19 := by simp only [m_count, Option.bind_some, c1]
  obtain ⟨x12, d2, d3⟩ := count_l (rdC_T d1) ks 4096 0 fst h2 (by omega) (by decide) (by rw [Nn.1]; omega)
  rw [Nn.1, Int.zero_add] at d3
  have hx12 : x12 = x19 := i32eq (by rw [c2, d3])
  subst hx12
  have hpc : c_Value_partCount Zd K p s = some x12 := by simp only [c_Value_partCount, h1.q4, Option.bind_some, d2]
  obtain ⟨e19, e26, y1, y2, y3⟩ := plc_lock (ms := ms) hc hwf ht ht9 hm d3 (by omega)
  refine ⟨x12, e26, hcnt, y2, ?_⟩
  have hcl : ∀ r, (if e19 < (0 : Int32) then (some ((0 : Int32), s)) else (if e19 ≤ x12 then ((isO K s p 11).bind fun _ => (c_Value_insert Zd K p e19 (some v) s).bind fun st24 => some ((1 : Int32), st24)) else (some ((0 : Int32), s)))) = r → c_Patcher_addElement Zd K (some p) (some tb) (some v) s = r := by
    intro r hr9
    rw [← hr9]
    obtain ⟨x16, z1, z2⟩ := ob y1
    simp only [c_Patcher_addElement, Option.bind_some, h1.is, hpc, ht.is, z1, z2]
  rcases y3 with ⟨i, hi, e1, e2⟩ | ⟨e1, e2⟩
  · right
    have z1 : ¬ e19 < 0 := fun e9 => by have := i32lt.mp e9; omega
    have z2 : e19 ≤ x12 := i32le.mpr (by omega)
    have hks : ks.take i ++ ks.drop i = ks := List.take_append_drop i ks
    have hpl : (ks.take i).length = i := by rw [List.length_take]; omega
    generalize hpre : ks.take i = pre at *
    generalize hpost : ks.drop i = post at *
    subst hks
    have hkL0 : kL (pre ++ post) = kL pre ++ kL post := kL_app _ _
    have hkN0 : kN (pre ++ post) = kN pre ++ kN post := kN_app _ _
    have hfl0 : (kL (pre ++ post)).flatten = (kL pre).flatten ++ (kL post).flatten := by rw [hkL0, List.flatten_append]
    have hfll : (kL (pre ++ post)).flatten.length = (kL pre).flatten.length + (kL post).flatten.length := by rw [hfl0, List.length_append]
    obtain ⟨s3, fst3, f1, f2, f3, f4⟩ := insert_ok (at9 := e19) h1 (h2.ups (show d1 ≤ d1 + 4 by omega)) (hV.ups (d1 + 4) (by omega)) (by rw [← hkN0]; exact nd_all g6 hVn hVk) (by omega) (by omega)
    rw [← hkN0] at f2
    have hkL1 : kL (pre ++ (V, v, Lv) :: post) = kL pre ++ Lv :: kL post := by rw [kL_app, kL_cons]
    have hkN1 : kN (pre ++ (V, v, Lv) :: post) = kN pre ++ (V ++ kN post) := by rw [kN_app, kN_cons]
    have hfl1 : (kL (pre ++ (V, v, Lv) :: post)).flatten = (kL pre).flatten ++ (Lv ++ (kL post).flatten) := by rw [hkL1, List.flatten_append, List.flatten_cons]
    have hW : ∀ x ∈ p :: (kN (pre ++ post) ++ V), x ∈ p :: kN (pre ++ post) ∨ x ∈ V := by
      intro x hx
      rcases List.mem_cons.mp hx with h9 | h9
      · left; rw [h9]; exact List.mem_cons_self
      · rcases List.mem_append.mp h9 with h8 | h8
        · left; exact List.mem_cons_of_mem _ h8
        · right; exact h8
    have hplen : pre.length + post.length ≤ 24 := by rw [List.length_append] at hlk; omega
    obtain ⟨N2, t1, t2, t3⟩ := g7 s3 V (p :: (kN (pre ++ post) ++ V)) fst3 (pre ++ (V, v, Lv) :: post) f2 hW hVd f3 f4 (by rw [List.length_append, List.length_cons]; omega) (fun h9 => absurd h9 (by decide)) (fun h9 => absurd h9 (by decide)) (by
      rw [hkN1]
      have g6b : (p :: (kN pre ++ ([] ++ kN post))).Nodup := by rw [List.nil_append, ← hkN0]; exact g6
      exact nd_mid g6b hVn (by rw [List.nil_append, ← hkN0]; exact hVk)) (fun x hx => by
      rw [hkN1] at hx
      rw [hkN0]
      rcases List.mem_append.mp hx with h8 | h8
      · left; exact List.mem_append_left _ h8
      · rcases List.mem_append.mp h8 with h7 | h7
        · right; exact h7
        · left; exact List.mem_append_right _ h7)
    obtain ⟨st33, p1, p2, p3, p4, p5⟩ := partName_ok hVr hVo [] (x := 0) (y := 0) rfl
    have hnL : nmd [] Lv = Lv := by
      have := nmd_self hVo
      obtain ⟨⟨x, xs, e, -⟩, -⟩ := hVo
      subst e
      show (x.1, x.2.1, x.2.2.1, x.2.2.2.1, ([] : List Int32)) :: xs = x :: xs
      rw [show ([] : List Int32) = x.2.2.2.2 from hVm.symm]
    rw [hnL] at p2
    have hr33 : rowIs st33 1980 L := hr.kW p3 (by omega)
    obtain ⟨hrF3, hsp3⟩ := hrF st33 hr33
    obtain ⟨n1, n2⟩ := okL_nmd hVo []
    rw [hnL] at n1 n2
    have hL2 : L = A ++ (((5 : Int32), 1 + ((kL pre).flatten ++ (([] : List Nd) ++ (kL post).flatten)).length, num, cs, ns) :: ((kL pre).flatten ++ (([] : List Nd) ++ (kL post).flatten))) ++ B := by rw [List.nil_append, ← hfl0]; exact g3
    -- where it goes
    obtain ⟨e36, w5, w6⟩ : ∃ e36 : Int32, (if e26 = x12 then ((rd (st33.2.2.1 2) 2100 hI).bind fun x44 => (some (hI + x44)).bind fun y45 => some y45) else ((m_element hI e26 st33).bind fun x41 => some x41)) = some e36 ∧ e36.toInt = (1980 + (h + 1 + (kL pre).flatten.length) : Nat) := by
      by_cases hlast : e26 = x12
      · have hpn : post = [] := by
          rw [hlast, d3] at e2
          rw [List.length_append] at e2
          exact List.length_eq_zero_iff.mp (by omega)
        subst hpn
        refine ⟨_, by rw [if_pos hlast, hsp3]; rfl, ?_⟩
        have : (kL ([] : List Kd)).flatten.length = 0 := rfl
        rw [hEi, hfll]; omega
      · have hine : ¬ i = (pre ++ post).length := fun e9 => hlast (i32eq (by rw [e2, d3, e9]))
        obtain ⟨k, ps, hps⟩ : ∃ k ps, post = k :: ps := by
          cases post with
          | nil => rw [List.append_nil] at hine; omega
          | cons k ps => exact ⟨k, ps, rfl⟩
        subst hps
        obtain ⟨i1, v1, hel⟩ := elmF hsp3 hEi (by omega) (kL (pre ++ k :: ps)) (1980 + h + 1) 4096 e26 (-1) (hI + 1) hrF3 hoks rfl hv1 (by rw [hlk]; omega) (by rw [hlk]; omega) (by omega)
        refine ⟨Int32.ofNat (1980 + h + 1 + (kL pre).flatten.length), ?_, by rw [ofNat_i (by omega)]; omega⟩
        rw [if_neg hlast]
        simp only [m_element, Option.bind_some, hel]
        congr 1
        have hst : (stt (1980 + h + 1) (kL (pre ++ k :: ps)))[i]? = some (1980 + h + 1 + (kL pre).flatten.length) := by
          have hlt : i < (stt (1980 + h + 1) (kL (pre ++ k :: ps))).length := by rw [stt_len, hlk, List.length_append, List.length_cons]; omega
          obtain ⟨pre2, k2, post2, q1, q2, q3⟩ := stt_some (pre ++ k :: ps) (1980 + h + 1) i (List.getElem?_eq_getElem hlt)
          have : pre2 = pre := (List.append_inj q1 (by omega)).1.symm
          rw [List.getElem?_eq_getElem hlt, q2, this]
        unfold elS
        rw [if_pos (by omega), show e26.toInt.toNat = i by omega, hst]
    obtain ⟨ms1, w1, w2, w3⟩ := row_done (cI := e36) (gI := 0) (hI := hI) (w := 1) hL2 g4 hr33 hl hokL hnst p2 hVl (n2 24 hVl) (Or.inr ⟨rfl, n1⟩) w6 rfl hhI
    refine ⟨s3, ms1, st33, e36, ?_, ?_, p1, w5, w1, ?_⟩
    · apply hcl
      rw [if_neg z1, if_pos z2, h1.is, Option.bind_some, f1]
      rfl
    · exact m_within_1 (fun e9 => by have := i32lt.mp e9; omega) (fun e9 => by have := i32lt.mp e9; omega)
    · refine ⟨p :: (kN (pre ++ post) ++ V), N2, nx, _, f2, fun x hx => ?_, t1, t2, t3, ?_, ?_, (p3.dn (by omega)).tr w3⟩
      · rcases hW x hx with h9 | h9
        · left; exact hNs x h9
        · right; exact h9
      · rw [hfl1]
        rw [List.nil_append, ← hfl0] at w2
        exact w2
      · rw [hfl1, List.length_append, List.length_append, adjL_len, List.length_cons, List.length_append, List.length_append]
        omega
  · left
    refine ⟨?_, ?_⟩
    · apply hcl
      rcases e1 with e9 | e9
      · rw [if_pos e9]
      · by_cases c9 : e19 < 0
        · rw [if_pos c9]
        · rw [if_neg c9, if_neg (fun e8 => by have := i32le.mp e8; have := i32lt.mp e9; omega)]
    · exact m_within_0 e2
end ADE
