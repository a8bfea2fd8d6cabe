/-! Whether a list is one of operations: class and model. -/
theorem opS.uniq {L : List Nd} {t cs ds : List Int32} (h : opS L t cs) (h1 : opS L t ds) : cs = ds := by
  obtain ⟨z, x, y, -, -, a1, a2, -, a3⟩ := h
  obtain ⟨z2, x2, y2, -, -, b1, b2, -, b3⟩ := h1
  rw [a1] at b1
  cases b1
  rw [a2] at b2
  cases b2
  exact a3.symm.trans b3
section FORM2
variable {Zd : Nat → Nat} {K : KE} {s : CS} {ms : MS} {d op c : Nat} {L : List Nd}
theorem form_lock (hc : kc Zd K) (hwf : wf K s) (hL : treeOf Zd K s (d + 1) op = some L) (hr : rowIs ms c L) (hl : L.length ≤ 24) (hc2 : c + 24 ≤ 2100) {v : Int32} (hv : v.toInt = c) : ∃ x, c_Patcher_isOperation Zd K (some op) s = some x ∧ m_formed v ms = some x ∧ (x = 0 ∨ (x = 1 ∧ OPD L)) := by
  have h10 : ¬ ((1 : Int32) = 0) := by decide
  obtain ⟨E1, E2, E3, E4, E5, E6, E7, E8⟩ := encs
  obtain ⟨kd, o, y, n1, n2, n3, n4, n5, n6⟩ := hd_lock hc hL hr hl hc2 hv
  by_cases o6 : o = 6
  · have hy6 : y.1 = 6 := n6.trans o6
    rcases txt_lock hc hwf hL hr hl hc2 hv n5 hy6 (i := 4) (pr := (23, [111, 112])) rfl E1 with ⟨a1, x9, a2, a3, -⟩ | ⟨sb, os, x9, a1, a2, a3, a4, a5, a6, a7, a8, a9⟩
    · refine ⟨0, ?_, ?_, Or.inl rfl⟩
      · simp only [c_Patcher_isOperation, a1, Option.bind_some, if_true]
      · simp only [m_formed, n4, o6, Option.bind_some, if_true, a2, a3]
    · rcases txt_lock hc hwf hL hr hl hc2 hv n5 hy6 (i := 5) (pr := (24, [112, 97, 116, 104])) rfl E2 with ⟨b1, y9, b2, b3, -⟩ | ⟨pb, ps, y9, b1, b2, b3, b4, b5, b6, b7, b8, b9⟩
      · refine ⟨0, ?_, ?_, Or.inl rfl⟩
        · simp only [c_Patcher_isOperation, a1, Option.bind_some, h10, if_false, b1, if_true]
        · simp only [m_formed, n4, o6, Option.bind_some, if_true, a5, a6, h10, if_false, b2, b3]
      · have isO12 := str_isO a3
        obtain ⟨qa, ma⟩ := is_lock hc hwf a3 a4 (i := 6) (pr := (25, [97, 100, 100])) rfl E5
        obtain ⟨qr, mr⟩ := is_lock hc hwf a3 a4 (i := 7) (pr := (26, [114, 101, 112, 108, 97, 99, 101])) rfl E7
        obtain ⟨qc, mc⟩ := is_lock hc hwf a3 a4 (i := 9) (pr := (28, [99, 111, 112, 121])) rfl E8
        obtain ⟨qm, mm⟩ := is_lock hc hwf a3 a4 (i := 11) (pr := (30, [114, 101, 109, 111, 118, 101])) rfl E6
        have hclass : ∀ r, (if os = [97, 100, 100] ∨ os = [114, 101, 112, 108, 97, 99, 101] then ((c_Value_member Zd K op (some (Zd 27)) s).bind fun x28 => (nl x28 (some (0 : Int32)) (fun a33z => some (1 : Int32))).bind fun e31 => (bz e31).bind fun _ => some e31) else (if os = [99, 111, 112, 121] then ((c_Patcher_hasString Zd K (some op) (some (Zd 29)) s).bind fun x45 => (bz x45).bind fun _ => some x45) else some (if os = [114, 101, 109, 111, 118, 101] then 1 else 0))) = r → c_Patcher_isOperation Zd K (some op) s = r := by
          intro r hr9
          rw [← hr9]
          have hb1 : bz 1 = some () := rfl
          have hb0 : bz 0 = some () := rfl
          by_cases ea : os = [97, 100, 100]
          · simp only [c_Patcher_isOperation, a1, Option.bind_some, h10, if_false, b1, a2, isO12, qa, ea, if_true, n3, true_or]
          · by_cases er : os = [114, 101, 112, 108, 97, 99, 101]
            · simp only [c_Patcher_isOperation, a1, Option.bind_some, h10, if_false, b1, a2, isO12, qa, ea, if_true, n3, qr, er, or_true]
              rfl
            · by_cases ec : os = [99, 111, 112, 121]
              · simp only [c_Patcher_isOperation, a1, Option.bind_some, h10, if_false, b1, a2, isO12, qa, ea, if_true, n3, qr, er, qc, ec, or_self]
                rfl
              · by_cases em : os = [114, 101, 109, 111, 118, 101]
                · simp only [c_Patcher_isOperation, a1, Option.bind_some, h10, if_false, b1, a2, isO12, qa, ea, if_true, n3, qr, er, qc, ec, qm, em, or_self, hb1]
                  rfl
                · simp only [c_Patcher_isOperation, a1, Option.bind_some, h10, if_false, b1, a2, isO12, qa, ea, if_true, n3, qr, er, qc, ec, qm, em, or_self, hb0]
        have hmodel : ∀ r, (if os = [97, 100, 100] ∨ os = [114, 101, 112, 108, 97, 99, 101] then ((m_operand v (360288405951373686 : Int64) ms).bind fun x19 => (if x19 < (0 : Int32) then (some (0 : Int32)) else (some (1 : Int32))).bind fun e23 => (bz e23).bind fun _ => some e23) else (if os = [99, 111, 112, 121] then ((m_operand v (288230377987732070 : Int64) ms).bind fun x33 => (m_isString x33 ms).bind fun x36 => (bz x36).bind fun _ => some x36) else some (if os = [114, 101, 109, 111, 118, 101] then 1 else 0))) = r → m_formed v ms = r := by
          intro r hr9
          rw [← hr9]
          have hb1 : bz 1 = some () := rfl
          have hb0 : bz 0 = some () := rfl
          by_cases ea : os = [97, 100, 100]
          · have ca := ma.mpr ea
            rw [if_pos (Or.inl ea)]
            simp only [m_formed, n4, o6, Option.bind_some, if_true, a5, a6, h10, if_false, b5, b6, a7, ca]
          · have ca : ¬ lg_cmp (enc os).1 216172782120363105 = 0 := fun e => ea (ma.mp e)
            by_cases er : os = [114, 101, 112, 108, 97, 99, 101]
            · have cr := mr.mpr er
              rw [if_pos (Or.inr er)]
              simp only [m_formed, n4, o6, Option.bind_some, if_true, a5, a6, h10, if_false, b5, b6, a7, ca, cr]
            · have cr : ¬ lg_cmp (enc os).1 532941400995554674 = 0 := fun e => er (mr.mp e)
              rw [if_neg (fun e => e.elim ea er)]
              by_cases ec : os = [99, 111, 112, 121]
              · have cc := mc.mpr ec
                rw [if_pos ec]
                simp only [m_formed, n4, o6, Option.bind_some, if_true, a5, a6, h10, if_false, b5, b6, a7, ca, cr, cc, Option.bind_assoc]
              · have cc : ¬ lg_cmp (enc os).1 288230378189123427 = 0 := fun e => ec (mc.mp e)
                rw [if_neg ec]
                by_cases em : os = [114, 101, 109, 111, 118, 101]
                · have cm := mm.mpr em
                  rw [if_pos em]
                  simp only [m_formed, n4, o6, Option.bind_some, if_true, a5, a6, h10, if_false, b5, b6, a7, ca, cr, cc, cm, hb1]
                · have cm : ¬ lg_cmp (enc os).1 432457123577554290 = 0 := fun e => em (mm.mp e)
                  rw [if_neg em]
                  simp only [m_formed, n4, o6, Option.bind_some, if_true, a5, a6, h10, if_false, b5, b6, a7, ca, cr, cc, cm, hb0]
        by_cases ear : os = [97, 100, 100] ∨ os = [114, 101, 112, 108, 97, 99, 101]
        · rcases mem_lock hc hwf hL hr hl hc2 hv n5 hy6 (i := 8) (pr := (27, [118, 97, 108, 117, 101])) rfl E4 with ⟨m1, m2, m3⟩ | ⟨z, a99, L9, A, B, m1, m2, m3, m4, m5, m6, m7⟩
          · refine ⟨0, hclass _ ?_, hmodel _ ?_, Or.inl rfl⟩
            · rw [if_pos ear, m2]; rfl
            · rw [if_pos ear, m3]; rfl
          · have hzl : z < L.length := by
              have hp := tree_ok _ _ _ m4
              obtain ⟨⟨x, xs, e, -⟩, -⟩ := hp
              rw [m5, e, List.length_append, List.length_append, List.length_cons]; omega
            have hx0 : ¬ Int32.ofNat (c + z) < 0 := fun e9 => by have := i32lt.mp e9; have := nums; have := ofNat_i (n := c + z) (by omega); omega
            refine ⟨1, hclass _ ?_, hmodel _ ?_, Or.inr ⟨rfl, os, ps, a9, b9, Or.inl ⟨ear, z, m1⟩⟩⟩
            · rw [if_pos ear, m2]; rfl
            · rw [if_pos ear, m3, Option.bind_some, if_neg hx0]; rfl
        · by_cases ec : os = [99, 111, 112, 121]
          · rcases txt_lock hc hwf hL hr hl hc2 hv n5 hy6 (i := 10) (pr := (29, [102, 114, 111, 109])) rfl E3 with ⟨f1, z9, f2, f3, -⟩ | ⟨fb, fs, z9, f1, f2, f3, f4, f5, f6, f7, f8, f9⟩
            · refine ⟨0, hclass _ ?_, hmodel _ ?_, Or.inl rfl⟩
              · rw [if_neg ear, if_pos ec, f1]; rfl
              · rw [if_neg ear, if_pos ec, f2, Option.bind_some, f3]; rfl
            · refine ⟨1, hclass _ ?_, hmodel _ ?_, Or.inr ⟨rfl, os, ps, a9, b9, Or.inr (Or.inl ⟨ec, fs, f9⟩)⟩⟩
              · rw [if_neg ear, if_pos ec, f1]; rfl
              · rw [if_neg ear, if_pos ec, f5, Option.bind_some, f6]; rfl
          · by_cases em : os = [114, 101, 109, 111, 118, 101]
            · refine ⟨1, hclass _ ?_, hmodel _ ?_, Or.inr ⟨rfl, os, ps, a9, b9, Or.inr (Or.inr em)⟩⟩
              · rw [if_neg ear, if_neg ec, if_pos em]
              · rw [if_neg ear, if_neg ec, if_pos em]
            · refine ⟨0, hclass _ ?_, hmodel _ ?_, Or.inl rfl⟩
              · rw [if_neg ear, if_neg ec, if_neg em]
              · rw [if_neg ear, if_neg ec, if_neg em]
  · have hk6 : ¬ some kd = some (Zd 14) := fun e9 => o6 ((kd_14 hc n2 (i := 6) (by decide)).mp e9)
    have hmem : c_Value_member Zd K op (some (Zd 23)) s = some none := by simp only [c_Value_member, n1, Option.bind_some, hk6, if_false]
    have hhs : c_Patcher_hasString Zd K (some op) (some (Zd 23)) s = some 0 := by
      simp only [c_Patcher_hasString, Option.bind_some, n3, hmem, nl, bz]
      rfl
    have hms : m_isString (-1) ms = some 0 := by
      simp only [m_isString, show ((-1) : Int32) < 0 from by decide, if_true, Option.bind_some, bz]
      rfl
    refine ⟨0, ?_, ?_, Or.inl rfl⟩
    · simp only [c_Patcher_isOperation, hhs, Option.bind_some, if_true]
    · simp only [m_formed, n4, o6, Option.bind_some, if_false, hms, if_true]
end FORM2
