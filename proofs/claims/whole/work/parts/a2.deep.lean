/-! Finding: a segment at a value's parts and at theirs; class and model. -/
section DEEP
variable {Zd : Nat → Nat} {K : KE} {q : Nat → Nat} {cw : Nat} {A : Nat → Nat → Int32} {R : Nat → Option Nat} {gJ bI eI kI x66 e57 : Int32} {b e X : Nat}
theorem nlt_of {v : Int32} {c : Nat} (hX : (x66 + e57).toInt = X) (hv : v.toInt = c) (h : c < X) : ¬ x66 + e57 ≤ v := fun e9 => by
  have h1 := i32le.mp e9
  rw [hX, hv] at h1
  omega
theorem inc_of {v : Int32} {c : Nat} (hv : v.toInt = c) (h : c < 100000) : (v + 1).toInt = (c + 1 : Nat) := by
  have h1 : (1 : Int32).toInt = 1 := by decide
  rw [i32add (by rw [hv, h1]; omega) (by rw [hv, h1]; omega), hv, h1]
  omega
theorem vC.pos {st : CS} {ms : MS} {d p c : Nat} {L : List Nd} (h : vC Zd K st ms d p c L) : ∃ d1, d = d1 + 1 := by
  cases d with
  | zero => cases h.1
  | succ d => exact ⟨d, rfl⟩
/-- too many already: the model goes on, and takes nothing -/
theorem mny (hk : kc Zd K) {st : CS} {I : Nat → Int32} {Q : Nat → Nat → Option Nat} {ms : MS} (h : Cx K st q cw I A R Q) (hf : FR Zd K st I Q ms) (hD : DB K st I R ms gJ bI eI kI x66 b e) (hm : ms.1 9 = 1) (hX : (x66 + e57).toInt = X) (hX2 : X ≤ 2100) : ∀ (d p c : Nat) (L : List Nd) (v : Int32) (f : Nat), d ≤ 5 → vC Zd K st ms d p c L → v.toInt = c → c + L.length ≤ X → ∃ v1 : Int32, v1.toInt = (c + L.length : Nat) ∧ m_ask_l5 gJ kI e57 (f + L.length) (v, ms) = m_ask_l5 gJ kI e57 f (v1, ms) := by
  intro d
  induction d with
  | zero => intro p c L v f _ hv; cases hv.1
  | succ d ih =>
    intro p c L v f hd hv hc hcX
    have hparts : ∀ (ks : List Kd) (c : Nat) (v : Int32) (f : Nat), (∀ z ∈ pc c ks, vC Zd K st ms d z.1.2.1 z.2 z.1.2.2) → v.toInt = c → c + (kL ks).flatten.length ≤ X → ∃ v1 : Int32, v1.toInt = (c + (kL ks).flatten.length : Nat) ∧ m_ask_l5 gJ kI e57 (f + (kL ks).flatten.length) (v, ms) = m_ask_l5 gJ kI e57 f (v1, ms) := by
      intro ks
      induction ks with
      | nil => intro c v f _ hc _; exact ⟨v, hc, rfl⟩
      | cons k ks ihk =>
        intro c v f h1 hc h2
        rw [kL_cons, List.flatten_cons, List.length_append] at h2 ⊢
        obtain ⟨v1, a1, a2⟩ := ih k.2.1 c k.2.2 v (f + (kL ks).flatten.length) (by omega) (h1 (k, c) List.mem_cons_self) hc (by omega)
        obtain ⟨v2, b1, b2⟩ := ihk (c + k.2.2.length) v1 f (fun z hz => h1 z (List.mem_cons_of_mem _ hz)) a1 (by omega)
        refine ⟨v2, by rw [b1, Nat.add_assoc], ?_⟩
        rw [show f + (k.2.2.length + (kL ks).flatten.length) = f + (kL ks).flatten.length + k.2.2.length by omega, a2, b2]
    obtain ⟨o, num, cs, ns, fst, ks, -, -, -, -, hL, -, -, -, g4⟩ := vC.node hk.2.2 hv
    have hLl : L.length = (kL ks).flatten.length + 1 := by rw [hL, List.length_cons]
    obtain ⟨t1, I1, Q1, m1, -, a2, a3⟩ := nd_lock (Zd := Zd) hk h hf hD hd hv hc (nlt_of hX hc (by omega))
    have e1 := a3.2.2.2.2.2.2.2.2.2.2 hm
    rw [e1] at a2
    obtain ⟨v1, b1, b2⟩ := hparts ks (c + 1) (v + 1) f (fun z hz => (g4 z hz).1) (inc_of hc (by omega)) (by omega)
    refine ⟨v1, by rw [b1, hLl]; congr 1; omega, ?_⟩
    rw [hLl, ← Nat.add_assoc, a2, b2]
theorem mny_p (hk : kc Zd K) {st : CS} {I : Nat → Int32} {Q : Nat → Nat → Option Nat} {ms : MS} (h : Cx K st q cw I A R Q) (hf : FR Zd K st I Q ms) (hD : DB K st I R ms gJ bI eI kI x66 b e) (hm : ms.1 9 = 1) (hX : (x66 + e57).toInt = X) (hX2 : X ≤ 2100) {d : Nat} (hd : d ≤ 5) : ∀ (ks : List Kd) (c : Nat) (v : Int32) (f : Nat), (∀ z ∈ pc c ks, vC Zd K st ms d z.1.2.1 z.2 z.1.2.2) → v.toInt = c → c + (kL ks).flatten.length ≤ X → ∃ v1 : Int32, v1.toInt = (c + (kL ks).flatten.length : Nat) ∧ m_ask_l5 gJ kI e57 (f + (kL ks).flatten.length) (v, ms) = m_ask_l5 gJ kI e57 f (v1, ms) := by
  intro ks
  induction ks with
  | nil => intro c v f _ hc _; exact ⟨v, hc, rfl⟩
  | cons k ks ihk =>
    intro c v f h1 hc h2
    rw [kL_cons, List.flatten_cons, List.length_append] at h2 ⊢
    obtain ⟨v1, a1, a2⟩ := mny hk h hf hD hm hX hX2 d k.2.1 c k.2.2 v (f + (kL ks).flatten.length) hd (h1 (k, c) List.mem_cons_self) hc (by omega)
    obtain ⟨v2, b1, b2⟩ := ihk (c + k.2.2.length) v1 f (fun z hz => h1 z (List.mem_cons_of_mem _ hz)) a1 (by omega)
    refine ⟨v2, by rw [b1, Nat.add_assoc], ?_⟩
    rw [show f + (k.2.2.length + (kL ks).flatten.length) = f + (kL ks).flatten.length + k.2.2.length by omega, a2, b2]
theorem dp_l (hk : kc Zd K) (hX : (x66 + e57).toInt = X) (hX2 : X ≤ 2100) : ∀ (d fuel p c : Nat) (L : List Nd) (a4 v : Int32) (f : Nat) (st : CS) (I : Nat → Int32) (Q : Nat → Nat → Option Nat) (ms : MS), d ≤ 5 → d ≤ fuel → 0 ≤ a4.toInt → a4.toInt + d ≤ 5 → Cx K st q cw I A R Q → FR Zd K st I Q ms → DB K st I R ms gJ bI eI kI x66 b e → vC Zd K st ms d p c L → v.toInt = (c + 1 : Nat) → c + L.length ≤ X → ∃ (st1 : CS) (I1 : Nat → Int32) (Q1 : Nat → Nat → Option Nat) (ms1 : MS) (v1 : Int32), c_Finder_visitParts Zd K fuel (q 5) (some (q 4)) bI eI (some p) a4 st = some st1 ∧ v1.toInt = (c + L.length : Nat) ∧ m_ask_l5 gJ kI e57 (f + (L.length - 1)) (v, ms) = m_ask_l5 gJ kI e57 f (v1, ms1) ∧ FK Zd K st q cw I A R Q ms st1 I1 Q1 ms1 := by
  have N := nums
  intro d
  induction d with
  | zero => intro fuel p c L a4 v f st I Q ms _ _ _ _ _ _ _ hv; cases hv.1
  | succ d ih =>
    intro fuel p c L a4 v f st I Q ms hd hfu a0 a5 hC hF hD hv hc hcX
    obtain ⟨fuel, rfl⟩ : ∃ k, fuel = k + 1 := ⟨fuel - 1, by omega⟩
    obtain ⟨o, num, cs, ns, fst, ks, ⟨kd, fs, u1, u2, u3, u4⟩, hcs, hlen, -, hL, -, -, -, g4⟩ := vC.node hk.2.2 hv
    have hLl : L.length = (kL ks).flatten.length + 1 := by rw [hL, List.length_cons]
    have hL1 : L.length - 1 = (kL ks).flatten.length := by omega
    rw [hL1]
    show ∃ (st1 : CS) (I1 : Nat → Int32) (Q1 : Nat → Nat → Option Nat) (ms1 : MS) (v1 : Int32), c_Finder_visitParts_b Zd K (c_Finder_visitParts Zd K fuel) (q 5) (some (q 4)) bI eI (some p) a4 st = some st1 ∧ _
    by_cases h4 : a4 < 4
    · have h4n : a4.toInt < 4 := by have := i32lt.mp h4; rw [N.2.2.2.2.1] at this; exact this
      have ka : (a4 + 1).toInt = a4.toInt + 1 := by rw [i32add (by rw [N.2.1]; omega) (by rw [N.2.1]; omega), N.2.1]
      -- the parts, one after the other
      have hparts : ∀ (ks : List Kd) (c f1 : Nat) (r : Option Nat) (v : Int32) (f : Nat) (st : CS) (I : Nat → Int32) (Q : Nat → Nat → Option Nat) (ms : MS), Cx K st q cw I A R Q → FR Zd K st I Q ms → DB K st I R ms gJ bI eI kI x66 b e → Cs (fT Zd K st d) r ks none → (∀ z ∈ pc c ks, vC Zd K st ms d z.1.2.1 z.2 z.1.2.2) → v.toInt = c → c + (kL ks).flatten.length ≤ X → ks.length < f1 → ∃ (st1 : CS) (I1 : Nat → Int32) (Q1 : Nat → Nat → Option Nat) (ms1 : MS) (v1 : Int32) (r1 : Option Nat), c_Finder_visitParts_l1 Zd K (c_Finder_visitParts Zd K fuel) (q 5) (some (q 4)) bI eI a4 f1 (r, st) = some (r1, st1) ∧ v1.toInt = (c + (kL ks).flatten.length : Nat) ∧ m_ask_l5 gJ kI e57 (f + (kL ks).flatten.length) (v, ms) = m_ask_l5 gJ kI e57 f (v1, ms1) ∧ FK Zd K st q cw I A R Q ms st1 I1 Q1 ms1 := by
        intro ks
        induction ks with
        | nil =>
          intro c f1 r v f st I Q ms hC hF hD hcs h1 hc h2 hf1
          obtain ⟨f1, rfl⟩ : ∃ k, f1 = k + 1 := ⟨f1 - 1, by have : 0 < f1 := hf1; omega⟩
          have hcs : r = none := hcs
          subst hcs
          refine ⟨st, I, Q, ms, v, none, ?_, hc, rfl, FK.rf hC hF⟩
          rw [c_Finder_visitParts_l1_s]
          rfl
        | cons k ks ihk =>
          intro c f1 r v f st I Q ms hC hF hD hcs h1 hc h2 hf1
          obtain ⟨f1, rfl⟩ : ∃ k, f1 = k + 1 := ⟨f1 - 1, by have : ks.length + 1 < f1 := hf1; omega⟩
          have hf1 : ks.length < f1 := Nat.lt_of_succ_lt_succ hf1
          have h1k := h1 (k, c) List.mem_cons_self
          have h1k : vC Zd K st ms d k.2.1 c k.2.2 := h1k
          obtain ⟨hr, nx, g2, g3⟩ := hcs
          subst hr
          rcases hF.2.2.2.2.1 with h80 | ⟨h81, -⟩
          · obtain ⟨d1, rfl⟩ := h1k.pos
            have hpos := (h1k.span hk.2.2 hc).2
            rw [kL_cons, List.flatten_cons, List.length_append] at h2 ⊢
            obtain ⟨t1, I1, Q1, m1, a1, a2, a3⟩ := nd_lock (Zd := Zd) hk hC hF hD (by omega) h1k hc (nlt_of hX hc (by omega))
            have hle1 := a3.2.1
            obtain ⟨t2, I2, Q2, m2, v2, b1, b2, b3, b4⟩ := ih fuel k.2.1 c k.2.2 (a4 + 1) (v + 1) (f + (kL ks).flatten.length) t1 I1 Q1 m1 (by omega) (by omega) (by omega) (by omega) a3.1 a3.2.2.2.1 (hD.fk a3) (h1k.sr hle1 a3.sr) (inc_of hc (by omega)) (by omega)
            have a34 := a3.tr b4
            obtain ⟨t3, I3, Q3, m3, v3, r3, c1, c2, c3, c4⟩ := ihk (c + k.2.2.length) f1 nx v2 f t2 I2 Q2 m2 b4.1 b4.2.2.2.1 (hD.fk a34) (g3.fle hk.2.2 a34.2.1) (fun z hz => (h1 z (List.mem_cons_of_mem _ hz)).sr a34.2.1 a34.sr) b2 (by omega) hf1
            have hnx : gQ K t2 k.2.1 11 5 = some nx := (fT.le hk.2.2 a34.2.1 g2).2
            have g87 : gI K st (q 5) 8 7 = some 0 := by rw [fg_5_7 hC.1, h80]
            refine ⟨t3, I3, Q3, m3, v3, r3, ?_, by rw [c2, Nat.add_assoc], ?_, a34.tr c4⟩
            · rw [c_Finder_visitParts_l1_s]
              simp only [nl, g87, Option.bind_some, if_true, fo_5 hC.1, a1, fo_5 a3.1.1, b1, hnx]
              exact c1
            · rw [show f + (k.2.2.length + (kL ks).flatten.length) = f + (kL ks).flatten.length + (k.2.2.length - 1) + 1 by omega, a2, b3, c3]
          · have hm1 : ms.1 9 = 1 := by rw [← hF.2.2.2.1]; exact h81
            obtain ⟨v1, b1, b2⟩ := mny_p hk hC hF hD hm1 hX hX2 (d := d) (by omega) (k :: ks) c v f h1 hc h2
            have g87 : gI K st (q 5) 8 7 = some 1 := by rw [fg_5_7 hC.1, h81]
            refine ⟨st, I, Q, ms, v1, some k.2.1, ?_, b1, b2, FK.rf hC hF⟩
            rw [c_Finder_visitParts_l1_s]
            simp only [nl, g87, Option.bind_some, show ¬ ((1 : Int32) = 0) from by decide, if_false]
      obtain ⟨t1, I1, Q1, m1, v1, r1, c1, c2, c3, c4⟩ := hparts ks (c + 1) 4096 fst v f st I Q ms hC hF hD hcs (fun z hz => (g4 z hz).1) hc (by omega) (by omega)
      refine ⟨t1, I1, Q1, m1, v1, ?_, by rw [c2, hLl]; congr 1; omega, c3, c4⟩
      simp only [c_Finder_visitParts_b, h4, if_true, Option.bind_some, u3, c1]
    · have h4n : ¬ a4.toInt < 4 := fun e9 => h4 (i32lt.mpr (by rw [N.2.2.2.2.1]; exact e9))
      have hd0 : d = 0 := by omega
      subst hd0
      have hks : ks = [] := by
        cases ks with
        | nil => rfl
        | cons k ks =>
          have := (g4 (k, c + 1) List.mem_cons_self).1.1
          cases this
      subst hks
      have hLl : L.length = 1 := hLl
      refine ⟨st, I, Q, ms, v, ?_, by rw [hc, hLl], rfl, FK.rf hC hF⟩
      simp only [c_Finder_visitParts_b, h4, if_false]
end DEEP
