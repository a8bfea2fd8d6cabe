/-! Finding: what a selector takes of a value; class and model. -/
section SELS
variable {Zd : Nat → Nat} {K : KE} {st st1 : CS} {ms ms1 : MS} {q : Nat → Nat} {cw : Nat} {I : Nat → Int32} {A : Nat → Nat → Int32} {R : Nat → Option Nat} {Q : Nat → Nat → Option Nat}
theorem fT.le (hk : wk K) (hl : le K st st1) {d : Nat} {N : List Nat} {a : Nat} {nx : Option Nat} {L : List Nd} (h : fT Zd K st d N a nx L) : fT Zd K st1 d N a nx L := by
  obtain ⟨fs, hob⟩ := tree_ob hk h.1
  have hc : cA K st a = some (.inr (.inr (11, fs))) := by rw [cA_w hob.1, hob.2]
  exact ⟨hl.tree d a L h.1, by rw [gQ_eq (cA_le hl hc)]; exact h.2⟩
theorem Cs.fle (hk : wk K) (hl : le K st st1) {d : Nat} {ks : List Kd} {r e : Option Nat} (h : Cs (fT Zd K st d) r ks e) : Cs (fT Zd K st1 d) r ks e := Cs.mono ks r e h (fun k _ nx h9 => fT.le hk hl h9)
theorem vC.span (hk : wk K) {d p c : Nat} {L : List Nd} (h : vC Zd K st ms d p c L) {v : Int32} (hv : v.toInt = c) : rd (ms.2.2.1 2) 2100 v = some (Int32.ofNat L.length) ∧ 0 < L.length := by
  cases d with
  | zero => cases h.1
  | succ d =>
    obtain ⟨o, num, cs, ns, fst, ks, -, -, -, -, hL, -, h2, -, -⟩ := vC.node hk h
    have hc := h.2.2
    refine ⟨?_, by rw [hL]; simp⟩
    rw [rd_in (vp_of (by omega) (by omega)), show v.toNatClampNeg = c by rw [tnn]; omega, h2]
/-- how many parts: the model -/
theorem cnt_m (hk : wk K) {d E : Nat} {x : Int32} {sp : Int32} (hx : rd (ms.2.2.1 2) 2100 x = some sp) (hE : (x + sp).toInt = E) : ∀ (ks : List Kd) (c fuel : Nat) (n v : Int32), (∀ z ∈ pc c ks, vC Zd K st ms d z.1.2.1 z.2 z.1.2.2 ∧ c ≤ z.2) → c + (kL ks).flatten.length = E → v.toInt = c → ks.length < fuel → 0 ≤ n.toInt → n.toInt + ks.length ≤ 1000 → E ≤ 2100 → ∃ n1 v1 : Int32, m_count_l1 x ms fuel (n, v) = some (n1, v1) ∧ n1.toInt = n.toInt + ks.length := by
  have N := nums
  intro ks
  induction ks with
  | nil =>
    intro c fuel n v h1 h2 hv hf n0 n1 h21
    obtain ⟨f, rfl⟩ : ∃ f, fuel = f + 1 := ⟨fuel - 1, by have : 0 < fuel := hf; omega⟩
    have h2 : c + 0 = E := h2
    have hle : x + sp ≤ v := i32le.mpr (by omega)
    refine ⟨n, v, ?_, by simp⟩
    rw [m_count_l1_s]
    simp only [hx, Option.bind_some, hle, if_true]
  | cons k ks ih =>
    intro c fuel n v h1 h2 hv hf n0 n1 h21
    obtain ⟨f, rfl⟩ : ∃ f, fuel = f + 1 := ⟨fuel - 1, by have : ks.length + 1 < fuel := hf; omega⟩
    have hf : ks.length < f := Nat.lt_of_succ_lt_succ hf
    rw [kL_cons, List.flatten_cons, List.length_append] at h2
    rw [List.length_cons] at n1
    obtain ⟨hv1, -⟩ := h1 (k, c) List.mem_cons_self
    obtain ⟨s1, s2⟩ := hv1.span hk hv
    have hl24 := hv1.2.2.1
    have s2 : 0 < k.2.2.length := s2
    have hl24 : k.2.2.length ≤ 24 := hl24
    have hsp : (Int32.ofNat k.2.2.length).toInt = k.2.2.length := ofNat_i (by omega)
    have hv2 : (v + Int32.ofNat k.2.2.length).toInt = (c + k.2.2.length : Nat) := by rw [i32add (by omega) (by omega)]; omega
    have hle : ¬ x + sp ≤ v := fun e => by have := i32le.mp e; omega
    have kn : (n + 1).toInt = n.toInt + 1 := by rw [i32add (by omega) (by omega)]; omega
    obtain ⟨n2, v2, i1, i2⟩ := ih (c + k.2.2.length) f (n + 1) (v + Int32.ofNat k.2.2.length) (fun z hz => by
      obtain ⟨y1, y2⟩ := h1 z (List.mem_cons_of_mem _ hz)
      refine ⟨y1, ?_⟩
      have : ∀ (ks : List Kd) (c : Nat), ∀ z ∈ pc c ks, c ≤ z.2 := by
        intro ks
        induction ks with
        | nil => intro c z hz; cases hz
        | cons k ks ih => intro c z hz; rcases List.mem_cons.mp hz with rfl | hz; · exact Nat.le_refl _
                          · have := ih _ z hz; omega
      exact this ks _ z hz) (by omega) hv2 hf (by omega) (by omega) h21
    refine ⟨n2, v2, ?_, by rw [i2, kn, List.length_cons]; omega⟩
    rw [m_count_l1_s]
    simp only [hx, Option.bind_some, hle, if_false, s1]
    exact i1
theorem pc_get : ∀ (ks : List Kd) (c : Nat), (pc c ks).map (fun z => z.1) = ks := by
  intro ks
  induction ks with
  | nil => intro c; rfl
  | cons k ks ih => intro c; show k :: _ = _; rw [ih]
/-- the part at a place -/
def elP (zs : List (Kd × Nat)) (i : Int) (r : Int32) : Int32 := if 0 ≤ i then (match zs[i.toNat]? with | some z => Int32.ofNat z.2 | none => r) else r
def elC (ks : List Kd) (i : Int) : Option Nat := if 0 ≤ i then (ks[i.toNat]?).map (fun k => k.2.1) else none
theorem elP_nil (i : Int) (r : Int32) : elP [] i r = r := by
  unfold elP
  split
  · rfl
  · rfl
theorem elC_nil (i : Int) : elC [] i = none := by
  unfold elC
  split
  · rfl
  · rfl
theorem elP_cons (z : Kd × Nat) (zs : List (Kd × Nat)) (i : Int) (r : Int32) : elP (z :: zs) i r = elP zs (i - 1) (if i = 0 then Int32.ofNat z.2 else r) := by
  unfold elP
  by_cases e0 : i = 0
  · subst e0
    rw [if_pos (by decide), if_neg (by decide), if_pos rfl]
    rfl
  · by_cases e1 : 0 ≤ i
    · rw [if_pos e1, if_pos (by omega), if_neg e0, show i.toNat = (i - 1).toNat + 1 by omega]
      rfl
    · rw [if_neg e1, if_neg (by omega), if_neg e0]
theorem elC_cons (k : Kd) (ks : List Kd) (i : Int) : elC (k :: ks) i = if i = 0 then some k.2.1 else elC ks (i - 1) := by
  unfold elC
  by_cases e0 : i = 0
  · subst e0
    rw [if_pos (by decide), if_pos rfl]
    rfl
  · by_cases e1 : 0 ≤ i
    · rw [if_pos e1, if_neg e0, if_pos (by omega), show i.toNat = (i - 1).toNat + 1 by omega]
      rfl
    · rw [if_neg e1, if_neg e0, if_neg (by omega)]
/-- the part at a place: the model -/
theorem elm_m (hk : wk K) {d E : Nat} {x : Int32} {sp : Int32} (hx : rd (ms.2.2.1 2) 2100 x = some sp) (hE : (x + sp).toInt = E) : ∀ (ks : List Kd) (c fuel : Nat) (i r v : Int32), (∀ z ∈ pc c ks, vC Zd K st ms d z.1.2.1 z.2 z.1.2.2) → c + (kL ks).flatten.length = E → v.toInt = c → ks.length < fuel → -2000 ≤ i.toInt - ks.length → i.toInt ≤ 2000 → E ≤ 2100 → ∃ i1 v1 : Int32, m_element_l1 x ms fuel (i, r, v) = some (i1, elP (pc c ks) i.toInt r, v1) := by
  have N := nums
  intro ks
  induction ks with
  | nil =>
    intro c fuel i r v h1 h2 hv hf n0 n1 h21
    obtain ⟨f, rfl⟩ : ∃ f, fuel = f + 1 := ⟨fuel - 1, by have : 0 < fuel := hf; omega⟩
    have h2 : c + 0 = E := h2
    have hle : x + sp ≤ v := i32le.mpr (by omega)
    refine ⟨i, v, ?_⟩
    rw [m_element_l1_s, show pc c [] = [] from rfl, elP_nil]
    simp only [hx, Option.bind_some, hle, if_true]
  | cons k ks ih =>
    intro c fuel i r v h1 h2 hv hf n0 n1 h21
    obtain ⟨f, rfl⟩ : ∃ f, fuel = f + 1 := ⟨fuel - 1, by have : ks.length + 1 < fuel := hf; omega⟩
    have hf : ks.length < f := Nat.lt_of_succ_lt_succ hf
    rw [kL_cons, List.flatten_cons, List.length_append] at h2
    rw [List.length_cons] at n0
    have hv1 := h1 (k, c) List.mem_cons_self
    obtain ⟨s1, s2⟩ := hv1.span hk hv
    have hl24 := hv1.2.2.1
    have s2 : 0 < k.2.2.length := s2
    have hl24 : k.2.2.length ≤ 24 := hl24
    have hsp : (Int32.ofNat k.2.2.length).toInt = k.2.2.length := ofNat_i (by omega)
    have hv2 : (v + Int32.ofNat k.2.2.length).toInt = (c + k.2.2.length : Nat) := by rw [i32add (by omega) (by omega)]; omega
    have ki : (i + -1).toInt = i.toInt - 1 := by rw [i32add (by omega) (by omega)]; omega
    have q1 : c + k.2.2.length + (kL ks).flatten.length = E := by omega
    have q2 : -2000 ≤ (i + -1).toInt - ks.length := by
      rw [ki]
      clear hv2 hsp ki hE h2 hv N ih
      omega
    have q3 : (i + -1).toInt ≤ 2000 := by
      rw [ki]
      clear hv2 hsp ki hE h2 hv N ih
      omega
    have q4 : c < 2147483648 := by omega
    have hle : ¬ x + sp ≤ v := fun e => by have := i32le.mp e; omega
    obtain ⟨e14, he14, hval⟩ : ∃ e14 : Int32, (if i = (0 : Int32) then (some v) else (some r)) = some e14 ∧ e14 = (if i.toInt = 0 then Int32.ofNat c else r) := by
      by_cases e : i = 0
      · refine ⟨v, if_pos e, ?_⟩
        rw [if_pos (by rw [e]; rfl)]
        exact i32eq (by rw [hv, ofNat_i q4])
      · exact ⟨r, if_neg e, by rw [if_neg (fun e9 => e (i32eq (by rw [e9]; rfl)))]⟩
    obtain ⟨i2, v2, j1⟩ := ih (c + k.2.2.length) f (i + -1) e14 (v + Int32.ofNat k.2.2.length) (fun z hz => h1 z (List.mem_cons_of_mem _ hz)) q1 hv2 hf q2 q3 h21
    refine ⟨i2, v2, ?_⟩
    rw [m_element_l1_s]
    simp only [hx, Option.bind_some, hle, if_false, he14, s1]
    rw [j1, ki, hval, show pc c (k :: ks) = (k, c) :: pc (c + k.2.2.length) ks from rfl, elP_cons]
/-- the part at a place: the class -/
theorem elm_c {d : Nat} {a0 : Int32} : ∀ (ks : List Kd) (fuel : Nat) (n : Int32) (r : Option Nat), Cs (fT Zd K st d) r ks none → ks.length < fuel → 0 ≤ n.toInt → n.toInt + ks.length ≤ 1000 → ∃ x, c_Value_element_l1 K a0 st fuel (n, r) = some x ∧ (match x with | .inl o9 => some o9 | .inr e8 => some none) = some (elC ks (a0.toInt - n.toInt)) := by
  have N := nums
  intro ks
  induction ks with
  | nil =>
    intro fuel n r h hf n0 n1
    obtain ⟨f, rfl⟩ : ∃ f, fuel = f + 1 := ⟨fuel - 1, by have : 0 < fuel := hf; omega⟩
    have h : r = none := h
    subst h
    refine ⟨.inr (n, none), ?_, by rw [elC_nil]⟩
    rw [c_Value_element_l1_s]
    rfl
  | cons k ks ih =>
    intro fuel n r h hf n0 n1
    obtain ⟨f, rfl⟩ : ∃ f, fuel = f + 1 := ⟨fuel - 1, by have : ks.length + 1 < fuel := hf; omega⟩
    have hf : ks.length < f := Nat.lt_of_succ_lt_succ hf
    rw [List.length_cons] at n1
    obtain ⟨rfl, nx, h2, h3⟩ := h
    have kn : (n + 1).toInt = n.toInt + 1 := by rw [i32add (by omega) (by omega)]; omega
    rw [elC_cons]
    by_cases e0 : n = a0
    · refine ⟨.inl (some k.2.1), ?_, by rw [if_pos (by rw [e0, Int.sub_self])]⟩
      rw [c_Value_element_l1_s]
      simp only [nl, e0, if_true]
    · have e0' : ¬ a0.toInt - n.toInt = 0 := fun e9 => e0 (i32eq (by omega))
      obtain ⟨x, i1, i2⟩ := ih f (n + 1) nx h3 hf (by omega) (by omega)
      refine ⟨x, ?_, by rw [i2, if_neg e0', kn, show a0.toInt - (n.toInt + 1) = a0.toInt - n.toInt - 1 by omega]⟩
      rw [c_Value_element_l1_s]
      simp only [nl, e0, if_false, Option.bind_some, h2.2]
      exact i1
/-- the part of a name: the model -/
theorem fdR_pc {cs : List Int32} (hc : okS cs) : ∀ (ks : List Kd) (c : Nat) (acc : Int32), (∀ k ∈ ks, okS (nmL k.2.2)) → ((kL ks).map nmL).Nodup → (∀ kf, ks.find? (fun k => decide (nmL k.2.2 = cs)) = some kf → ∃ cell, (kf, cell) ∈ pc c ks ∧ fdR (enc cs) c (kL ks) acc = Int32.ofNat cell) := by
  intro ks
  induction ks with
  | nil => intro c acc _ _ kf h; cases h
  | cons k ks ih =>
    intro c acc h1 h2 kf hf
    rw [kL_cons, List.map_cons] at h2
    obtain ⟨n1, n2⟩ := List.nodup_cons.mp h2
    rw [List.find?_cons] at hf
    by_cases e : nmL k.2.2 = cs
    · rw [decide_eq_true e] at hf
      cases hf
      refine ⟨c, List.mem_cons_self, ?_⟩
      show fdR (enc cs) (c + k.2.2.length) (kL ks) (if enc (nmL k.2.2) = enc cs then Int32.ofNat c else acc) = _
      rw [if_pos (by rw [e])]
      refine fdR_none _ _ _ (fun L hL e9 => n1 ?_)
      obtain ⟨k9, hk9, rfl⟩ := List.mem_map.mp hL
      rw [e]
      have := enc_inj (h1 k9 (List.mem_cons_of_mem _ hk9)) hc e9
      exact List.mem_map.mpr ⟨k9.2.2, hL, this⟩
    · rw [decide_eq_false e] at hf
      obtain ⟨cell, y1, y2⟩ := ih (c + k.2.2.length) acc (fun y hy => h1 y (List.mem_cons_of_mem _ hy)) n2 kf hf
      refine ⟨cell, List.mem_cons_of_mem _ y1, ?_⟩
      show fdR (enc cs) (c + k.2.2.length) (kL ks) (if enc (nmL k.2.2) = enc cs then Int32.ofNat c else acc) = _
      rw [if_neg (fun e9 => e (enc_inj (h1 k List.mem_cons_self) hc e9))]
      exact y2
/-- every part -/
theorem evr_l (hk : wk K) {d E : Nat} (hd : d ≤ 5) {x sp : Int32} (hE : (x + sp).toInt = E) : ∀ (ks : List Kd) (c f1 f2 : Nat) (r : Option Nat) (v : Int32) (st : CS) (I : Nat → Int32) (Q : Nat → Nat → Option Nat) (ms : MS), Cx K st q cw I A R Q → FR Zd K st I Q ms → rd (ms.2.2.1 2) 2100 x = some sp → Cs (fT Zd K st d) r ks none → (∀ z ∈ pc c ks, vC Zd K st ms d z.1.2.1 z.2 z.1.2.2) → c + (kL ks).flatten.length = E → v.toInt = c → ks.length < f1 → ks.length < f2 → E ≤ 2100 → ∃ st1 I1 Q1 ms1 v1, c_Finder_select_l1 Zd K (q 5) f1 (r, st) = some (none, st1) ∧ m_selects_l1 x f2 (v, ms) = some (v1, ms1) ∧ FK Zd K st q cw I A R Q ms st1 I1 Q1 ms1 := by
  have N := nums
  intro ks
  induction ks with
  | nil =>
    intro c f1 f2 r v st I Q ms hC hf hx hcs h1 h2 hv hf1 hf2 h21
    obtain ⟨f1, rfl⟩ : ∃ f, f1 = f + 1 := ⟨f1 - 1, by have : 0 < f1 := hf1; omega⟩
    obtain ⟨f2, rfl⟩ : ∃ f, f2 = f + 1 := ⟨f2 - 1, by have : 0 < f2 := hf2; omega⟩
    have h2 : c + 0 = E := h2
    have hle : x + sp ≤ v := i32le.mpr (by omega)
    have hcs : r = none := hcs
    subst hcs
    refine ⟨st, I, Q, ms, v, ?_, ?_, FK.rf hC hf⟩
    · rw [c_Finder_select_l1_s]; rfl
    · rw [m_selects_l1_s]
      simp only [hx, Option.bind_some, hle, if_true]
  | cons k ks ih =>
    intro c f1 f2 r v st I Q ms hC hf hx hcs h1 h2 hv hf1 hf2 h21
    obtain ⟨f1, rfl⟩ : ∃ f, f1 = f + 1 := ⟨f1 - 1, by have : ks.length + 1 < f1 := hf1; omega⟩
    obtain ⟨f2, rfl⟩ : ∃ f, f2 = f + 1 := ⟨f2 - 1, by have : ks.length + 1 < f2 := hf2; omega⟩
    have hf1 : ks.length < f1 := Nat.lt_of_succ_lt_succ hf1
    have hf2 : ks.length < f2 := Nat.lt_of_succ_lt_succ hf2
    rw [kL_cons, List.flatten_cons, List.length_append] at h2
    obtain ⟨rfl, nx, g2, g3⟩ := hcs
    have hv1 := h1 (k, c) List.mem_cons_self
    obtain ⟨s1, s2⟩ := hv1.span hk hv
    have hl24 := hv1.2.2.1
    have s2 : 0 < k.2.2.length := s2
    have hl24 : k.2.2.length ≤ 24 := hl24
    have hsp : (Int32.ofNat k.2.2.length).toInt = k.2.2.length := ofNat_i (by omega)
    have hv2 : (v + Int32.ofNat k.2.2.length).toInt = (c + k.2.2.length : Nat) := by rw [i32add (by omega) (by omega)]; omega
    have hle : ¬ x + sp ≤ v := fun e => by have := i32le.mp e; omega
    obtain ⟨t1, I1, Q1, m1, a1, a2, a3⟩ := take_lock (Zd := Zd) hk hC hf hd hv1 hv
    have hsr := a3.sr
    have hx1 : rd (m1.2.2.1 2) 2100 x = some sp := by rw [hsr.2.1]; exact hx
    have s1' : rd (m1.2.2.1 2) 2100 v = some (Int32.ofNat k.2.2.length) := by rw [hsr.2.1]; exact s1
    obtain ⟨t2, I2, Q2, m2, v2, i1, i2, i3⟩ := ih (c + k.2.2.length) f1 f2 nx (v + Int32.ofNat k.2.2.length) t1 I1 Q1 m1 a3.1 a3.2.2.2.1 hx1 (g3.fle hk a3.2.1) (fun z hz => (h1 z (List.mem_cons_of_mem _ hz)).sr a3.2.1 hsr) (by omega) hv2 hf1 hf2 h21
    have hnx : gQ K t1 k.2.1 11 5 = some nx := (fT.le hk a3.2.1 g2).2
    refine ⟨t2, I2, Q2, m2, v2, ?_, ?_, a3.tr i3⟩
    · rw [c_Finder_select_l1_s]
      simp only [nl, fo_5 hC.1, Option.bind_some, a1, hnx]
      exact i1
    · rw [m_selects_l1_s]
      simp only [hx, Option.bind_some, hle, if_false, a2, s1']
      exact i2
theorem sels_2 (x : Int32) : ∀ (f : Nat) (e : Int32 × MS), m_selects_l2 x f e = m_selects_l1 x f e := by
  intro f
  induction f with
  | zero => intro e; rfl
  | succ f ih => intro e; rw [m_selects_l2_s, m_selects_l1_s]; simp only [ih]
theorem sels_3 (x : Int32) : ∀ (f : Nat) (e : Int32 × MS), m_selects_l3 x f e = m_selects_l1 x f e := by
  intro f
  induction f with
  | zero => intro e; rfl
  | succ f ih => intro e; rw [m_selects_l3_s, m_selects_l1_s]; simp only [ih]
theorem sels_4 (x : Int32) : ∀ (f : Nat) (e : Int32 × MS), m_selects_l4 x f e = m_selects_l1 x f e := by
  intro f
  induction f with
  | zero => intro e; rfl
  | succ f ih => intro e; rw [m_selects_l4_s, m_selects_l1_s]; simp only [ih]
end SELS
