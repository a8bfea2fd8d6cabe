/-! Rows by their parts: where they begin, which has a name. -/
def stt : Nat → List (List Nd) → List Nat
  | _, [] => []
  | c, X :: Xs => c :: stt (c + X.length) Xs
def fnd (t : List Int32) : Nat → List (List Nd) → Option Nat
  | _, [] => none
  | c, X :: Xs => if (nmL X).map u8 = t then some c else fnd t (c + X.length) Xs
def spl : Nat → List Nd → List (List Nd)
  | 0, _ => []
  | _ + 1, [] => []
  | f + 1, x :: xs => (x :: xs).take x.2.1 :: spl f ((x :: xs).drop x.2.1)
theorem spl_flat : ∀ (Ls : List (List Nd)) (f : Nat), (∀ X ∈ Ls, okL X) → Ls.length ≤ f → spl f Ls.flatten = Ls := by
  intro Ls
  induction Ls with
  | nil => intro f _ _; cases f <;> rfl
  | cons X Ls ih =>
    intro f h hf
    obtain ⟨g, rfl⟩ : ∃ g, f = g + 1 := ⟨f - 1, by have : Ls.length + 1 ≤ f := hf; omega⟩
    have hf : Ls.length ≤ g := Nat.le_of_succ_le_succ hf
    obtain ⟨⟨x, xs, e1, e2⟩, -⟩ := h X List.mem_cons_self
    have i1 := ih g (fun Y hY => h Y (List.mem_cons_of_mem _ hY)) hf
    rw [List.flatten_cons]
    have e3 : spl (g + 1) (X ++ Ls.flatten) = (X ++ Ls.flatten).take X.length :: spl g ((X ++ Ls.flatten).drop X.length) := by
      rw [← e2]
      rw [e1]
      rfl
    rw [e3, List.take_left', List.drop_left', i1]
    · rfl
    · rfl
/-- the part of a node that a token leads to -/
def kidAt (L : List Nd) (i : Nat) (t : List Int32) : Option Nat := match L[i]? with
  | none => none
  | some x => if x.1 = 6 then fnd t (i + 1) (spl 64 ((L.drop (i + 1)).take (x.2.1 - 1))) else if x.1 = 5 then (match tnum t with
    | none => none
    | some n => (stt (i + 1) (spl 64 ((L.drop (i + 1)).take (x.2.1 - 1))))[n]?) else none
theorem kidAt_eq {A B : List Nd} {x : Nd} {Ls : List (List Nd)} {t : List Int32} {i : Nat} (hi : A.length = i) (hx : x.2.1 = 1 + Ls.flatten.length) (hok : ∀ X ∈ Ls, okL X) (hl : Ls.length ≤ 64) : kidAt (A ++ (x :: Ls.flatten) ++ B) i t = if x.1 = 6 then fnd t (i + 1) Ls else if x.1 = 5 then (match tnum t with
    | none => none
    | some n => (stt (i + 1) Ls)[n]?) else none := by
  subst hi
  have e1 : (A ++ (x :: Ls.flatten) ++ B)[A.length]? = some x := by
    rw [List.append_assoc, List.getElem?_append_right (Nat.le_refl _), Nat.sub_self]
    rfl
  have e2 : ((A ++ (x :: Ls.flatten) ++ B).drop (A.length + 1)).take (x.2.1 - 1) = Ls.flatten := by
    have e3 : A ++ (x :: Ls.flatten) ++ B = (A ++ [x]) ++ (Ls.flatten ++ B) := by simp
    rw [e3, List.drop_left' (by simp), show x.2.1 - 1 = Ls.flatten.length by omega, List.take_left']
    rfl
  unfold kidAt
  rw [e1]
  dsimp only
  rw [e2, spl_flat Ls 64 hok hl]
theorem fnd_some {t : List Int32} {z : Nat} : ∀ (ks : List Kd) (c : Nat), fnd t c (kL ks) = some z → ∃ pre k post, ks = pre ++ k :: post ∧ z = c + (kL pre).flatten.length ∧ (nmL k.2.2).map u8 = t ∧ ∀ y ∈ pre, (nmL y.2.2).map u8 ≠ t := by
  intro ks
  induction ks with
  | nil => intro c h; cases h
  | cons k ks ih =>
    intro c h
    rw [kL_cons] at h
    unfold fnd at h
    by_cases e : (nmL k.2.2).map u8 = t
    · rw [if_pos e] at h
      cases h
      exact ⟨[], k, ks, rfl, rfl, e, fun y hy => by cases hy⟩
    · rw [if_neg e] at h
      obtain ⟨pre, k1, post, h1, h2, h3, h4⟩ := ih _ h
      refine ⟨k :: pre, k1, post, by rw [h1]; rfl, ?_, h3, fun y hy => ?_⟩
      · rw [h2, kL_cons, List.flatten_cons, List.length_append]; omega
      · rcases List.mem_cons.mp hy with rfl | hy
        · exact e
        · exact h4 y hy
theorem fnd_none {t : List Int32} : ∀ (ks : List Kd) (c : Nat), fnd t c (kL ks) = none → ∀ k ∈ ks, (nmL k.2.2).map u8 ≠ t := by
  intro ks
  induction ks with
  | nil => intro c _ k hk; cases hk
  | cons k ks ih =>
    intro c h y hy
    rw [kL_cons] at h
    unfold fnd at h
    by_cases e : (nmL k.2.2).map u8 = t
    · rw [if_pos e] at h; cases h
    · rw [if_neg e] at h
      rcases List.mem_cons.mp hy with rfl | hy
      · exact e
      · exact ih _ h y hy
theorem stt_some {z : Nat} : ∀ (ks : List Kd) (c n : Nat), (stt c (kL ks))[n]? = some z → ∃ pre k post, ks = pre ++ k :: post ∧ z = c + (kL pre).flatten.length ∧ pre.length = n := by
  intro ks
  induction ks with
  | nil => intro c n h; cases h
  | cons k ks ih =>
    intro c n h
    rw [kL_cons] at h
    unfold stt at h
    cases n with
    | zero =>
      cases h
      exact ⟨[], k, ks, rfl, rfl, rfl⟩
    | succ n =>
      rw [List.getElem?_cons_succ] at h
      obtain ⟨pre, k1, post, h1, h2, h3⟩ := ih _ _ h
      refine ⟨k :: pre, k1, post, by rw [h1]; rfl, ?_, by rw [List.length_cons, h3]⟩
      rw [h2, kL_cons, List.flatten_cons, List.length_append]; omega
theorem stt_len : ∀ (Ls : List (List Nd)) (c : Nat), (stt c Ls).length = Ls.length := by
  intro Ls
  induction Ls with
  | nil => intro c; rfl
  | cons X Ls ih => intro c; unfold stt; rw [List.length_cons, List.length_cons, ih]
theorem stt_none {ks : List Kd} {c n : Nat} (h : (stt c (kL ks))[n]? = none) : ks.length ≤ n := by
  rw [List.getElem?_eq_none_iff, stt_len] at h
  unfold kL at h
  rw [List.length_map] at h
  exact h
/-! the model: spans, counts, elements, members of a row -/
section FLAT
variable {ms : MS}
theorem spanF {c : Nat} {X Y : List Nd} {v : Int32} (h : rowF ms c (X ++ Y)) (hX : okL X) (hv : v.toInt = c) (hc : c + X.length ≤ 2100) : rd (ms.2.2.1 2) 2100 v = some (Int32.ofNat X.length) ∧ 0 < X.length := by
  obtain ⟨⟨x, xs, e1, e2⟩, -⟩ := hX
  have h1 : X.length = xs.length + 1 := by rw [e1]; rfl
  have h2 := h 0 x (by rw [e1]; rfl)
  rw [Nat.add_zero] at h2
  refine ⟨?_, by omega⟩
  rw [rd_in (vp_of (by omega) (by omega)), show v.toNatClampNeg = c by rw [tnn]; omega, h2.1.2.1, e2]
theorem cntF {E : Nat} {x sp : Int32} (hx : rd (ms.2.2.1 2) 2100 x = some sp) (hE : (x + sp).toInt = E) (hE2 : E ≤ 2100) : ∀ (Ls : List (List Nd)) (c fuel : Nat) (n v : Int32), rowF ms c Ls.flatten → (∀ X ∈ Ls, okL X) → c + Ls.flatten.length = E → v.toInt = c → Ls.length < fuel → 0 ≤ n.toInt → n.toInt + Ls.length ≤ 1000 → ∃ n1 v1 : Int32, m_count_l1 x ms fuel (n, v) = some (n1, v1) ∧ n1.toInt = n.toInt + Ls.length := by
  have N := nums
  intro Ls
  induction Ls with
  | nil =>
    intro c fuel n v h1 h2 h3 hv hf n0 n1
    obtain ⟨f, rfl⟩ : ∃ f, fuel = f + 1 := ⟨fuel - 1, by have : 0 < fuel := hf; omega⟩
    have h3 : c + 0 = E := h3
    refine ⟨n, v, ?_, by simp⟩
    rw [m_count_l1_s]
    simp only [hx, Option.bind_some, show x + sp ≤ v from i32le.mpr (by omega), if_true]
  | cons X Ls ih =>
    intro c fuel n v h1 h2 h3 hv hf n0 n1
    obtain ⟨f, rfl⟩ : ∃ f, fuel = f + 1 := ⟨fuel - 1, by have : Ls.length + 1 < fuel := hf; omega⟩
    have hf : Ls.length < f := Nat.lt_of_succ_lt_succ hf
    rw [List.flatten_cons] at h1 h3
    rw [List.length_append] at h3
    rw [List.length_cons] at n1
    obtain ⟨s1, s2⟩ := spanF h1 (h2 X List.mem_cons_self) hv (by omega)
    have hsp : (Int32.ofNat X.length).toInt = X.length := ofNat_i (by omega)
    have hv2 : (v + Int32.ofNat X.length).toInt = (c + X.length : Nat) := by rw [i32add (by omega) (by omega)]; omega
    have hle : ¬ x + sp ≤ v := fun e => by have := i32le.mp e; omega
    have kn : (n + 1).toInt = n.toInt + 1 := by rw [i32add (by omega) (by omega)]; omega
    obtain ⟨n2, v2, i1, i2⟩ := ih (c + X.length) f (n + 1) (v + Int32.ofNat X.length) (rowF_app.mp h1).2 (fun Y hY => h2 Y (List.mem_cons_of_mem _ hY)) (by omega) hv2 hf (by omega) (by omega)
    refine ⟨n2, v2, ?_, by rw [i2, kn, List.length_cons]; omega⟩
    rw [m_count_l1_s]
    simp only [hx, Option.bind_some, hle, if_false, s1]
    exact i1
def elS (zs : List Nat) (i : Int) (r : Int32) : Int32 := if 0 ≤ i then (match zs[i.toNat]? with | some z => Int32.ofNat z | none => r) else r
theorem elS_cons (z : Nat) (zs : List Nat) (i : Int) (r : Int32) : elS (z :: zs) i r = elS zs (i - 1) (if i = 0 then Int32.ofNat z else r) := by
  unfold elS
  by_cases e0 : i = 0
  · subst e0
    rw [if_pos (by decide), if_neg (by decide), if_pos rfl]
    rfl
  · by_cases e1 : 0 ≤ i
    · rw [if_pos e1, if_pos (by omega), if_neg e0, show i.toNat = (i - 1).toNat + 1 by omega]
      rfl
    · rw [if_neg e1, if_neg (by omega), if_neg e0]
theorem elmF {E : Nat} {x sp : Int32} (hx : rd (ms.2.2.1 2) 2100 x = some sp) (hE : (x + sp).toInt = E) (hE2 : E ≤ 2100) : ∀ (Ls : List (List Nd)) (c fuel : Nat) (i r v : Int32), rowF ms c Ls.flatten → (∀ X ∈ Ls, okL X) → c + Ls.flatten.length = E → v.toInt = c → Ls.length < fuel → -2000 ≤ i.toInt - Ls.length → i.toInt ≤ 2000 → ∃ i1 v1 : Int32, m_element_l1 x ms fuel (i, r, v) = some (i1, elS (stt c Ls) i.toInt r, v1) := by
  have N := nums
  intro Ls
  induction Ls with
  | nil =>
    intro c fuel i r v h1 h2 h3 hv hf n0 n1
    obtain ⟨f, rfl⟩ : ∃ f, fuel = f + 1 := ⟨fuel - 1, by have : 0 < fuel := hf; omega⟩
    have h3 : c + 0 = E := h3
    refine ⟨i, v, ?_⟩
    have e9 : elS (stt c []) i.toInt r = r := by
      unfold elS stt
      split <;> rfl
    rw [e9, m_element_l1_s]
    simp only [hx, Option.bind_some, show x + sp ≤ v from i32le.mpr (by omega), if_true]
  | cons X Ls ih =>
    intro c fuel i r v h1 h2 h3 hv hf n0 n1
    obtain ⟨f, rfl⟩ : ∃ f, fuel = f + 1 := ⟨fuel - 1, by have : Ls.length + 1 < fuel := hf; omega⟩
    have hf : Ls.length < f := Nat.lt_of_succ_lt_succ hf
    rw [List.flatten_cons] at h1 h3
    rw [List.length_append] at h3
    rw [List.length_cons] at n0
    obtain ⟨s1, s2⟩ := spanF h1 (h2 X List.mem_cons_self) hv (by omega)
    have hsp : (Int32.ofNat X.length).toInt = X.length := ofNat_i (by omega)
    have hv2 : (v + Int32.ofNat X.length).toInt = (c + X.length : Nat) := by rw [i32add (by omega) (by omega)]; omega
    have ki : (i + -1).toInt = i.toInt - 1 := by rw [i32add (by omega) (by omega)]; omega
    have hle : ¬ x + sp ≤ v := fun e => by have := i32le.mp e; omega
    have q2 : -2000 ≤ (i + -1).toInt - Ls.length := by rw [ki]; clear hv2 hsp ki hE h3 hv N ih; omega
    have q3 : (i + -1).toInt ≤ 2000 := by rw [ki]; clear hv2 hsp ki hE h3 hv N ih; omega
    obtain ⟨e14, he14, hval⟩ : ∃ e14 : Int32, (if i = (0 : Int32) then (some v) else (some r)) = some e14 ∧ e14 = (if i.toInt = 0 then Int32.ofNat c else r) := by
      by_cases e : i = 0
      · refine ⟨v, if_pos e, ?_⟩
        rw [if_pos (by rw [e]; rfl)]
        exact i32eq (by rw [hv, ofNat_i (by omega)])
      · exact ⟨r, if_neg e, by rw [if_neg (fun e9 => e (i32eq (by rw [e9]; rfl)))]⟩
    obtain ⟨i2, v2, j1⟩ := ih (c + X.length) f (i + -1) e14 (v + Int32.ofNat X.length) (rowF_app.mp h1).2 (fun Y hY => h2 Y (List.mem_cons_of_mem _ hY)) (by omega) hv2 hf q2 q3
    refine ⟨i2, v2, ?_⟩
    rw [m_element_l1_s]
    simp only [hx, Option.bind_some, hle, if_false, he14, s1]
    rw [j1, ki, hval]
    show _ = some (i2, elS (c :: stt (c + X.length) Ls) i.toInt r, v2)
    rw [elS_cons]
theorem u8_inj {cs ds : List Int32} (h1 : okS cs) (h2 : okS ds) (h : cs.map u8 = ds.map u8) : cs = ds := enc_inj h1 h2 (by rw [enc_u, enc_u, h])
theorem fdR_fnd {t : List Int32} (ht : okC t) (htl : t.length ≤ 10) : ∀ (Ls : List (List Nd)) (c : Nat) (acc : Int32), (∀ X ∈ Ls, okS (nmL X)) → (Ls.map nmL).Nodup → fdR (encU t) c Ls acc = (match fnd t c Ls with | some z => Int32.ofNat z | none => acc) := by
  intro Ls
  induction Ls with
  | nil => intro c acc _ _; rfl
  | cons X Ls ih =>
    intro c acc hok hnd
    have hoX := hok X List.mem_cons_self
    have hoR : ∀ Y ∈ Ls, okS (nmL Y) := fun Y hY => hok Y (List.mem_cons_of_mem _ hY)
    rw [List.map_cons, List.nodup_cons] at hnd
    by_cases e : (nmL X).map u8 = t
    · have e1 : enc (nmL X) = encU t := by rw [enc_u, e]
      have hno : ∀ Y ∈ Ls, enc (nmL Y) ≠ encU t := by
        intro Y hY e2
        have e3 : nmL Y = nmL X := enc_inj (hoR Y hY) hoX (by rw [e2, e1])
        exact hnd.1 (by rw [← e3]; exact List.mem_map.mpr ⟨Y, hY, rfl⟩)
      have e4 : fnd t c (X :: Ls) = some c := by unfold fnd; rw [if_pos e]
      rw [e4]
      unfold fdR
      rw [if_pos e1]
      exact fdR_none Ls _ _ hno
    · have e1 : enc (nmL X) ≠ encU t := by
        intro e2
        rw [enc_u] at e2
        exact e (encU_inj (okS_u8 _) ht (by rw [List.length_map]; exact hoX.1) htl e2)
      have e4 : fnd t c (X :: Ls) = fnd t (c + X.length) Ls := by rw [fnd, if_neg e]
      rw [e4]
      unfold fdR
      rw [if_neg e1]
      exact ih _ acc hoR hnd.2
end FLAT
