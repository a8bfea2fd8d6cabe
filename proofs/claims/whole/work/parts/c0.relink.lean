/-! A part goes, or another comes in its place. -/
section REL
variable {Zd : Nat → Nat} {K : KE} {s : CS}
/-- the link to a part, changed: behind the parts before it -/
theorem rel_l {d ka : Nat} {r9 : Option Nat} : ∀ (pre : List Kd) (p : Kd) (fuel : Nat) (r : Option Nat), Cs (Tw Zd K s d) r (pre ++ [p]) (some ka) → (∀ y ∈ pre ++ [p], ka ≠ y.2.1) → (kN (pre ++ [p])).Nodup → pre.length < fuel → ∃ s1, c_Value_relink_l1 K (some ka) r9 s fuel r = some (.inl s1) ∧ vch s s1 [p.2.1] ∧ Tw Zd K s1 d p.1 p.2.1 r9 p.2.2 := by
  intro pre
  induction pre with
  | nil =>
    intro p fuel r h hn hd hf
    obtain ⟨f, rfl⟩ : ∃ f, fuel = f + 1 := ⟨fuel - 1, by have : 0 < fuel := hf; omega⟩
    obtain ⟨h1, nx, h2, h3⟩ := h
    have h3 : nx = some ka := h3
    subst h3
    subst h1
    have hdp : p.1.Nodup := by
      have : kN ([] ++ [p]) = p.1 := by show p.1 ++ [] = _; rw [List.append_nil]
      rw [this] at hd; exact hd
    obtain ⟨s1, e1, e2, e3⟩ := h2.next hdp r9
    refine ⟨s1, ?_, e2, e3⟩
    rw [c_Value_relink_l1_s]
    simp only [nl, (rdC_T d _ _ _ _ h2).1, Option.bind_some, if_true, e1]
  | cons y pre ih =>
    intro p fuel r h hn hd hf
    obtain ⟨f, rfl⟩ : ∃ f, fuel = f + 1 := ⟨fuel - 1, by have : pre.length + 1 < fuel := hf; omega⟩
    obtain ⟨h1, nx, h2, h3⟩ := h
    subst h1
    have hnx : ∃ c, nx = some c ∧ ka ≠ c := by
      cases pre with
      | nil => exact ⟨p.2.1, h3.1, hn p (by simp)⟩
      | cons z zs => exact ⟨z.2.1, h3.1, hn z (by simp)⟩
    obtain ⟨c, hc1, hc2⟩ := hnx
    have hd2 : (kN (pre ++ [p])).Nodup := by
      have : kN (y :: pre ++ [p]) = y.1 ++ kN (pre ++ [p]) := kN_cons y (pre ++ [p])
      rw [this] at hd
      exact (List.nodup_append.mp hd).2.1
    obtain ⟨s1, e1, e2, e3⟩ := ih p f nx h3 (fun z hz => hn z (by
      rw [List.cons_append]; exact List.mem_cons_of_mem _ hz)) hd2 (Nat.lt_of_succ_lt_succ hf)
    refine ⟨s1, ?_, e2, e3⟩
    have hne : ¬ nx = some ka := by rw [hc1]; intro e9; exact hc2 (Option.some.inj e9).symm
    rw [c_Value_relink_l1_s]
    simp only [nl, (rdC_T d _ _ _ _ h2).1, Option.bind_some, hne, if_false]
    exact e1
theorem relink_ok {w : Nat} {o num : Int32} {cs ns : List Int32} {fst nx0 : Option Nat} {d : Nat} {pre post tail : List Kd} {k : Kd} {r9 : Option Nat} (hw : Nv Zd K s w o num cs ns fst nx0) (hc : Cs (Tw Zd K s d) fst (pre ++ k :: post) none) (hn : (w :: kN pre).Nodup) (hk : ∀ y ∈ pre, k.2.1 ≠ y.2.1) (hl : pre.length ≤ 1000) (ht : Cs (Tw Zd K s d) r9 tail none) (hdis : ∀ x ∈ kN tail, x ∉ w :: kN pre) : ∃ s1 fst1, c_Value_relink Zd K w (some k.2.1) r9 s = some s1 ∧ vch s s1 (w :: kN pre) ∧ Nv Zd K s1 w o num cs ns fst1 nx0 ∧ Cs (Tw Zd K s1 d) fst1 (pre ++ tail) none := by
  obtain ⟨nxk, c1, c2, c3⟩ := hc.mid
  obtain ⟨hwn, hpn⟩ := List.nodup_cons.mp hn
  rcases List.eq_nil_or_concat pre with rfl | ⟨pr, p, rfl⟩
  · have c1 : fst = some k.2.1 := c1
    obtain ⟨s1, e1, e2, e3⟩ := hw.first r9
    refine ⟨s1, r9, ?_, e2, e3, Cs.keep e2 ht (fun x hx hxw => hdis x hx hxw)⟩
    simp only [c_Value_relink, hw.q4, Option.bind_some, c1, if_true, e1]
  · rw [List.concat_eq_append] at *
    have hfst : ∃ c, fst = some c ∧ k.2.1 ≠ c := by
      cases pr with
      | nil => exact ⟨p.2.1, c1.1, hk p (by simp)⟩
      | cons z zs => exact ⟨z.2.1, c1.1, hk z (by simp)⟩
    obtain ⟨c, hf1, hf2⟩ := hfst
    have hne : ¬ fst = some k.2.1 := by rw [hf1]; intro e9; exact hf2 (Option.some.inj e9).symm
    have hlp : (pr ++ [p]).length = pr.length + 1 := by rw [List.length_append, List.length_singleton]
    obtain ⟨s1, e1, e2, e3⟩ := rel_l (r9 := r9) pr p 4096 fst c1 hk hpn (by omega)
    obtain ⟨m, c4, c5, nxp, c6, c7⟩ := (Cs.app pr [p] fst (some k.2.1)).mp c1
    have c7 : nxp = some k.2.1 := c7
    subst c5
    have hkN1 : kN (pr ++ [p]) = kN pr ++ p.1 := by rw [kN_app, kN_cons]; show _ = _ ++ _; rw [show kN [] = [] from rfl, List.append_nil]
    rw [hkN1] at hpn hwn hdis
    have hpm : p.2.1 ∈ p.1 := c6.mem
    refine ⟨s1, fst, ?_, e2.sub (fun x hx => ?_), ?_, ?_⟩
    · simp only [c_Value_relink, hw.q4, Option.bind_some, hne, if_false, e1]
    · rw [List.mem_singleton] at hx
      rw [hx, hkN1]; exact List.mem_cons_of_mem _ (List.mem_append_right _ hpm)
    · exact hw.mono (e2.sm (N := [w]) (fun x hx hxa => by
        rw [List.mem_singleton] at hx hxa
        exact hwn (by rw [← hx, hxa]; exact List.mem_append_right _ hpm))) (List.mem_singleton.mpr rfl)
    · refine (Cs.app (pr ++ [p]) tail fst none).mpr ⟨r9, (Cs.app pr [p] fst r9).mpr ⟨some p.2.1, ?_, rfl, r9, e3, rfl⟩, ?_⟩
      · refine Cs.keep e2 c4 (fun x hx hxw => ?_)
        rw [List.mem_singleton] at hxw
        exact nodup_not hpn hx (by rw [hxw]; exact hpm)
      · refine Cs.keep e2 ht (fun x hx hxw => ?_)
        rw [List.mem_singleton] at hxw
        exact hdis x hx (by rw [hxw]; exact List.mem_cons_of_mem _ (List.mem_append_right _ hpm))
theorem adr_ne {d : Nat} {pre post : List Kd} {k : Kd} {r e : Option Nat} (hc : Cs (Tw Zd K s d) r (pre ++ k :: post) e) (hn : (kN (pre ++ k :: post)).Nodup) : ∀ y ∈ pre, k.2.1 ≠ y.2.1 := by
  obtain ⟨nxk, c1, c2, c3⟩ := hc.mid
  intro y hy e9
  obtain ⟨nx9, h9⟩ := Cs.all pre r _ c1 y hy
  rw [kN_app, kN_cons] at hn
  refine nodup_not hn (mem_kN hy h9.mem) ?_
  rw [← e9]
  exact List.mem_append_left _ c2.mem
/-- a part goes -/
theorem drop_ok {w : Nat} {o num : Int32} {cs ns : List Int32} {fst nx0 : Option Nat} {d : Nat} {pre post : List Kd} {k : Kd} (hw : Nv Zd K s w o num cs ns fst nx0) (hc : Cs (Tw Zd K s d) fst (pre ++ k :: post) none) (hn : (w :: kN (pre ++ k :: post)).Nodup) (hl : pre.length ≤ 1000) : ∃ s1 fst1, c_Value_drop Zd K w (some k.2.1) s = some s1 ∧ vch s s1 (w :: kN pre) ∧ Nv Zd K s1 w o num cs ns fst1 nx0 ∧ Cs (Tw Zd K s1 d) fst1 (pre ++ post) none := by
  obtain ⟨nxk, c1, c2, c3⟩ := hc.mid
  obtain ⟨hwn, hpn⟩ := List.nodup_cons.mp hn
  have hk := adr_ne hc hpn
  rw [kN_app, kN_cons] at hpn hwn
  have hn1 : (w :: kN pre).Nodup := List.nodup_cons.mpr ⟨fun h9 => hwn (List.mem_append_left _ h9), (List.nodup_append.mp hpn).1⟩
  obtain ⟨s1, fst1, e1, e2, e3, e4⟩ := relink_ok (r9 := nxk) hw hc hn1 hk hl c3 (fun x hx hxw => by
    rcases List.mem_cons.mp hxw with e9 | e9
    · rw [e9] at hx; exact hwn (List.mem_append_right _ (List.mem_append_right _ hx))
    · exact nodup_not hpn e9 (List.mem_append_right _ hx))
  refine ⟨s1, fst1, ?_, e2, e3, e4⟩
  simp only [c_Value_drop, Option.bind_some, (rdC_T d _ _ _ _ c2).1, hw.is, e1]
/-- a part comes in another's place -/
theorem swap_ok {w : Nat} {o num : Int32} {cs ns : List Int32} {fst nx0 : Option Nat} {d : Nat} {pre post : List Kd} {k : Kd} {N : List Nat} {a : Nat} {n9 : Option Nat} {Lp : List Nd} (hw : Nv Zd K s w o num cs ns fst nx0) (hc : Cs (Tw Zd K s d) fst (pre ++ k :: post) none) (hp : Tw Zd K s d N a n9 Lp) (hn : (w :: (kN (pre ++ k :: post) ++ N)).Nodup) (hl : pre.length ≤ 1000) : ∃ s1 fst1, c_Value_swap Zd K w (some k.2.1) (some a) s = some s1 ∧ vch s s1 (w :: (kN pre ++ N)) ∧ Nv Zd K s1 w o num cs ns fst1 nx0 ∧ Cs (Tw Zd K s1 d) fst1 (pre ++ (N, a, nmd (nmL k.2.2) Lp) :: post) none := by
  obtain ⟨hwn, hpn⟩ := List.nodup_cons.mp hn
  have hn1 := (List.nodup_append.mp hpn).1
  have hnN := (List.nodup_append.mp hpn).2.1
  have hdN : ∀ x ∈ kN (pre ++ k :: post), x ∉ N := fun x hx => nodup_not hpn hx
  have hwN : w ∉ N := fun h9 => hwn (List.mem_append_right _ h9)
  have hwk : w ∉ kN (pre ++ k :: post) := fun h9 => hwn (List.mem_append_left _ h9)
  have haN := hp.mem
  obtain ⟨nxk, c1, c2, c3⟩ := hc.mid
  obtain ⟨nn, q3, q4, q5⟩ := (rdC_T d _ _ _ _ c2).2
  -- the name
  obtain ⟨s2, e1, e2, e3⟩ := hp.name hnN q4 q5
  have hoff2 : ∀ x, x ∉ N → x ∉ [a] := fun x hx h9 => by rw [List.mem_singleton] at h9; exact hx (by rw [h9]; exact haN)
  have hw2 := hw.mono (e2.sm (K := K) (N := [w]) (fun x hx => by rw [List.mem_singleton] at hx; rw [hx]; exact hoff2 w hwN)) (List.mem_singleton.mpr rfl)
  have hc2 := Cs.keep e2 hc (fun x hx => hoff2 x (hdN x hx))
  obtain ⟨nxk2, d1, d2, d3⟩ := hc2.mid
  -- the next
  obtain ⟨s3, f1, f2, f3⟩ := e3.next hnN nxk2
  have hw3 := hw2.mono (f2.sm (K := K) (N := [w]) (fun x hx => by rw [List.mem_singleton] at hx; rw [hx]; exact hoff2 w hwN)) (List.mem_singleton.mpr rfl)
  have hc3 := Cs.keep f2 hc2 (fun x hx => hoff2 x (hdN x hx))
  have hd3 : Cs (Tw Zd K s3 d) nxk2 post none := Cs.keep f2 d3 (fun x hx => hoff2 x (hdN x (by rw [kN_app, kN_cons]; exact List.mem_append_right _ (List.mem_append_right _ hx))))
  have hkk := adr_ne hc3 hn1
  have hn1b := hn1
  rw [kN_app, kN_cons] at hn1b hwk
  have hnw : (w :: kN pre).Nodup := List.nodup_cons.mpr ⟨fun h9 => hwk (List.mem_append_left _ h9), (List.nodup_append.mp hn1b).1⟩
  obtain ⟨s4, fst1, g1, g2, g3, g4⟩ := relink_ok (r9 := some a) (tail := (N, a, nmd (nmL k.2.2) Lp) :: post) hw3 hc3 hnw hkk hl ⟨rfl, nxk2, f3, hd3⟩ (fun x hx hxw => by
    rw [kN_cons] at hx
    rcases List.mem_append.mp hx with h8 | h8
    · rcases List.mem_cons.mp hxw with e9 | e9
      · rw [e9] at h8; exact hwN h8
      · exact hdN x (by rw [kN_app]; exact List.mem_append_left _ e9) h8
    · rcases List.mem_cons.mp hxw with e9 | e9
      · rw [e9] at h8; exact hwk (List.mem_append_right _ (List.mem_append_right _ h8))
      · exact nodup_not hn1b e9 (List.mem_append_right _ h8))
  refine ⟨s4, fst1, ?_, ((e2.sub (fun x hx => ?_)).tr (f2.sub (fun x hx => ?_))).tr (g2.sub (fun x hx => ?_)), g3, g4⟩
  · have hq5 : gQ K s2 k.2.1 11 5 = some nxk2 := (rdC_T d _ _ _ _ d2).1
    simp only [c_Value_swap, Option.bind_some, q3, e1, hq5, f1, hw3.is, g1]
  · rw [List.mem_singleton] at hx; rw [hx]; exact List.mem_cons_of_mem _ (List.mem_append_right _ haN)
  · rw [List.mem_singleton] at hx; rw [hx]; exact List.mem_cons_of_mem _ (List.mem_append_right _ haN)
  · rcases List.mem_cons.mp hx with e9 | e9
    · rw [e9]; exact List.mem_cons_self
    · exact List.mem_cons_of_mem _ (List.mem_append_left _ e9)
end REL
