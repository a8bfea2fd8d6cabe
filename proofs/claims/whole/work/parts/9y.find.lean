/-! Finding: values and cells, a value taken; class and model. -/
section FIND
variable {Zd : Nat → Nat} {K : KE} {st st1 : CS} {ms ms1 : MS} {q : Nat → Nat} {cw : Nat} {I : Nat → Int32} {A : Nat → Nat → Int32} {R : Nat → Option Nat} {Q : Nat → Nat → Option Nat}
/-- a value of the class and the model's cell that it stands at -/
def vC (Zd : Nat → Nat) (K : KE) (st : CS) (ms : MS) (d p c : Nat) (L : List Nd) : Prop := treeOf Zd K st d p = some L ∧ rowIs ms c L ∧ L.length ≤ 24 ∧ c + L.length ≤ 1152
theorem tree_up : ∀ (d a : Nat) (L : List Nd), treeOf Zd K st d a = some L → treeOf Zd K st (d + 1) a = some L := by
  have hkids : ∀ (f g : Nat → Option (List Nd)), (∀ a L, f a = some L → g a = some L) → ∀ (n : Nat) (r : Option Nat) (xs : List (List Nd)), kidsOf K st f n r = some xs → kidsOf K st g n r = some xs := by
    intro f g hfg n
    induction n with
    | zero =>
      intro r xs h
      cases r with
      | none => exact h
      | some a => exact h
    | succ n ih =>
      intro r xs h
      cases r with
      | none => exact h
      | some a =>
        have h : ((f a).bind fun x => (gQ K st a 11 5).bind fun r => (kidsOf K st f n r).bind fun xs => some (x :: xs)) = some xs := h
        obtain ⟨x, e1, h⟩ := ob h
        obtain ⟨r, e2, h⟩ := ob h
        obtain ⟨ys, e3, h⟩ := ob h
        show ((g a).bind fun x => (gQ K st a 11 5).bind fun r => (kidsOf K st g n r).bind fun xs => some (x :: xs)) = some xs
        rw [hfg a x e1, Option.bind_some, e2, Option.bind_some, ih r ys e3, Option.bind_some]
        exact h
  intro d
  induction d with
  | zero => intro a L h; cases h
  | succ d ih =>
    intro a L h
    unfold treeOf at h
    obtain ⟨kd, e1, h⟩ := ob h
    obtain ⟨k, e2, h⟩ := ob h
    obtain ⟨o, e3, h⟩ := ob h
    obtain ⟨num, e4, h⟩ := ob h
    obtain ⟨ch, e5, h⟩ := ob h
    obtain ⟨c, e6, h⟩ := ob h
    obtain ⟨cs, e7, h⟩ := ob h
    obtain ⟨nm, e8, h⟩ := ob h
    obtain ⟨n, e9, h⟩ := ob h
    obtain ⟨ns, e10, h⟩ := ob h
    obtain ⟨fst, e11, h⟩ := ob h
    obtain ⟨xs, e12, h⟩ := ob h
    have e12' := hkids _ _ ih 64 fst xs e12
    unfold treeOf
    rw [e1, Option.bind_some, e2, Option.bind_some, e3, Option.bind_some, e4, Option.bind_some, e5, Option.bind_some, e6, Option.bind_some, e7, Option.bind_some, e8, Option.bind_some, e9, Option.bind_some, e10, Option.bind_some, e11, Option.bind_some, e12', Option.bind_some]
    obtain ⟨ho, hL⟩ := ite_of h
    rw [if_pos ⟨ho.1, fun _ => Nat.succ_pos _⟩]
    exact congrArg some hL
theorem tree_le {d e a : Nat} {L : List Nd} (h : treeOf Zd K st d a = some L) (he : d ≤ e) : treeOf Zd K st e a = some L := by
  obtain ⟨k, rfl⟩ : ∃ k, e = d + k := ⟨e - d, by omega⟩
  clear he
  induction k with
  | zero => exact h
  | succ k ih => exact tree_up _ _ _ ih
/-- what the finder has taken so far -/
def FR (Zd : Nat → Nat) (K : KE) (st : CS) (I : Nat → Int32) (Q : Nat → Nat → Option Nat) (ms : MS) : Prop := I 7 = ms.1 8 ∧ 0 ≤ (I 7).toInt ∧ (I 7).toInt ≤ 32 ∧ I 8 = ms.1 9 ∧ (I 8 = 0 ∨ (I 8 = 1 ∧ (I 7).toInt = 32)) ∧ ∀ i : Nat, (i : Int) < (I 7).toInt → ∃ p c d L, Q 3 i = some p ∧ (ms.2.2.1 9 i).toInt = (c : Nat) ∧ d ≤ 5 ∧ vC Zd K st ms d p c L
/-- a step of the finder -/
def FK (Zd : Nat → Nat) (K : KE) (st : CS) (q : Nat → Nat) (cw : Nat) (I : Nat → Int32) (A : Nat → Nat → Int32) (R : Nat → Option Nat) (Q : Nat → Nat → Option Nat) (ms : MS) (st1 : CS) (I1 : Nat → Int32) (Q1 : Nat → Nat → Option Nat) (ms1 : MS) : Prop :=
  Cx K st1 q cw I1 A R Q1 ∧ le K st st1 ∧ st1.1 = st.1 ∧ FR Zd K st1 I1 Q1 ms1 ∧ (∀ k, k ≠ 7 → k ≠ 8 → I1 k = I k) ∧ (∀ k, k ≠ 3 → Q1 k = Q k) ∧ (∀ k, k ≠ 8 → k ≠ 9 → ms1.1 k = ms.1 k) ∧ ms1.2.1 = ms.2.1 ∧ (∀ k, k ≠ 9 → ms1.2.2.1 k = ms.2.2.1 k) ∧ ms1.2.2.2 = ms.2.2.2 ∧ (ms.1 9 = 1 → ms1 = ms)
theorem FK.rf (h : Cx K st q cw I A R Q) (hf : FR Zd K st I Q ms) : FK Zd K st q cw I A R Q ms st I Q ms := ⟨h, le.rf K st, rfl, hf, fun _ _ _ => rfl, fun _ _ => rfl, fun _ _ _ => rfl, rfl, fun _ _ => rfl, rfl, fun _ => rfl⟩
theorem FK.tr {I1 I2 : Nat → Int32} {Q1 Q2 : Nat → Nat → Option Nat} {st2 : CS} {ms2 : MS} (h : FK Zd K st q cw I A R Q ms st1 I1 Q1 ms1) (h1 : FK Zd K st1 q cw I1 A R Q1 ms1 st2 I2 Q2 ms2) : FK Zd K st q cw I A R Q ms st2 I2 Q2 ms2 := by
  obtain ⟨a1, a2, a3, a4, a5, a6, a7, a8, a9, a10, a11⟩ := h
  obtain ⟨b1, b2, b3, b4, b5, b6, b7, b8, b9, b10, b11⟩ := h1
  refine ⟨b1, a2.tr b2, b3.trans a3, b4, fun k x y => (b5 k x y).trans (a5 k x y), fun k x => (b6 k x).trans (a6 k x), fun k x y => (b7 k x y).trans (a7 k x y), b8.trans a8, fun k x => (b9 k x).trans (a9 k x), b10.trans a10, fun e => ?_⟩
  have e1 := a11 e
  rw [e1] at b11
  exact b11 e
theorem vC.sr {d p c : Nat} {L : List Nd} (h : vC Zd K st ms d p c L) (hl : le K st st1) (hs : sr ms ms1) : vC Zd K st1 ms1 d p c L := ⟨hl.tree d p L h.1, h.2.1.same hs, h.2.2⟩
theorem FK.sr {I1 : Nat → Int32} {Q1 : Nat → Nat → Option Nat} (h : FK Zd K st q cw I A R Q ms st1 I1 Q1 ms1) : sr ms ms1 := ⟨h.2.2.2.2.2.2.2.2.1 1 (by decide), h.2.2.2.2.2.2.2.2.1 2 (by decide), by rw [h.2.2.2.2.2.2.2.2.2.1], by rw [h.2.2.2.2.2.2.2.2.2.1], by rw [h.2.2.2.2.2.2.2.2.2.1], by rw [h.2.2.2.2.2.2.2.2.2.1]⟩
/-- one value taken -/
theorem take_lock (hk : wk K) (h : Cx K st q cw I A R Q) (hf : FR Zd K st I Q ms) {d p c : Nat} {L : List Nd} (hd : d ≤ 5) (hv : vC Zd K st ms d p c L) {x : Int32} (hx : x.toInt = c) : ∃ st1 I1 Q1 ms1, c_Finder_take Zd K (q 5) (some p) st = some st1 ∧ m_select x ms = some ms1 ∧ FK Zd K st q cw I A R Q ms st1 I1 Q1 ms1 := by
  have N := nums
  obtain ⟨f1, f2, f3, f4, f5, f6⟩ := hf
  have hm5 := h.1.fl (i := 5) rfl
  by_cases h32 : (I 7).toInt = 32
  · have hlt : ¬ I 7 < 32 := fun e => by have := i32lt.mp e; omega
    have h8 : ms.1 8 = 32 := by rw [← f1]; exact i32eq (by omega)
    obtain ⟨s1, e1, e2, hF1⟩ := fw_5_7 h.1 1
    have c1 : Cx K s1 q cw (upd I 8 1) A R Q := ⟨hF1, by rw [e2]; exact h.2.1, by rw [e2]; exact nb_Rz h.2.2 hm5.1 hm5.2 rfl rfl⟩
    have l1 : le K st s1 := by rw [e2]; exact nb_le h.2.2 hm5.1 hm5.2 rfl
    refine ⟨s1, upd I 8 1, Q, (upd ms.1 9 1, ms.2.1, ms.2.2.1, ms.2.2.2), ?_, ?_, c1, l1, by rw [e2]; rfl, ⟨f1, f2, f3, rfl, Or.inr ⟨rfl, h32⟩, fun i hi => ?_⟩, fun k a b => upd_ne b, fun _ _ => rfl, fun k a b => upd_ne b, rfl, fun _ _ => rfl, rfl, fun e => ?_⟩
    · simp only [c_Finder_take, nl, fg_5_6 h.1, Option.bind_some, hlt, if_false, e1]
    · simp only [m_select, h8, if_true, Option.bind_some]
    · obtain ⟨p9, c9, d9, L9, g1, g2, g3, g4⟩ := f6 i hi
      exact ⟨p9, c9, d9, L9, g1, g2, g3, g4.sr l1 ⟨rfl, rfl, rfl, rfl, rfl, rfl⟩⟩
    · rw [upd_id e]
  · have hlt : I 7 < 32 := i32lt.mpr (by omega)
    have h8 : ¬ ms.1 8 = 32 := fun e => by rw [← f1] at e; exact h32 (by rw [e]; decide)
    have hI8 : I 8 = 0 := by
      rcases f5 with f5 | ⟨-, f5⟩
      · exact f5
      · exact absurd f5 h32
    have hin : vp_in (I 7) 32 := vp_of (by omega) (by omega)
    have hin3 : vp_in (ms.1 8) 33 := by rw [← f1]; exact vp_of (by omega) (by omega)
    have hob : ∀ b, some p = some b → ∃ fs, ob1 st b 11 fs := fun b e => by cases e; exact tree_ob hk hv.1
    obtain ⟨s1, e1, e2, hF1⟩ := fa_15 h.1 hin (some p) hob
    have hm15 := h.1.fl (i := 15) rfl
    have z1 : Rz K s1 q := by rw [e2]; exact nb_Rz h.2.2 hm15.1 hm15.2 rfl rfl
    have l1 : le K st s1 := by rw [e2]; exact nb_le h.2.2 hm15.1 hm15.2 rfl
    obtain ⟨s2, g1, g2, hF2⟩ := fw_5_6 hF1 (I 7 + 1)
    have hm5' := hF1.fl (i := 5) rfl
    have c2 : Cx K s2 q cw (upd I 7 (I 7 + 1)) A R (va_up Q 3 (va_up (Q 3) (I 7).toNatClampNeg (some p))) := ⟨hF2, by rw [g2, e2]; exact h.2.1, by rw [g2]; exact nb_Rz z1 hm5'.1 hm5'.2 rfl rfl⟩
    have l2 : le K st s2 := l1.tr (by rw [g2]; exact nb_le z1 hm5'.1 hm5'.2 rfl)
    have k7 : (I 7 + 1).toInt = (I 7).toInt + 1 := by rw [i32add (by omega) (by omega)]; omega
    have tn : (I 7).toNatClampNeg = (I 7).toInt.toNat := tnn
    refine ⟨s2, _, _, (upd ms.1 8 (ms.1 8 + 1), ms.2.1, va_up ms.2.2.1 9 (upd (ms.2.2.1 9) (ms.1 8).toNatClampNeg x), ms.2.2.2), ?_, ?_, c2, l2, by rw [g2, e2]; rfl, ⟨?_, ?_, ?_, f4, Or.inl hI8, fun i hi => ?_⟩, fun k a b => upd_ne a, fun k a => va_up_ne _ _ a, fun k a b => upd_ne a, rfl, fun k a => va_up_ne _ _ a, rfl, fun e => ?_⟩
    · simp only [c_Finder_take, nl, fg_5_6 h.1, Option.bind_some, hlt, if_true, fg_5_3 h.1, e1, fg_5_6 hF1, g1]
    · simp only [m_select, h8, if_false, ix_in hin3, Option.bind_some]
    · show I 7 + 1 = ms.1 8 + 1
      rw [f1]
    · show 0 ≤ (I 7 + 1).toInt; omega
    · show (I 7 + 1).toInt ≤ 32; omega
    · have hi : (i : Int) < (I 7 + 1).toInt := hi
      rw [va_up_self]
      dsimp only
      rw [va_up_self]
      by_cases e : i = (I 7).toInt.toNat
      · refine ⟨p, c, d, L, by rw [e, tn, va_up_self], by rw [e, ← f1, tn, upd_self]; exact hx, hd, hv.sr l2 ⟨by dsimp only; rw [va_up_ne _ _ (by decide)], by dsimp only; rw [va_up_ne _ _ (by decide)], rfl, rfl, rfl, rfl⟩⟩
      · obtain ⟨p9, c9, d9, L9, y1, y2, y3, y4⟩ := f6 i (by omega)
        exact ⟨p9, c9, d9, L9, by rw [va_up_ne _ _ (by rw [tn]; exact e)]; exact y1, by rw [upd_ne (by rw [← f1, tn]; exact e)]; exact y2, y3, y4.sr l2 ⟨by dsimp only; rw [va_up_ne _ _ (by decide)], by dsimp only; rw [va_up_ne _ _ (by decide)], rfl, rfl, rfl, rfl⟩⟩
    · rw [← f4, hI8] at e
      exact absurd e (by decide)
/-- the parts of a value and the cells that they stand at -/
def pc : Nat → List Kd → List (Kd × Nat)
  | _, [] => []
  | c, k :: ks => (k, c) :: pc (c + k.2.2.length) ks
theorem pc_ok {d : Nat} : ∀ (ks : List Kd) (c : Nat), rowF ms c (kL ks).flatten → (∀ k ∈ ks, treeOf Zd K st d k.2.1 = some k.2.2) → (kL ks).flatten.length ≤ 24 → c + (kL ks).flatten.length ≤ 1152 → ∀ z ∈ pc c ks, vC Zd K st ms d z.1.2.1 z.2 z.1.2.2 ∧ c ≤ z.2 := by
  intro ks
  induction ks with
  | nil => intro c _ _ _ _ z hz; cases hz
  | cons k ks ih =>
    intro c h1 h2 h3 h4 z hz
    rw [kL_cons, List.flatten_cons] at h1 h3 h4
    rw [List.length_append] at h3 h4
    rw [rowF_app] at h1
    rcases List.mem_cons.mp hz with rfl | hz
    · have ht := h2 k List.mem_cons_self
      exact ⟨⟨ht, ((rowF_of (tree_ok _ _ _ ht)).mp h1.1).1, (show k.2.2.length ≤ 24 by omega), (show c + k.2.2.length ≤ 1152 by omega)⟩, Nat.le_refl _⟩
    · obtain ⟨y1, y2⟩ := ih (c + k.2.2.length) h1.2 (fun y hy => h2 y (List.mem_cons_of_mem _ hy)) (by omega) (by omega) z hz
      exact ⟨y1, by omega⟩
/-- a value that has parts -/
theorem vC.node (hk : wk K) {d p c : Nat} {L : List Nd} (h : vC Zd K st ms (d + 1) p c L) : ∃ (o num : Int32) (cs ns : List Int32) (fst : Option Nat) (ks : List Kd), (∃ k fs, cA K st p = some (.inr (.inr (11, fs))) ∧ gQ K st p 11 0 = some (some k) ∧ gQ K st p 11 4 = some fst ∧ ordK Zd k = some o) ∧ Cs (fT Zd K st d) fst ks none ∧ ks.length ≤ 64 ∧ okV o num cs ns (kL ks) ∧ L = (o, 1 + (kL ks).flatten.length, num, cs, ns) :: (kL ks).flatten ∧ ms.2.2.1 1 c = o ∧ ms.2.2.1 2 c = Int32.ofNat L.length ∧ rowF ms (c + 1) (kL ks).flatten ∧ ∀ z ∈ pc (c + 1) ks, vC Zd K st ms d z.1.2.1 z.2 z.1.2.2 ∧ c + 1 ≤ z.2 := by
  obtain ⟨h1, h2, h3, h4⟩ := h
  obtain ⟨o, num, cs, ns, fst, nx, ks, ⟨k, c9, n, fs, u1, u2, u3, u4, u5, u6, u7, u8, u9⟩, hcs, hlen, hok, rfl⟩ := tree_node hk h1
  have h20 := h2
  rw [rowIs_iff] at h2
  obtain ⟨⟨g1, g2, -, -⟩, g3⟩ := h2
  rw [List.length_cons] at h3 h4
  refine ⟨o, num, cs, ns, fst, ks, ⟨k, fs, u1, u2, u6, u7⟩, hcs, hlen, hok, rfl, g1, ?_, g3, pc_ok ks (c + 1) g3 (fun k9 hk9 => ?_) (by omega) (by omega)⟩
  · rw [g2, List.length_cons, Nat.add_comm]
  · obtain ⟨nx9, h9⟩ := Cs.all ks fst none hcs k9 hk9
    exact h9.1
end FIND
