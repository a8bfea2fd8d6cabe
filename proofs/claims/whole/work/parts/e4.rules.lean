/-! The law's calls: the class's, with the model's world beside; the model's, with the class's world beside; what both keep. -/
section LWX
variable {p : Program} {l : Launch} {e : Env} {R : Room} {s : State} {m : MethodId} {args : Array Value} {below : List Frame} {meth : Method} {c : Code} {H : Heap} {locs : List Loc} {cells slots : Nat} {Q : State → Prop}
theorem W.sz {g : JFrame} (kk : s.heap.size ≤ H.size → H.size ≤ s.heap.size + cells → tot s.heap ≤ tot H → tot H ≤ tot s.heap + slots → W p l e R s m args below meth c H locs cells slots Q g) : W p l e R s m args below meth c H locs cells slots Q g := by
  intro T hT X
  obtain ⟨h1, h2, h3, h4, h5, h6⟩ := X.same
  have hh : (T.setVm s.vm).heap = H := hT
  have h2 : s.heap.size ≤ H.size := by rw [← hh]; exact h2
  have hsp := tot_split (s := s) (H := H) h2 (fun a c hc => by
    obtain ⟨c', g1, g2, g3, -⟩ := h6 a c hc
    exact ⟨c', by rw [← hh]; exact g1, g3⟩)
  have h3 : H.size ≤ s.heap.size + cells := by rw [← hh]; exact h3
  have h5 : ((H.toList.drop s.heap.size).map (fun c => c.slots.size)).sum ≤ slots := by rw [hh] at h5; exact h5
  exact kk h2 h3 (by omega) (by omega) T hT X
variable {cc bytes : ByteArray} {pc : Nat} {ls : Array Slot} {G : Gk} {Zd : Nat → Nat} {K : KE} {A : Nat → Prop} {nL maxL index n d : Nat} {As rest stk : List Value} {Ts : List Cond} {own : String} {y : MethodName} {ret : Option FieldType} {b ci : Nat} {st st0 : CS} {q9 : vw_C} {u9 : Unit} {rm : Room}
/-- the class's method, the model's world beside -/
theorem hV_x {r0 : Int32} {wm : va_W} (F : CallFix p m c cc nL s args Ts own) (hM : CT l y bytes maxL ret G Zd K d (.ref b :: As) st (hI G Zd r0 st0)) (cw : CallW R s args own y.cls index y bytes maxL ret (Cond.code y bytes maxL ret :: TB) (rmH Zd d st.1) (rmH Zd d st.1).cells (rmH Zd d st.1).slots n) (hE : cxH G Zd K A R s) (hz : szH Zd st.1 H) (hP : va_P G.1 vwCl (wH G.2 st ++ wm) H) (hD : va_D A (wH G.2 st ++ wm)) (hS : va_S A s.heap H locs) (hci : vwCl[ci]? = some q9) (hqc : q9.1 = y.cls) (ho : isO K st b ci = some u9) (hn : As.length = n) (hls : ls.size = nL) (hst : stk = As.reverse ++ .ref b :: rest) (hW : (rest.map fun v => v.category).sum ≤ 8) (hdg : decode cc pc = .ok (.invokevirtual index, 3))
    (kk : ∀ (H1 : Heap) (locs1 : List Loc) (cells1 slots1 : Nat), szH Zd st0.1 H1 → va_P G.1 vwCl (wH G.2 st0 ++ wm) H1 → va_D A (wH G.2 st0 ++ wm) → va_S A s.heap H1 locs1 → W p l e R s m args below meth c H1 locs1 cells1 slots1 Q (F0 m (pc + 3) ls (.int r0 :: rest))) : W p l e R s m args below meth c H locs cells slots Q (F0 m pc ls stk) := by
  have hw : wsH G Zd A s st H locs := ⟨hz, spl_P hP, spl_D hD, hS⟩
  have hF : ∀ q, va_A (wH G.2 st) st.1.1 q → A q := frH hw.1.1 hw.2.2.1 hw.2.2.2 hE.2.1
  have hrv := recvH (ci := ci) hE.1 hw.2.1 (hE.2.2.2.1.kept hw.2.2.2.2.1) hci ho
  rw [hqc] at hrv
  refine W.tm (fun z1 z2 => ?_)
  have hf : (H.size - s.heap.size) + (rmH Zd d st.1).cells ≤ R.cells ∧ (tot H - tot s.heap) + (rmH Zd d st.1).slots ≤ R.slots := by
    rw [hE.2.2.2.2.1, hE.2.2.2.2.2]
    show _ + (Zd 6 - st.1.1) ≤ _ ∧ _ + (Zd 7 - st.1.2) ≤ _
    obtain ⟨a1, a2, a3, a4⟩ := hz
    omega
  refine va_calli (va_runV F hM cw ⟨pcH_blind, hrv, fun U hU hW => ⟨rfl, pcH_at hE hw U hU hW⟩⟩ rfl hn hls hst (lv_room hW) hdg hf) hw.2.2.2 (fun q _ h => hF q h) hF (fun r u t H1 locs1 ht2 _ hp hB _ hk hS1 => ?_)
  subst hp
  obtain ⟨h1, h2⟩ := va_joinQ (X := wH G.2 st) (cx := wH G.2 st) (wr := []) (w1 := wH G.2 st0) (pl := wm) (H1 := H1) hP hD (List.range (wH G.2 st).length) [] (rg (wH G.2 st)) rfl rfl (fun i h => by cases h) (fun q g1 g2 => hk q g1 (by rw [← hz.1]; exact g2)) (by rw [hz.1]; exact hF) (by rw [← ht2]; exact hB.2.1) (by rw [hz.1]; exact hB.2.2)
  exact kk H1 locs1 _ _ (by rw [← ht2]; exact hB.1) h1 h2 hS1
/-- the model's method, the class's world beside: it makes nothing -/
theorem xM_i {S : Type} {w1 : S → va_W} {w0 pl : va_W} {x : Nat × Nat} {post : Int32 → S → Prop} (F : CallFix p m c cc nL s args Ts own) (hM : Met l y (Cond.code y bytes maxL ret :: TB) rm (va_Pc (.ref b :: As) (pcW G Zd w0 H.size)) (qI G post w1 (va_A w0 H.size)) 0 0 (va_A w0 H.size)) (cw : CallW R s args own y.cls index y bytes maxL ret (Cond.code y bytes maxL ret :: TB) rm 0 0 n) (hE : cxH G Zd K A R s) (hz : szH Zd x H) (hP : va_P G.1 vwCl (w0 ++ pl) H) (hD : va_D A (w0 ++ pl)) (hS : va_S A s.heap H locs) (hrv : ∃ cellB : Cell, H[b]? = some cellB ∧ cellB.vm.isStatics = false ∧ s.vm.findClass y.cls = some cellB.cls) (hn : As.length = n) (hls : ls.size = nL) (hst : stk = As.reverse ++ .ref b :: rest) (hW : (rest.map fun v => v.category).sum ≤ 8) (hdg : decode cc pc = .ok (.invokevirtual index, 3))
    (kk : ∀ (r : Int32) (u : S) (H1 : Heap) (locs1 : List Loc) (cells1 slots1 : Nat), post r u → va_P G.1 vwCl (w1 u ++ pl) H1 → va_D A (w1 u ++ pl) → va_S A s.heap H1 locs1 → H1.size = H.size → tot H1 ≤ tot H → W p l e R s m args below meth c H1 locs1 cells1 slots1 Q (F0 m (pc + 3) ls (.int r :: rest))) : W p l e R s m args below meth c H locs cells slots Q (F0 m pc ls stk) := by
  have hF := fr_all (spl_D hD) hS hE.2.1
  refine W.tm (fun z1 z2 => ?_)
  have hf : (H.size - s.heap.size) + 0 ≤ R.cells ∧ (tot H - tot s.heap) + 0 ≤ R.slots := by
    rw [hE.2.2.2.2.1, hE.2.2.2.2.2]
    obtain ⟨a1, a2, a3, a4⟩ := hz
    omega
  refine va_calli (va_runV F hM cw ⟨pc_blind, hrv, fun U hU hW => ⟨rfl, pc_at (spl_P hP) (spl_D hD) hE.1 hS hE.2.2.1.1 hF U hU hW⟩⟩ rfl hn hls hst (lv_room hW) hdg hf) hS (fun q _ h => hF q h) hF (fun r u t H1 locs1 ht _ hp hB hg hk hS1 => ?_)
  obtain ⟨h1, h2⟩ := va_joinQ (X := w0) (cx := w0) (wr := []) (pl := pl) hP hD (List.range w0.length) [] (rg w0) rfl rfl (fun i h => by cases h) hk hF (by rw [← ht]; exact hB.1) hB.2
  refine W.sz (fun a1 a2 a3 a4 => ?_)
  exact kk r u H1 locs1 _ _ hp h1 h2 hS1 (by omega) (by omega)
end LWX
theorem Rv_tot {Zd : Nat → Nat} {K : KE} {st : CS} {ms : MS} {q : Nat → Nat} {cw : Nat} {I : Nat → Int32} {A : Nat → Nat → Int32} {R : Nat → Option Nat} {Q : Nat → Nat → Option Nat} (h : Rv Zd K st ms q cw I A R Q) (n : Nat) : Rv Zd K ((st.1.1, n), st.2) ms q cw I A R Q := by
  have hl : le K st ((st.1.1, n), st.2) := ⟨fun _ _ _ _ h => h, fun _ _ _ _ => rfl⟩
  obtain ⟨hF, hw, hT, hS, hP, hk, hd, ⟨r1, r2, r3, r4⟩, ho, hb, hz⟩ := h
  refine ⟨hF, hw, hT, hS, hP, hk, fun j hj i hi => (hd j hj i hi).le hl, ⟨r1, r2, r3, fun i hi => ?_⟩, ho, hb, hz⟩
  obtain ⟨a1, a, a2, a3⟩ := r4 i hi
  exact ⟨a1, a, a2, a3.le hl⟩
/-- class and model stand alike, with room for n calls more -/
def LI (Zd : Nat → Nat) (K : KE) (a1 n : Nat) (st : CS) (ms : MS) : Prop := ∃ (q : Nat → Nat) (cw : Nat) (I : Nat → Int32) (A : Nat → Nat → Int32) (R : Nat → Option Nat) (Q : Nat → Nat → Option Nat), Rv Zd K st ms q cw I A R Q ∧ q 0 = a1 ∧ cw ≤ 2402 ∧ st.1.1 + 2402 + n * 914 ≤ Zd 6 + cw ∧ st.1.2 + 4804 + n * 5800 ≤ Zd 7 + 2 * cw
section LIS
variable {Zd : Nat → Nat} {K : KE} {a1 n : Nat} {st : CS} {ms : MS}
set_option maxRecDepth 100000 in
theorem LI.less (h : LI Zd K a1 (n + 1) st ms) : LI Zd K a1 n st ms := by
  obtain ⟨q, cw, I, A, R, Q, hR, h0, h1, h2, h3⟩ := h
  exact ⟨q, cw, I, A, R, Q, hR, h0, h1, by omega, by omega⟩
set_option maxRecDepth 100000 in
theorem LI.tot (h : LI Zd K a1 n st ms) {x : Nat} (hx : x ≤ st.1.2) : LI Zd K a1 n ((st.1.1, x), st.2) ms := by
  obtain ⟨q, cw, I, A, R, Q, hR, h0, h1, h2, h3⟩ := h
  exact ⟨q, cw, I, A, R, Q, Rv_tot hR x, h0, h1, h2, by show x + 4804 + n * 5800 ≤ _; omega⟩
set_option maxRecDepth 100000 in
theorem LI.isO (h : LI Zd K a1 n st ms) : isO K st a1 0 = some () := by
  obtain ⟨q, cw, I, A, R, Q, hR, rfl, -⟩ := h
  have h1 := hR.1.1 _ (List.mem_of_getElem? (i := 0) rfl)
  exact isO_cA (by rw [cA_w h1.1, h1.2])
set_option maxRecDepth 100000 in
theorem li_type (hk : kc Zd K) (ht : kt Zd K) (h : LI Zd K a1 (n + 1) st ms) (x : Int32) : ∃ r st1 ms1, c_PagedValues_type Zd K a1 x st = some (r, st1) ∧ m_type x ms = some (r, ms1) ∧ LI Zd K a1 n st1 ms1 := by
  obtain ⟨q, cw, I, A, R, Q, hR, rfl, h1, h2, h3⟩ := h
  obtain ⟨r, st1, ms1, I1, A1, e1, e2, e3, hR1⟩ := sim_type hR x
  exact ⟨r, st1, ms1, e1, e2, q, cw, I1, A1, R, Q, hR1, rfl, h1, by rw [e3]; omega, by rw [e3]; omega⟩
set_option maxRecDepth 100000 in
theorem li_put (hk : kc Zd K) (ht : kt Zd K) (h : LI Zd K a1 (n + 1) st ms) (x : Int32) : ∃ r st1 ms1, c_PagedValues_put Zd K a1 x st = some (r, st1) ∧ m_put x ms = some (r, ms1) ∧ LI Zd K a1 n st1 ms1 := by
  obtain ⟨q, cw, I, A, R, Q, hR, rfl, h1, h2, h3⟩ := h
  obtain ⟨r, st1, ms1, I1, A1, Q1, e1, e2, e3, e4, hR1⟩ := sim_put hR hk (by omega) (by omega) x
  exact ⟨r, st1, ms1, e1, e2, q, cw, I1, A1, R, Q1, hR1, rfl, h1, by omega, by omega⟩
set_option maxRecDepth 100000 in
theorem li_patch (hk : kc Zd K) (ht : kt Zd K) (h : LI Zd K a1 (n + 1) st ms) (x : Int32) : ∃ r st1 ms1, c_PagedValues_patch Zd K a1 x st = some (r, st1) ∧ m_patch x ms = some (r, ms1) ∧ LI Zd K a1 n st1 ms1 := by
  obtain ⟨q, cw, I, A, R, Q, hR, rfl, h1, h2, h3⟩ := h
  obtain ⟨r, st1, ms1, I1, A1, R1, Q1, e1, e2, e3, e4, hR1⟩ := sim_patch hR hk (by omega) (by omega) x
  exact ⟨r, st1, ms1, e1, e2, q, cw, I1, A1, R1, Q1, hR1, rfl, h1, by omega, by omega⟩
set_option maxRecDepth 100000 in
theorem li_remove (hk : kc Zd K) (ht : kt Zd K) (h : LI Zd K a1 (n + 1) st ms) (x : Int32) : ∃ r st1 ms1, c_PagedValues_remove Zd K a1 x st = some (r, st1) ∧ m_remove x ms = some (r, ms1) ∧ LI Zd K a1 n st1 ms1 := by
  obtain ⟨q, cw, I, A, R, Q, hR, rfl, h1, h2, h3⟩ := h
  obtain ⟨r, st1, ms1, I1, A1, Q1, e1, e2, e3, hR1⟩ := sim_remove hR hk.2.2 x
  exact ⟨r, st1, ms1, e1, e2, q, cw, I1, A1, R, Q1, hR1, rfl, h1, by rw [e3]; omega, by rw [e3]; omega⟩
set_option maxRecDepth 100000 in
theorem li_query (hk : kc Zd K) (ht : kt Zd K) (h : LI Zd K a1 (n + 1) st ms) (x y : Int32) : ∃ r st1 ms1, c_PagedValues_query Zd K a1 x y st = some (r, st1) ∧ m_query x y ms = some (r, ms1) ∧ LI Zd K a1 n st1 ms1 := by
  obtain ⟨q, cw, I, A, R, Q, hR, rfl, h1, h2, h3⟩ := h
  obtain ⟨r, st1, ms1, I1, A1, R1, Q1, e1, e2, e3, e4, hR1⟩ := sim_query hk hR (by omega) (by omega) x y
  exact ⟨r, st1, ms1, e1, e2, q, cw, I1, A1, R1, Q1, hR1, rfl, h1, by omega, by omega⟩
set_option maxRecDepth 100000 in
theorem li_result (hk : kc Zd K) (ht : kt Zd K) (h : LI Zd K a1 (n + 1) st ms) (x : Int32) : ∃ r, c_PagedValues_result Zd K a1 x st = some r ∧ m_result x ms = some r ∧ LI Zd K a1 n st ms := by
  have h9 := h.less
  obtain ⟨q, cw, I, A, R, Q, hR, rfl, h1, h2, h3⟩ := h
  obtain ⟨r, e1, e2⟩ := sim_result hR x
  exact ⟨r, e1, e2, h9⟩
set_option maxRecDepth 100000 in
theorem li_show (hk : kc Zd K) (ht : kt Zd K) (h : LI Zd K a1 (n + 1) st ms) (x : Int32) : ∃ r st1 ms1, c_PagedValues_show Zd K a1 x st = some (r, st1) ∧ m_show x ms = some (r, ms1) ∧ LI Zd K a1 n st1 ms1 := by
  obtain ⟨q, cw, I, A, R, Q, hR, rfl, h1, h2, h3⟩ := h
  obtain ⟨r, st1, ms1, q1, cw1, I1, A1, e1, e2, ⟨w1, w2, w3, w4, w5⟩, hR1⟩ := sim_show hR hk ht h1 ⟨by omega, by omega⟩ x
  exact ⟨r, st1, ms1, e1, e2, q1, cw1, I1, A1, R, Q, hR1, w1 0 (by decide), w3, by omega, by omega⟩
set_option maxRecDepth 100000 in
theorem li_print (hk : kc Zd K) (ht : kt Zd K) (h : LI Zd K a1 (n + 1) st ms) (x y : Int32) : ∃ r st1 ms1, c_PagedValues_print Zd K a1 x y st = some (r, st1) ∧ m_print x y ms = some (r, ms1) ∧ LI Zd K a1 n st1 ms1 := by
  obtain ⟨q, cw, I, A, R, Q, hR, rfl, h1, h2, h3⟩ := h
  obtain ⟨r, st1, ms1, q1, cw1, I1, A1, e1, e2, ⟨w1, w2, w3, w4, w5⟩, hR1⟩ := sim_print hR hk ht h1 ⟨by omega, by omega⟩ x y
  exact ⟨r, st1, ms1, e1, e2, q1, cw1, I1, A1, R, Q, hR1, w1 0 (by decide), w3, by omega, by omega⟩
set_option maxRecDepth 100000 in
theorem li_output (hk : kc Zd K) (ht : kt Zd K) (h : LI Zd K a1 (n + 1) st ms) (x : Int32) : ∃ r, c_PagedValues_output Zd K a1 x st = some r ∧ m_output x ms = some r ∧ LI Zd K a1 n st ms := by
  have h9 := h.less
  obtain ⟨q, cw, I, A, R, Q, hR, rfl, h1, h2, h3⟩ := h
  obtain ⟨r, e1, e2⟩ := sim_output hR x
  exact ⟨r, e1, e2, h9⟩
set_option maxRecDepth 100000 in
theorem li_open (hk : kc Zd K) (ht : kt Zd K) (h : LI Zd K a1 (n + 1) st ms) : ∃ r st1 ms1, c_PagedValues_open Zd K a1 st = some (r, st1) ∧ m_open ms = some (r, ms1) ∧ LI Zd K a1 n st1 ms1 := by
  obtain ⟨q, cw, I, A, R, Q, hR, rfl, h1, h2, h3⟩ := h
  obtain ⟨r, st1, ms1, A1, e1, e2, e3, hR1⟩ := sim_open hR
  exact ⟨r, st1, ms1, e1, e2, q, cw, I, A1, R, Q, hR1, rfl, h1, by rw [e3]; omega, by rw [e3]; omega⟩
set_option maxRecDepth 100000 in
theorem li_close (hk : kc Zd K) (ht : kt Zd K) (h : LI Zd K a1 (n + 1) st ms) (x : Int32) : ∃ r st1 ms1, c_PagedValues_close Zd K a1 x st = some (r, st1) ∧ m_close x ms = some (r, ms1) ∧ LI Zd K a1 n st1 ms1 := by
  obtain ⟨q, cw, I, A, R, Q, hR, rfl, h1, h2, h3⟩ := h
  obtain ⟨r, st1, ms1, A1, e1, e2, e3, hR1⟩ := sim_close hR x
  exact ⟨r, st1, ms1, e1, e2, q, cw, I, A1, R, Q, hR1, rfl, h1, by rw [e3]; omega, by rw [e3]; omega⟩
set_option maxRecDepth 100000 in
theorem li_fuse (hk : kc Zd K) (ht : kt Zd K) (h : LI Zd K a1 (n + 1) st ms) (x : Int32) : ∃ r st1 ms1, c_PagedValues_fuse Zd K a1 x st = some (r, st1) ∧ m_fuse x ms = some (r, ms1) ∧ LI Zd K a1 n st1 ms1 := by
  obtain ⟨q, cw, I, A, R, Q, hR, rfl, h1, h2, h3⟩ := h
  obtain ⟨r, st1, ms1, I1, e1, e2, e3, hR1⟩ := sim_fuse hR x
  exact ⟨r, st1, ms1, e1, e2, q, cw, I1, A, R, Q, hR1, rfl, h1, by rw [e3]; omega, by rw [e3]; omega⟩
set_option maxRecDepth 100000 in
theorem li_restart (hk : kc Zd K) (ht : kt Zd K) (h : LI Zd K a1 (n + 1) st ms) : ∃ r st1 ms1, c_PagedValues_restart Zd K a1 st = some (r, st1) ∧ m_restart ms = some (r, ms1) ∧ LI Zd K a1 n st1 ms1 := by
  obtain ⟨q, cw, I, A, R, Q, hR, rfl, h1, h2, h3⟩ := h
  obtain ⟨r, st1, ms1, I1, e1, e2, e3, hR1⟩ := sim_restart hR
  exact ⟨r, st1, ms1, e1, e2, q, cw, I1, A, R, Q, hR1, rfl, h1, by rw [e3]; omega, by rw [e3]; omega⟩
set_option maxRecDepth 100000 in
theorem li_page (hk : kc Zd K) (ht : kt Zd K) (h : LI Zd K a1 (n + 1) st ms) (x : Int32) : ∃ r, c_PagedValues_page Zd K a1 x st = some r ∧ m_page x ms = some r ∧ LI Zd K a1 n st ms := by
  have h9 := h.less
  obtain ⟨q, cw, I, A, R, Q, hR, rfl, h1, h2, h3⟩ := h
  obtain ⟨r, e1, e2⟩ := sim_page hR x
  exact ⟨r, e1, e2, h9⟩
set_option maxRecDepth 100000 in
theorem li_size (hk : kc Zd K) (ht : kt Zd K) (h : LI Zd K a1 (n + 1) st ms) (x : Int32) : ∃ r, c_PagedValues_size Zd K a1 x st = some r ∧ m_size x ms = some r ∧ LI Zd K a1 n st ms := by
  have h9 := h.less
  obtain ⟨q, cw, I, A, R, Q, hR, rfl, h1, h2, h3⟩ := h
  obtain ⟨r, e1, e2⟩ := sim_size hR x
  exact ⟨r, e1, e2, h9⟩
/-- where the law stands between two calls -/
def LSt (G : Gk) (Zd : Nat → Nat) (K : KE) (A : Nat → Prop) (s : State) (a1 : Nat) (qm : Nat → Nat) (n : Nat) (st : CS) (ms : MS) (H : Heap) (locs : List Loc) : Prop := szH Zd st.1 H ∧ va_P G.1 vwCl (wH G.2 st ++ wMs qm G.2 ms) H ∧ va_D A (wH G.2 st ++ wMs qm G.2 ms) ∧ va_S A s.heap H locs ∧ LI Zd K a1 n st ms
set_option maxRecDepth 100000 in
theorem LSt.of {G : Gk} {Zd : Nat → Nat} {K : KE} {A : Nat → Prop} {s : State} {a1 n : Nat} {qm : Nat → Nat} {st : CS} {ms : MS} {H H1 : Heap} {locs : List Loc} (hz : szH Zd st.1 H) (hP : va_P G.1 vwCl (wMs qm G.2 ms ++ wH G.2 st) H1) (hD : va_D A (wMs qm G.2 ms ++ wH G.2 st)) (hS : va_S A s.heap H1 locs) (h1 : H1.size = H.size) (h2 : tot H1 ≤ tot H) (hL : LI Zd K a1 n st ms) : LSt G Zd K A s a1 qm n ((st.1.1, tot H1), st.2) ms H1 locs := by
  obtain ⟨z1, z2, z3, z4⟩ := hz
  exact ⟨⟨h1.trans z1, rfl, z3, by show tot H1 ≤ _; omega⟩, sw_P hP, sw_D hD, hS, hL.tot (by omega)⟩
set_option maxRecDepth 100000 in
theorem vi_in {i L : Nat} (hi : i + 3 ≤ L) (hL : L ≤ 1536) : vp_in (Int32.ofNat i) L ∧ vp_in (Int32.ofNat i + 1) L ∧ vp_in (Int32.ofNat i + 2) L := by
  have N := nums
  have e0 : (Int32.ofNat i).toInt = i := ofNat_i (by omega)
  have e1 : (Int32.ofNat i + 1).toInt = i + 1 := by rw [i32add (by omega) (by omega)]; omega
  have e2 : (Int32.ofNat i + 2).toInt = i + 2 := by rw [i32add (by omega) (by omega)]; omega
  exact ⟨vp_of (by omega) (by omega), vp_of (by omega) (by omega), vp_of (by omega) (by omega)⟩
end LIS
