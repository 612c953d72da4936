/-! ONE ROUND OF THE LAW, from what the two objects answer -/
def qS_op (d kx nx km nm : Nat) (as : List Int32) (REL : qm_H → qm_H → Prop) (hX hM : qm_H) : Prop := ∃ (v : Int32) (hX1 hM1 : qm_H), qm_Rn d kx 0 (qm_el nx (.ref 0 :: as.map Value.int)) [] hX (some (.int v), hX1) ∧ qm_Rn d km 0 (qm_el nm (.ref 0 :: as.map Value.int)) [] hM (some (.int v), hM1) ∧ REL hX1 hM1 ∧ hX1.1 = hX.1 ∧ hM1.1 = hM.1
def qS_wf (h : qm_H) (ci : Nat) : Prop := (∀ a j r, a < h.1.length → h.2.2 a j = some r → r < h.1.length) ∧ h.1.length ≤ 1000000 ∧ h.1[0]? = some (0, ci)
def qL_case (p : Program) (l : Launch) (e : Env) (R : Room) (s : State) (m : MethodId) (args : Array Value) (below : List Frame) (meth : Method) (c : Code) (Q : State → Prop) (D : va_G) (G : ClassId × ClassId × ClassId) (b L X M o cu su : Nat) (REL : qm_H → qm_H → Prop) (pc : Nat) : Prop :=
  ∀ (I : Nat) (H : Heap) (Ax Am : Nat → Prop) (ax am : Nat → Nat) (hX0 hM0 : qm_H) (co : Cell) (cells slots : Nat) (ls : Array Slot), I + 6 ≤ L → qL_St D G s H Ax ax hX0 Am am hM0 o co → REL hX0 hM0 → ax 0 = X → am 0 = M → lv_has ls 7 (qL_lv b X M o I) → cells + cu ≤ R.cells → slots + su ≤ R.slots →
    (∀ (H' : Heap) (Ax' Am' : Nat → Prop) (ax' am' : Nat → Nat) (hX' hM' : qm_H) (co' : Cell) (ls' : Array Slot), qL_St D G s H' Ax' ax' hX' Am' am' hM' o co' → REL hX' hM' → ax' 0 = X → am' 0 = M → lv_has ls' 7 (qL_lv b X M o I) → W p l e R s m args below meth c H' [] (cells + cu) (slots + su) Q (F0 m 1084 ls' [])) →
    W p l e R s m args below meth c H [] cells slots Q (F0 m pc ls [])
section QLT
variable {p : Program} {l : Launch} {e : Env} {R : Room} {s : State} {m : MethodId} {args : Array Value} {below : List Frame} {meth : Method} {c : Code} {Q : State → Prop}
variable {D : va_G} {G : ClassId × ClassId × ClassId} {o b L X M cu su d K0 K1 : Nat} {xs : Nat → Int32} {REL : qm_H → qm_H → Prop}
theorem case_feed (hx : p.tables.exec = Jvm.exec) (hb : c.code = cL_law) (hml : c.maxLocals = 7) (hown : s.vm.findClass RL = some m.cls) (hts : ∀ w ∈ qm_T, w.before args s = true) (hnw : qm_nw s) (hK : va_K D vwCl (qm_tys G) s) (hZ : qL_Z K0 K1 s) (hX : va_X b L xs s s.heap) (hbl : b < s.heap.size) (hL : L ≤ 3072) (hRf : d + 2 ≤ R.frames) (hRl : 40 * d + 80 ≤ R.locals) (hREL : ∀ hX hM, REL hX hM → qS_wf hX 8 ∧ qS_wf hM 9) (o_feed : ∀ (hX hM : qm_H) (a1 a2 a3 a4 a5 : Int32), REL hX hM → qS_op d 1 6 33 6 [a1, a2, a3, a4, a5] REL hX hM) : qL_case p l e R s m args below meth c Q D G b L X M o cu su REL 172 := by
  intro I H Ax Am ax am hX0 hM0 co cells slots ls hI S hR h1 h2 hl hC hSl kk
  obtain ⟨⟨x1, x2, x3⟩, ⟨m1, m2, m3⟩⟩ := hREL hX0 hM0 hR
  obtain ⟨v, hX1, hM1, rx, rm, hR1, ex, em⟩ := o_feed hX0 hM0 (xs (I + 1)) (xs (I + 2)) (xs (I + 3)) (xs (I + 4)) (xs (I + 5)) hR
  subst h1 h2
  refine law_feed (v := v) (hX1 := hX1) (hM1 := hM1) (Sx := 0) (xs := xs) hx hb hml hown hts hnw hK hZ hX hbl (by omega) hI hl S (qL_closed x1) x2 m1 m2 x3 m3 rx rm hRf hRl (by rw [ex, em, Nat.sub_self, Nat.sub_self]; omega) (by rw [ex, em, Nat.sub_self, Nat.sub_self]; omega) ?_
  intro H' Ax' Am' ax' am' S' e1 e2
  have f1 : ax' 0 = ax 0 := by rw [e1]; exact qL_ad_lo (List.getElem?_eq_some_iff.mp x3).1
  exact qL_mono (by rw [ex, em, Nat.sub_self, Nat.sub_self]; omega) (by rw [ex, em, Nat.sub_self, Nat.sub_self]; omega) (kk H' Ax' Am' ax' am' hX1 hM1 co ls S' hR1 f1 e2 hl)
theorem case_has (hx : p.tables.exec = Jvm.exec) (hb : c.code = cL_law) (hml : c.maxLocals = 7) (hown : s.vm.findClass RL = some m.cls) (hts : ∀ w ∈ qm_T, w.before args s = true) (hnw : qm_nw s) (hK : va_K D vwCl (qm_tys G) s) (hZ : qL_Z K0 K1 s) (hX : va_X b L xs s s.heap) (hbl : b < s.heap.size) (hL : L ≤ 3072) (hRf : d + 2 ≤ R.frames) (hRl : 40 * d + 80 ≤ R.locals) (hREL : ∀ hX hM, REL hX hM → qS_wf hX 8 ∧ qS_wf hM 9) (o_has : ∀ (hX hM : qm_H) (a1 : Int32), REL hX hM → qS_op d 3 3 77 2 [a1] REL hX hM) : qL_case p l e R s m args below meth c Q D G b L X M o cu su REL 270 := by
  intro I H Ax Am ax am hX0 hM0 co cells slots ls hI S hR h1 h2 hl hC hSl kk
  obtain ⟨⟨x1, x2, x3⟩, ⟨m1, m2, m3⟩⟩ := hREL hX0 hM0 hR
  obtain ⟨v, hX1, hM1, rx, rm, hR1, ex, em⟩ := o_has hX0 hM0 (xs (I + 1)) hR
  subst h1 h2
  refine law_has (v := v) (hX1 := hX1) (hM1 := hM1) (Sx := 0) (xs := xs) hx hb hml hown hts hnw hK hZ hX hbl (by omega) hI hl S (qL_closed x1) x2 m1 m2 x3 m3 rx rm hRf hRl (by rw [ex, em, Nat.sub_self, Nat.sub_self]; omega) (by rw [ex, em, Nat.sub_self, Nat.sub_self]; omega) ?_
  intro H' Ax' Am' ax' am' S' e1 e2
  have f1 : ax' 0 = ax 0 := by rw [e1]; exact qL_ad_lo (List.getElem?_eq_some_iff.mp x3).1
  exact qL_mono (by rw [ex, em, Nat.sub_self, Nat.sub_self]; omega) (by rw [ex, em, Nat.sub_self, Nat.sub_self]; omega) (kk H' Ax' Am' ax' am' hX1 hM1 co ls S' hR1 f1 e2 hl)
theorem case_hole (hx : p.tables.exec = Jvm.exec) (hb : c.code = cL_law) (hml : c.maxLocals = 7) (hown : s.vm.findClass RL = some m.cls) (hts : ∀ w ∈ qm_T, w.before args s = true) (hnw : qm_nw s) (hK : va_K D vwCl (qm_tys G) s) (hZ : qL_Z K0 K1 s) (hX : va_X b L xs s s.heap) (hbl : b < s.heap.size) (hL : L ≤ 3072) (hRf : d + 2 ≤ R.frames) (hRl : 40 * d + 80 ≤ R.locals) (hREL : ∀ hX hM, REL hX hM → qS_wf hX 8 ∧ qS_wf hM 9) (o_hole : ∀ (hX hM : qm_H) (a1 a2 : Int32), REL hX hM → qS_op d 4 3 87 3 [a1, a2] REL hX hM) : qL_case p l e R s m args below meth c Q D G b L X M o cu su REL 295 := by
  intro I H Ax Am ax am hX0 hM0 co cells slots ls hI S hR h1 h2 hl hC hSl kk
  obtain ⟨⟨x1, x2, x3⟩, ⟨m1, m2, m3⟩⟩ := hREL hX0 hM0 hR
  obtain ⟨v, hX1, hM1, rx, rm, hR1, ex, em⟩ := o_hole hX0 hM0 (xs (I + 1)) (xs (I + 2)) hR
  subst h1 h2
  refine law_hole (v := v) (hX1 := hX1) (hM1 := hM1) (Sx := 0) (xs := xs) hx hb hml hown hts hnw hK hZ hX hbl (by omega) hI hl S (qL_closed x1) x2 m1 m2 x3 m3 rx rm hRf hRl (by rw [ex, em, Nat.sub_self, Nat.sub_self]; omega) (by rw [ex, em, Nat.sub_self, Nat.sub_self]; omega) ?_
  intro H' Ax' Am' ax' am' S' e1 e2
  have f1 : ax' 0 = ax 0 := by rw [e1]; exact qL_ad_lo (List.getElem?_eq_some_iff.mp x3).1
  exact qL_mono (by rw [ex, em, Nat.sub_self, Nat.sub_self]; omega) (by rw [ex, em, Nat.sub_self, Nat.sub_self]; omega) (kk H' Ax' Am' ax' am' hX1 hM1 co ls S' hR1 f1 e2 hl)
theorem case_value (hx : p.tables.exec = Jvm.exec) (hb : c.code = cL_law) (hml : c.maxLocals = 7) (hown : s.vm.findClass RL = some m.cls) (hts : ∀ w ∈ qm_T, w.before args s = true) (hnw : qm_nw s) (hK : va_K D vwCl (qm_tys G) s) (hZ : qL_Z K0 K1 s) (hX : va_X b L xs s s.heap) (hbl : b < s.heap.size) (hL : L ≤ 3072) (hRf : d + 2 ≤ R.frames) (hRl : 40 * d + 80 ≤ R.locals) (hREL : ∀ hX hM, REL hX hM → qS_wf hX 8 ∧ qS_wf hM 9) (o_value : ∀ (hX hM : qm_H) (a1 a2 : Int32), REL hX hM → qS_op d 5 3 88 3 [a1, a2] REL hX hM) : qL_case p l e R s m args below meth c Q D G b L X M o cu su REL 332 := by
  intro I H Ax Am ax am hX0 hM0 co cells slots ls hI S hR h1 h2 hl hC hSl kk
  obtain ⟨⟨x1, x2, x3⟩, ⟨m1, m2, m3⟩⟩ := hREL hX0 hM0 hR
  obtain ⟨v, hX1, hM1, rx, rm, hR1, ex, em⟩ := o_value hX0 hM0 (xs (I + 1)) (xs (I + 2)) hR
  subst h1 h2
  refine law_value (v := v) (hX1 := hX1) (hM1 := hM1) (Sx := 0) (xs := xs) hx hb hml hown hts hnw hK hZ hX hbl (by omega) hI hl S (qL_closed x1) x2 m1 m2 x3 m3 rx rm hRf hRl (by rw [ex, em, Nat.sub_self, Nat.sub_self]; omega) (by rw [ex, em, Nat.sub_self, Nat.sub_self]; omega) ?_
  intro H' Ax' Am' ax' am' S' e1 e2
  have f1 : ax' 0 = ax 0 := by rw [e1]; exact qL_ad_lo (List.getElem?_eq_some_iff.mp x3).1
  exact qL_mono (by rw [ex, em, Nat.sub_self, Nat.sub_self]; omega) (by rw [ex, em, Nat.sub_self, Nat.sub_self]; omega) (kk H' Ax' Am' ax' am' hX1 hM1 co ls S' hR1 f1 e2 hl)
theorem case_cost (hx : p.tables.exec = Jvm.exec) (hb : c.code = cL_law) (hml : c.maxLocals = 7) (hown : s.vm.findClass RL = some m.cls) (hts : ∀ w ∈ qm_T, w.before args s = true) (hnw : qm_nw s) (hK : va_K D vwCl (qm_tys G) s) (hZ : qL_Z K0 K1 s) (hX : va_X b L xs s s.heap) (hbl : b < s.heap.size) (hL : L ≤ 3072) (hRf : d + 2 ≤ R.frames) (hRl : 40 * d + 80 ≤ R.locals) (hREL : ∀ hX hM, REL hX hM → qS_wf hX 8 ∧ qS_wf hM 9) (o_cost : ∀ (hX hM : qm_H) (a1 : Int32), REL hX hM → qS_op d 6 2 89 2 [a1] REL hX hM) : qL_case p l e R s m args below meth c Q D G b L X M o cu su REL 369 := by
  intro I H Ax Am ax am hX0 hM0 co cells slots ls hI S hR h1 h2 hl hC hSl kk
  obtain ⟨⟨x1, x2, x3⟩, ⟨m1, m2, m3⟩⟩ := hREL hX0 hM0 hR
  obtain ⟨v, hX1, hM1, rx, rm, hR1, ex, em⟩ := o_cost hX0 hM0 (xs (I + 1)) hR
  subst h1 h2
  refine law_cost (v := v) (hX1 := hX1) (hM1 := hM1) (Sx := 0) (xs := xs) hx hb hml hown hts hnw hK hZ hX hbl (by omega) hI hl S (qL_closed x1) x2 m1 m2 x3 m3 rx rm hRf hRl (by rw [ex, em, Nat.sub_self, Nat.sub_self]; omega) (by rw [ex, em, Nat.sub_self, Nat.sub_self]; omega) ?_
  intro H' Ax' Am' ax' am' S' e1 e2
  have f1 : ax' 0 = ax 0 := by rw [e1]; exact qL_ad_lo (List.getElem?_eq_some_iff.mp x3).1
  exact qL_mono (by rw [ex, em, Nat.sub_self, Nat.sub_self]; omega) (by rw [ex, em, Nat.sub_self, Nat.sub_self]; omega) (kk H' Ax' Am' ax' am' hX1 hM1 co ls S' hR1 f1 e2 hl)
theorem case_verdict (hx : p.tables.exec = Jvm.exec) (hb : c.code = cL_law) (hml : c.maxLocals = 7) (hown : s.vm.findClass RL = some m.cls) (hts : ∀ w ∈ qm_T, w.before args s = true) (hnw : qm_nw s) (hK : va_K D vwCl (qm_tys G) s) (hZ : qL_Z K0 K1 s) (hX : va_X b L xs s s.heap) (hbl : b < s.heap.size) (hL : L ≤ 3072) (hRf : d + 2 ≤ R.frames) (hRl : 40 * d + 80 ≤ R.locals) (hREL : ∀ hX hM, REL hX hM → qS_wf hX 8 ∧ qS_wf hM 9) (o_verdict : ∀ (hX hM : qm_H) (a1 a2 : Int32), REL hX hM → qS_op d 7 3 105 3 [a1, a2] REL hX hM) : qL_case p l e R s m args below meth c Q D G b L X M o cu su REL 450 := by
  intro I H Ax Am ax am hX0 hM0 co cells slots ls hI S hR h1 h2 hl hC hSl kk
  obtain ⟨⟨x1, x2, x3⟩, ⟨m1, m2, m3⟩⟩ := hREL hX0 hM0 hR
  obtain ⟨v, hX1, hM1, rx, rm, hR1, ex, em⟩ := o_verdict hX0 hM0 (xs (I + 1)) (xs (I + 2)) hR
  subst h1 h2
  refine law_verdict (v := v) (hX1 := hX1) (hM1 := hM1) (Sx := 0) (xs := xs) hx hb hml hown hts hnw hK hZ hX hbl (by omega) hI hl S (qL_closed x1) x2 m1 m2 x3 m3 rx rm hRf hRl (by rw [ex, em, Nat.sub_self, Nat.sub_self]; omega) (by rw [ex, em, Nat.sub_self, Nat.sub_self]; omega) ?_
  intro H' Ax' Am' ax' am' S' e1 e2
  have f1 : ax' 0 = ax 0 := by rw [e1]; exact qL_ad_lo (List.getElem?_eq_some_iff.mp x3).1
  exact qL_mono (by rw [ex, em, Nat.sub_self, Nat.sub_self]; omega) (by rw [ex, em, Nat.sub_self, Nat.sub_self]; omega) (kk H' Ax' Am' ax' am' hX1 hM1 co ls S' hR1 f1 e2 hl)
theorem case_steps (hx : p.tables.exec = Jvm.exec) (hb : c.code = cL_law) (hml : c.maxLocals = 7) (hown : s.vm.findClass RL = some m.cls) (hts : ∀ w ∈ qm_T, w.before args s = true) (hnw : qm_nw s) (hK : va_K D vwCl (qm_tys G) s) (hZ : qL_Z K0 K1 s) (hX : va_X b L xs s s.heap) (hbl : b < s.heap.size) (hL : L ≤ 3072) (hRf : d + 2 ≤ R.frames) (hRl : 40 * d + 80 ≤ R.locals) (hREL : ∀ hX hM, REL hX hM → qS_wf hX 8 ∧ qS_wf hM 9) (o_steps : ∀ (hX hM : qm_H) (a1 a2 : Int32), REL hX hM → qS_op d 8 3 106 4 [a1, a2] REL hX hM) : qL_case p l e R s m args below meth c Q D G b L X M o cu su REL 487 := by
  intro I H Ax Am ax am hX0 hM0 co cells slots ls hI S hR h1 h2 hl hC hSl kk
  obtain ⟨⟨x1, x2, x3⟩, ⟨m1, m2, m3⟩⟩ := hREL hX0 hM0 hR
  obtain ⟨v, hX1, hM1, rx, rm, hR1, ex, em⟩ := o_steps hX0 hM0 (xs (I + 1)) (xs (I + 2)) hR
  subst h1 h2
  refine law_steps (v := v) (hX1 := hX1) (hM1 := hM1) (Sx := 0) (xs := xs) hx hb hml hown hts hnw hK hZ hX hbl (by omega) hI hl S (qL_closed x1) x2 m1 m2 x3 m3 rx rm hRf hRl (by rw [ex, em, Nat.sub_self, Nat.sub_self]; omega) (by rw [ex, em, Nat.sub_self, Nat.sub_self]; omega) ?_
  intro H' Ax' Am' ax' am' S' e1 e2
  have f1 : ax' 0 = ax 0 := by rw [e1]; exact qL_ad_lo (List.getElem?_eq_some_iff.mp x3).1
  exact qL_mono (by rw [ex, em, Nat.sub_self, Nat.sub_self]; omega) (by rw [ex, em, Nat.sub_self, Nat.sub_self]; omega) (kk H' Ax' Am' ax' am' hX1 hM1 co ls S' hR1 f1 e2 hl)
theorem case_ends (hx : p.tables.exec = Jvm.exec) (hb : c.code = cL_law) (hml : c.maxLocals = 7) (hown : s.vm.findClass RL = some m.cls) (hts : ∀ w ∈ qm_T, w.before args s = true) (hnw : qm_nw s) (hK : va_K D vwCl (qm_tys G) s) (hZ : qL_Z K0 K1 s) (hX : va_X b L xs s s.heap) (hbl : b < s.heap.size) (hL : L ≤ 3072) (hRf : d + 2 ≤ R.frames) (hRl : 40 * d + 80 ≤ R.locals) (hREL : ∀ hX hM, REL hX hM → qS_wf hX 8 ∧ qS_wf hM 9) (o_ends : ∀ (hX hM : qm_H) (a1 a2 a3 : Int32), REL hX hM → qS_op d 9 5 107 4 [a1, a2, a3] REL hX hM) : qL_case p l e R s m args below meth c Q D G b L X M o cu su REL 524 := by
  intro I H Ax Am ax am hX0 hM0 co cells slots ls hI S hR h1 h2 hl hC hSl kk
  obtain ⟨⟨x1, x2, x3⟩, ⟨m1, m2, m3⟩⟩ := hREL hX0 hM0 hR
  obtain ⟨v, hX1, hM1, rx, rm, hR1, ex, em⟩ := o_ends hX0 hM0 (xs (I + 1)) (xs (I + 2)) (xs (I + 3)) hR
  subst h1 h2
  refine law_ends (v := v) (hX1 := hX1) (hM1 := hM1) (Sx := 0) (xs := xs) hx hb hml hown hts hnw hK hZ hX hbl (by omega) hI hl S (qL_closed x1) x2 m1 m2 x3 m3 rx rm hRf hRl (by rw [ex, em, Nat.sub_self, Nat.sub_self]; omega) (by rw [ex, em, Nat.sub_self, Nat.sub_self]; omega) ?_
  intro H' Ax' Am' ax' am' S' e1 e2
  have f1 : ax' 0 = ax 0 := by rw [e1]; exact qL_ad_lo (List.getElem?_eq_some_iff.mp x3).1
  exact qL_mono (by rw [ex, em, Nat.sub_self, Nat.sub_self]; omega) (by rw [ex, em, Nat.sub_self, Nat.sub_self]; omega) (kk H' Ax' Am' ax' am' hX1 hM1 co ls S' hR1 f1 e2 hl)
theorem case_refuter (hx : p.tables.exec = Jvm.exec) (hb : c.code = cL_law) (hml : c.maxLocals = 7) (hown : s.vm.findClass RL = some m.cls) (hts : ∀ w ∈ qm_T, w.before args s = true) (hnw : qm_nw s) (hK : va_K D vwCl (qm_tys G) s) (hZ : qL_Z K0 K1 s) (hX : va_X b L xs s s.heap) (hbl : b < s.heap.size) (hL : L ≤ 3072) (hRf : d + 2 ≤ R.frames) (hRl : 40 * d + 80 ≤ R.locals) (hREL : ∀ hX hM, REL hX hM → qS_wf hX 8 ∧ qS_wf hM 9) (o_refuter : ∀ (hX hM : qm_H) (a1 : Int32), REL hX hM → qS_op d 10 2 110 2 [a1] REL hX hM) : qL_case p l e R s m args below meth c Q D G b L X M o cu su REL 573 := by
  intro I H Ax Am ax am hX0 hM0 co cells slots ls hI S hR h1 h2 hl hC hSl kk
  obtain ⟨⟨x1, x2, x3⟩, ⟨m1, m2, m3⟩⟩ := hREL hX0 hM0 hR
  obtain ⟨v, hX1, hM1, rx, rm, hR1, ex, em⟩ := o_refuter hX0 hM0 (xs (I + 1)) hR
  subst h1 h2
  refine law_refuter (v := v) (hX1 := hX1) (hM1 := hM1) (Sx := 0) (xs := xs) hx hb hml hown hts hnw hK hZ hX hbl (by omega) hI hl S (qL_closed x1) x2 m1 m2 x3 m3 rx rm hRf hRl (by rw [ex, em, Nat.sub_self, Nat.sub_self]; omega) (by rw [ex, em, Nat.sub_self, Nat.sub_self]; omega) ?_
  intro H' Ax' Am' ax' am' S' e1 e2
  have f1 : ax' 0 = ax 0 := by rw [e1]; exact qL_ad_lo (List.getElem?_eq_some_iff.mp x3).1
  exact qL_mono (by rw [ex, em, Nat.sub_self, Nat.sub_self]; omega) (by rw [ex, em, Nat.sub_self, Nat.sub_self]; omega) (kk H' Ax' Am' ax' am' hX1 hM1 co ls S' hR1 f1 e2 hl)
theorem case_guess (hx : p.tables.exec = Jvm.exec) (hb : c.code = cL_law) (hml : c.maxLocals = 7) (hown : s.vm.findClass RL = some m.cls) (hts : ∀ w ∈ qm_T, w.before args s = true) (hnw : qm_nw s) (hK : va_K D vwCl (qm_tys G) s) (hZ : qL_Z K0 K1 s) (hX : va_X b L xs s s.heap) (hbl : b < s.heap.size) (hL : L ≤ 3072) (hRf : d + 2 ≤ R.frames) (hRl : 40 * d + 80 ≤ R.locals) (hREL : ∀ hX hM, REL hX hM → qS_wf hX 8 ∧ qS_wf hM 9) (o_guess : ∀ (hX hM : qm_H), REL hX hM → qS_op d 11 1 117 1 [] REL hX hM) : qL_case p l e R s m args below meth c Q D G b L X M o cu su REL 598 := by
  intro I H Ax Am ax am hX0 hM0 co cells slots ls hI S hR h1 h2 hl hC hSl kk
  obtain ⟨⟨x1, x2, x3⟩, ⟨m1, m2, m3⟩⟩ := hREL hX0 hM0 hR
  obtain ⟨v, hX1, hM1, rx, rm, hR1, ex, em⟩ := o_guess hX0 hM0 hR
  subst h1 h2
  refine law_guess (v := v) (hX1 := hX1) (hM1 := hM1) (Sx := 0) (xs := xs) hx hb hml hown hts hnw hK hZ hX hbl (by omega) hI hl S (qL_closed x1) x2 m1 m2 x3 m3 rx rm hRf hRl (by rw [ex, em, Nat.sub_self, Nat.sub_self]; omega) (by rw [ex, em, Nat.sub_self, Nat.sub_self]; omega) ?_
  intro H' Ax' Am' ax' am' S' e1 e2
  have f1 : ax' 0 = ax 0 := by rw [e1]; exact qL_ad_lo (List.getElem?_eq_some_iff.mp x3).1
  exact qL_mono (by rw [ex, em, Nat.sub_self, Nat.sub_self]; omega) (by rw [ex, em, Nat.sub_self, Nat.sub_self]; omega) (kk H' Ax' Am' ax' am' hX1 hM1 co ls S' hR1 f1 e2 hl)
theorem case_check (hx : p.tables.exec = Jvm.exec) (hb : c.code = cL_law) (hml : c.maxLocals = 7) (hown : s.vm.findClass RL = some m.cls) (hts : ∀ w ∈ qm_T, w.before args s = true) (hnw : qm_nw s) (hK : va_K D vwCl (qm_tys G) s) (hZ : qL_Z K0 K1 s) (hX : va_X b L xs s s.heap) (hbl : b < s.heap.size) (hL : L ≤ 3072) (hRf : d + 2 ≤ R.frames) (hRl : 40 * d + 80 ≤ R.locals) (hREL : ∀ hX hM, REL hX hM → qS_wf hX 8 ∧ qS_wf hM 9) (o_check : ∀ (hX hM : qm_H), REL hX hM → qS_op d 12 1 121 1 [] REL hX hM) : qL_case p l e R s m args below meth c Q D G b L X M o cu su REL 611 := by
  intro I H Ax Am ax am hX0 hM0 co cells slots ls hI S hR h1 h2 hl hC hSl kk
  obtain ⟨⟨x1, x2, x3⟩, ⟨m1, m2, m3⟩⟩ := hREL hX0 hM0 hR
  obtain ⟨v, hX1, hM1, rx, rm, hR1, ex, em⟩ := o_check hX0 hM0 hR
  subst h1 h2
  refine law_check (v := v) (hX1 := hX1) (hM1 := hM1) (Sx := 0) (xs := xs) hx hb hml hown hts hnw hK hZ hX hbl (by omega) hI hl S (qL_closed x1) x2 m1 m2 x3 m3 rx rm hRf hRl (by rw [ex, em, Nat.sub_self, Nat.sub_self]; omega) (by rw [ex, em, Nat.sub_self, Nat.sub_self]; omega) ?_
  intro H' Ax' Am' ax' am' S' e1 e2
  have f1 : ax' 0 = ax 0 := by rw [e1]; exact qL_ad_lo (List.getElem?_eq_some_iff.mp x3).1
  exact qL_mono (by rw [ex, em, Nat.sub_self, Nat.sub_self]; omega) (by rw [ex, em, Nat.sub_self, Nat.sub_self]; omega) (kk H' Ax' Am' ax' am' hX1 hM1 co ls S' hR1 f1 e2 hl)
theorem case_go (hx : p.tables.exec = Jvm.exec) (hb : c.code = cL_law) (hml : c.maxLocals = 7) (hown : s.vm.findClass RL = some m.cls) (hts : ∀ w ∈ qm_T, w.before args s = true) (hnw : qm_nw s) (hK : va_K D vwCl (qm_tys G) s) (hZ : qL_Z K0 K1 s) (hX : va_X b L xs s s.heap) (hbl : b < s.heap.size) (hL : L ≤ 3072) (hRf : d + 2 ≤ R.frames) (hRl : 40 * d + 80 ≤ R.locals) (hREL : ∀ hX hM, REL hX hM → qS_wf hX 8 ∧ qS_wf hM 9) (o_go : ∀ (hX hM : qm_H) (a1 : Int32), REL hX hM → qS_op d 13 5 122 4 [a1] REL hX hM) : qL_case p l e R s m args below meth c Q D G b L X M o cu su REL 624 := by
  intro I H Ax Am ax am hX0 hM0 co cells slots ls hI S hR h1 h2 hl hC hSl kk
  obtain ⟨⟨x1, x2, x3⟩, ⟨m1, m2, m3⟩⟩ := hREL hX0 hM0 hR
  obtain ⟨v, hX1, hM1, rx, rm, hR1, ex, em⟩ := o_go hX0 hM0 (xs (I + 1)) hR
  subst h1 h2
  refine law_go (v := v) (hX1 := hX1) (hM1 := hM1) (Sx := 0) (xs := xs) hx hb hml hown hts hnw hK hZ hX hbl (by omega) hI hl S (qL_closed x1) x2 m1 m2 x3 m3 rx rm hRf hRl (by rw [ex, em, Nat.sub_self, Nat.sub_self]; omega) (by rw [ex, em, Nat.sub_self, Nat.sub_self]; omega) ?_
  intro H' Ax' Am' ax' am' S' e1 e2
  have f1 : ax' 0 = ax 0 := by rw [e1]; exact qL_ad_lo (List.getElem?_eq_some_iff.mp x3).1
  exact qL_mono (by rw [ex, em, Nat.sub_self, Nat.sub_self]; omega) (by rw [ex, em, Nat.sub_self, Nat.sub_self]; omega) (kk H' Ax' Am' ax' am' hX1 hM1 co ls S' hR1 f1 e2 hl)
theorem case_pin (hx : p.tables.exec = Jvm.exec) (hb : c.code = cL_law) (hml : c.maxLocals = 7) (hown : s.vm.findClass RL = some m.cls) (hts : ∀ w ∈ qm_T, w.before args s = true) (hnw : qm_nw s) (hK : va_K D vwCl (qm_tys G) s) (hZ : qL_Z K0 K1 s) (hX : va_X b L xs s s.heap) (hbl : b < s.heap.size) (hL : L ≤ 3072) (hRf : d + 2 ≤ R.frames) (hRl : 40 * d + 80 ≤ R.locals) (hREL : ∀ hX hM, REL hX hM → qS_wf hX 8 ∧ qS_wf hM 9) (o_pin : ∀ (hX hM : qm_H) (a1 a2 : Int32), REL hX hM → qS_op d 14 3 124 3 [a1, a2] REL hX hM) : qL_case p l e R s m args below meth c Q D G b L X M o cu su REL 649 := by
  intro I H Ax Am ax am hX0 hM0 co cells slots ls hI S hR h1 h2 hl hC hSl kk
  obtain ⟨⟨x1, x2, x3⟩, ⟨m1, m2, m3⟩⟩ := hREL hX0 hM0 hR
  obtain ⟨v, hX1, hM1, rx, rm, hR1, ex, em⟩ := o_pin hX0 hM0 (xs (I + 1)) (xs (I + 2)) hR
  subst h1 h2
  refine law_pin (v := v) (hX1 := hX1) (hM1 := hM1) (Sx := 0) (xs := xs) hx hb hml hown hts hnw hK hZ hX hbl (by omega) hI hl S (qL_closed x1) x2 m1 m2 x3 m3 rx rm hRf hRl (by rw [ex, em, Nat.sub_self, Nat.sub_self]; omega) (by rw [ex, em, Nat.sub_self, Nat.sub_self]; omega) ?_
  intro H' Ax' Am' ax' am' S' e1 e2
  have f1 : ax' 0 = ax 0 := by rw [e1]; exact qL_ad_lo (List.getElem?_eq_some_iff.mp x3).1
  exact qL_mono (by rw [ex, em, Nat.sub_self, Nat.sub_self]; omega) (by rw [ex, em, Nat.sub_self, Nat.sub_self]; omega) (kk H' Ax' Am' ax' am' hX1 hM1 co ls S' hR1 f1 e2 hl)
theorem case_keep (hx : p.tables.exec = Jvm.exec) (hb : c.code = cL_law) (hml : c.maxLocals = 7) (hown : s.vm.findClass RL = some m.cls) (hts : ∀ w ∈ qm_T, w.before args s = true) (hnw : qm_nw s) (hK : va_K D vwCl (qm_tys G) s) (hZ : qL_Z K0 K1 s) (hX : va_X b L xs s s.heap) (hbl : b < s.heap.size) (hL : L ≤ 3072) (hRf : d + 2 ≤ R.frames) (hRl : 40 * d + 80 ≤ R.locals) (hREL : ∀ hX hM, REL hX hM → qS_wf hX 8 ∧ qS_wf hM 9) (o_keep : ∀ (hX hM : qm_H) (a1 : Int32), REL hX hM → qS_op d 15 2 126 2 [a1] REL hX hM) : qL_case p l e R s m args below meth c Q D G b L X M o cu su REL 686 := by
  intro I H Ax Am ax am hX0 hM0 co cells slots ls hI S hR h1 h2 hl hC hSl kk
  obtain ⟨⟨x1, x2, x3⟩, ⟨m1, m2, m3⟩⟩ := hREL hX0 hM0 hR
  obtain ⟨v, hX1, hM1, rx, rm, hR1, ex, em⟩ := o_keep hX0 hM0 (xs (I + 1)) hR
  subst h1 h2
  refine law_keep (v := v) (hX1 := hX1) (hM1 := hM1) (Sx := 0) (xs := xs) hx hb hml hown hts hnw hK hZ hX hbl (by omega) hI hl S (qL_closed x1) x2 m1 m2 x3 m3 rx rm hRf hRl (by rw [ex, em, Nat.sub_self, Nat.sub_self]; omega) (by rw [ex, em, Nat.sub_self, Nat.sub_self]; omega) ?_
  intro H' Ax' Am' ax' am' S' e1 e2
  have f1 : ax' 0 = ax 0 := by rw [e1]; exact qL_ad_lo (List.getElem?_eq_some_iff.mp x3).1
  exact qL_mono (by rw [ex, em, Nat.sub_self, Nat.sub_self]; omega) (by rw [ex, em, Nat.sub_self, Nat.sub_self]; omega) (kk H' Ax' Am' ax' am' hX1 hM1 co ls S' hR1 f1 e2 hl)
theorem case_drop (hx : p.tables.exec = Jvm.exec) (hb : c.code = cL_law) (hml : c.maxLocals = 7) (hown : s.vm.findClass RL = some m.cls) (hts : ∀ w ∈ qm_T, w.before args s = true) (hnw : qm_nw s) (hK : va_K D vwCl (qm_tys G) s) (hZ : qL_Z K0 K1 s) (hX : va_X b L xs s s.heap) (hbl : b < s.heap.size) (hL : L ≤ 3072) (hRf : d + 2 ≤ R.frames) (hRl : 40 * d + 80 ≤ R.locals) (hREL : ∀ hX hM, REL hX hM → qS_wf hX 8 ∧ qS_wf hM 9) (o_drop : ∀ (hX hM : qm_H) (a1 : Int32), REL hX hM → qS_op d 16 2 127 4 [a1] REL hX hM) : qL_case p l e R s m args below meth c Q D G b L X M o cu su REL 711 := by
  intro I H Ax Am ax am hX0 hM0 co cells slots ls hI S hR h1 h2 hl hC hSl kk
  obtain ⟨⟨x1, x2, x3⟩, ⟨m1, m2, m3⟩⟩ := hREL hX0 hM0 hR
  obtain ⟨v, hX1, hM1, rx, rm, hR1, ex, em⟩ := o_drop hX0 hM0 (xs (I + 1)) hR
  subst h1 h2
  refine law_drop (v := v) (hX1 := hX1) (hM1 := hM1) (Sx := 0) (xs := xs) hx hb hml hown hts hnw hK hZ hX hbl (by omega) hI hl S (qL_closed x1) x2 m1 m2 x3 m3 rx rm hRf hRl (by rw [ex, em, Nat.sub_self, Nat.sub_self]; omega) (by rw [ex, em, Nat.sub_self, Nat.sub_self]; omega) ?_
  intro H' Ax' Am' ax' am' S' e1 e2
  have f1 : ax' 0 = ax 0 := by rw [e1]; exact qL_ad_lo (List.getElem?_eq_some_iff.mp x3).1
  exact qL_mono (by rw [ex, em, Nat.sub_self, Nat.sub_self]; omega) (by rw [ex, em, Nat.sub_self, Nat.sub_self]; omega) (kk H' Ax' Am' ax' am' hX1 hM1 co ls S' hR1 f1 e2 hl)
theorem case_set (hx : p.tables.exec = Jvm.exec) (hb : c.code = cL_law) (hml : c.maxLocals = 7) (hown : s.vm.findClass RL = some m.cls) (hts : ∀ w ∈ qm_T, w.before args s = true) (hnw : qm_nw s) (hK : va_K D vwCl (qm_tys G) s) (hZ : qL_Z K0 K1 s) (hX : va_X b L xs s s.heap) (hbl : b < s.heap.size) (hL : L ≤ 3072) (hRf : d + 2 ≤ R.frames) (hRl : 40 * d + 80 ≤ R.locals) (hREL : ∀ hX hM, REL hX hM → qS_wf hX 8 ∧ qS_wf hM 9) (o_set : ∀ (hX hM : qm_H) (a1 a2 : Int32), REL hX hM → qS_op d 17 3 128 4 [a1, a2] REL hX hM) : qL_case p l e R s m args below meth c Q D G b L X M o cu su REL 736 := by
  intro I H Ax Am ax am hX0 hM0 co cells slots ls hI S hR h1 h2 hl hC hSl kk
  obtain ⟨⟨x1, x2, x3⟩, ⟨m1, m2, m3⟩⟩ := hREL hX0 hM0 hR
  obtain ⟨v, hX1, hM1, rx, rm, hR1, ex, em⟩ := o_set hX0 hM0 (xs (I + 1)) (xs (I + 2)) hR
  subst h1 h2
  refine law_set (v := v) (hX1 := hX1) (hM1 := hM1) (Sx := 0) (xs := xs) hx hb hml hown hts hnw hK hZ hX hbl (by omega) hI hl S (qL_closed x1) x2 m1 m2 x3 m3 rx rm hRf hRl (by rw [ex, em, Nat.sub_self, Nat.sub_self]; omega) (by rw [ex, em, Nat.sub_self, Nat.sub_self]; omega) ?_
  intro H' Ax' Am' ax' am' S' e1 e2
  have f1 : ax' 0 = ax 0 := by rw [e1]; exact qL_ad_lo (List.getElem?_eq_some_iff.mp x3).1
  exact qL_mono (by rw [ex, em, Nat.sub_self, Nat.sub_self]; omega) (by rw [ex, em, Nat.sub_self, Nat.sub_self]; omega) (kk H' Ax' Am' ax' am' hX1 hM1 co ls S' hR1 f1 e2 hl)
theorem case_state (hx : p.tables.exec = Jvm.exec) (hb : c.code = cL_law) (hml : c.maxLocals = 7) (hown : s.vm.findClass RL = some m.cls) (hts : ∀ w ∈ qm_T, w.before args s = true) (hnw : qm_nw s) (hK : va_K D vwCl (qm_tys G) s) (hZ : qL_Z K0 K1 s) (hX : va_X b L xs s s.heap) (hbl : b < s.heap.size) (hL : L ≤ 3072) (hRf : d + 2 ≤ R.frames) (hRl : 40 * d + 80 ≤ R.locals) (hREL : ∀ hX hM, REL hX hM → qS_wf hX 8 ∧ qS_wf hM 9) (o_state : ∀ (hX hM : qm_H) (a1 : Int32), REL hX hM → qS_op d 18 2 129 2 [a1] REL hX hM) : qL_case p l e R s m args below meth c Q D G b L X M o cu su REL 773 := by
  intro I H Ax Am ax am hX0 hM0 co cells slots ls hI S hR h1 h2 hl hC hSl kk
  obtain ⟨⟨x1, x2, x3⟩, ⟨m1, m2, m3⟩⟩ := hREL hX0 hM0 hR
  obtain ⟨v, hX1, hM1, rx, rm, hR1, ex, em⟩ := o_state hX0 hM0 (xs (I + 1)) hR
  subst h1 h2
  refine law_state (v := v) (hX1 := hX1) (hM1 := hM1) (Sx := 0) (xs := xs) hx hb hml hown hts hnw hK hZ hX hbl (by omega) hI hl S (qL_closed x1) x2 m1 m2 x3 m3 rx rm hRf hRl (by rw [ex, em, Nat.sub_self, Nat.sub_self]; omega) (by rw [ex, em, Nat.sub_self, Nat.sub_self]; omega) ?_
  intro H' Ax' Am' ax' am' S' e1 e2
  have f1 : ax' 0 = ax 0 := by rw [e1]; exact qL_ad_lo (List.getElem?_eq_some_iff.mp x3).1
  exact qL_mono (by rw [ex, em, Nat.sub_self, Nat.sub_self]; omega) (by rw [ex, em, Nat.sub_self, Nat.sub_self]; omega) (kk H' Ax' Am' ax' am' hX1 hM1 co ls S' hR1 f1 e2 hl)
theorem case_many (hx : p.tables.exec = Jvm.exec) (hb : c.code = cL_law) (hml : c.maxLocals = 7) (hown : s.vm.findClass RL = some m.cls) (hts : ∀ w ∈ qm_T, w.before args s = true) (hnw : qm_nw s) (hK : va_K D vwCl (qm_tys G) s) (hZ : qL_Z K0 K1 s) (hX : va_X b L xs s s.heap) (hbl : b < s.heap.size) (hL : L ≤ 3072) (hRf : d + 2 ≤ R.frames) (hRl : 40 * d + 80 ≤ R.locals) (hREL : ∀ hX hM, REL hX hM → qS_wf hX 8 ∧ qS_wf hM 9) (o_many : ∀ (hX hM : qm_H) (a1 : Int32), REL hX hM → qS_op d 19 2 130 2 [a1] REL hX hM) : qL_case p l e R s m args below meth c Q D G b L X M o cu su REL 798 := by
  intro I H Ax Am ax am hX0 hM0 co cells slots ls hI S hR h1 h2 hl hC hSl kk
  obtain ⟨⟨x1, x2, x3⟩, ⟨m1, m2, m3⟩⟩ := hREL hX0 hM0 hR
  obtain ⟨v, hX1, hM1, rx, rm, hR1, ex, em⟩ := o_many hX0 hM0 (xs (I + 1)) hR
  subst h1 h2
  refine law_many (v := v) (hX1 := hX1) (hM1 := hM1) (Sx := 0) (xs := xs) hx hb hml hown hts hnw hK hZ hX hbl (by omega) hI hl S (qL_closed x1) x2 m1 m2 x3 m3 rx rm hRf hRl (by rw [ex, em, Nat.sub_self, Nat.sub_self]; omega) (by rw [ex, em, Nat.sub_self, Nat.sub_self]; omega) ?_
  intro H' Ax' Am' ax' am' S' e1 e2
  have f1 : ax' 0 = ax 0 := by rw [e1]; exact qL_ad_lo (List.getElem?_eq_some_iff.mp x3).1
  exact qL_mono (by rw [ex, em, Nat.sub_self, Nat.sub_self]; omega) (by rw [ex, em, Nat.sub_self, Nat.sub_self]; omega) (kk H' Ax' Am' ax' am' hX1 hM1 co ls S' hR1 f1 e2 hl)
theorem case_by (hx : p.tables.exec = Jvm.exec) (hb : c.code = cL_law) (hml : c.maxLocals = 7) (hown : s.vm.findClass RL = some m.cls) (hts : ∀ w ∈ qm_T, w.before args s = true) (hnw : qm_nw s) (hK : va_K D vwCl (qm_tys G) s) (hZ : qL_Z K0 K1 s) (hX : va_X b L xs s s.heap) (hbl : b < s.heap.size) (hL : L ≤ 3072) (hRf : d + 2 ≤ R.frames) (hRl : 40 * d + 80 ≤ R.locals) (hREL : ∀ hX hM, REL hX hM → qS_wf hX 8 ∧ qS_wf hM 9) (o_by : ∀ (hX hM : qm_H) (a1 a2 : Int32), REL hX hM → qS_op d 20 3 131 5 [a1, a2] REL hX hM) : qL_case p l e R s m args below meth c Q D G b L X M o cu su REL 823 := by
  intro I H Ax Am ax am hX0 hM0 co cells slots ls hI S hR h1 h2 hl hC hSl kk
  obtain ⟨⟨x1, x2, x3⟩, ⟨m1, m2, m3⟩⟩ := hREL hX0 hM0 hR
  obtain ⟨v, hX1, hM1, rx, rm, hR1, ex, em⟩ := o_by hX0 hM0 (xs (I + 1)) (xs (I + 2)) hR
  subst h1 h2
  refine law_by (v := v) (hX1 := hX1) (hM1 := hM1) (Sx := 0) (xs := xs) hx hb hml hown hts hnw hK hZ hX hbl (by omega) hI hl S (qL_closed x1) x2 m1 m2 x3 m3 rx rm hRf hRl (by rw [ex, em, Nat.sub_self, Nat.sub_self]; omega) (by rw [ex, em, Nat.sub_self, Nat.sub_self]; omega) ?_
  intro H' Ax' Am' ax' am' S' e1 e2
  have f1 : ax' 0 = ax 0 := by rw [e1]; exact qL_ad_lo (List.getElem?_eq_some_iff.mp x3).1
  exact qL_mono (by rw [ex, em, Nat.sub_self, Nat.sub_self]; omega) (by rw [ex, em, Nat.sub_self, Nat.sub_self]; omega) (kk H' Ax' Am' ax' am' hX1 hM1 co ls S' hR1 f1 e2 hl)
theorem case_refutes (hx : p.tables.exec = Jvm.exec) (hb : c.code = cL_law) (hml : c.maxLocals = 7) (hown : s.vm.findClass RL = some m.cls) (hts : ∀ w ∈ qm_T, w.before args s = true) (hnw : qm_nw s) (hK : va_K D vwCl (qm_tys G) s) (hZ : qL_Z K0 K1 s) (hX : va_X b L xs s s.heap) (hbl : b < s.heap.size) (hL : L ≤ 3072) (hRf : d + 2 ≤ R.frames) (hRl : 40 * d + 80 ≤ R.locals) (hREL : ∀ hX hM, REL hX hM → qS_wf hX 8 ∧ qS_wf hM 9) (o_refutes : ∀ (hX hM : qm_H) (a1 : Int32), REL hX hM → qS_op d 21 2 132 2 [a1] REL hX hM) : qL_case p l e R s m args below meth c Q D G b L X M o cu su REL 860 := by
  intro I H Ax Am ax am hX0 hM0 co cells slots ls hI S hR h1 h2 hl hC hSl kk
  obtain ⟨⟨x1, x2, x3⟩, ⟨m1, m2, m3⟩⟩ := hREL hX0 hM0 hR
  obtain ⟨v, hX1, hM1, rx, rm, hR1, ex, em⟩ := o_refutes hX0 hM0 (xs (I + 1)) hR
  subst h1 h2
  refine law_refutes (v := v) (hX1 := hX1) (hM1 := hM1) (Sx := 0) (xs := xs) hx hb hml hown hts hnw hK hZ hX hbl (by omega) hI hl S (qL_closed x1) x2 m1 m2 x3 m3 rx rm hRf hRl (by rw [ex, em, Nat.sub_self, Nat.sub_self]; omega) (by rw [ex, em, Nat.sub_self, Nat.sub_self]; omega) ?_
  intro H' Ax' Am' ax' am' S' e1 e2
  have f1 : ax' 0 = ax 0 := by rw [e1]; exact qL_ad_lo (List.getElem?_eq_some_iff.mp x3).1
  exact qL_mono (by rw [ex, em, Nat.sub_self, Nat.sub_self]; omega) (by rw [ex, em, Nat.sub_self, Nat.sub_self]; omega) (kk H' Ax' Am' ax' am' hX1 hM1 co ls S' hR1 f1 e2 hl)
theorem case_sharpest (hx : p.tables.exec = Jvm.exec) (hb : c.code = cL_law) (hml : c.maxLocals = 7) (hown : s.vm.findClass RL = some m.cls) (hts : ∀ w ∈ qm_T, w.before args s = true) (hnw : qm_nw s) (hK : va_K D vwCl (qm_tys G) s) (hZ : qL_Z K0 K1 s) (hX : va_X b L xs s s.heap) (hbl : b < s.heap.size) (hL : L ≤ 3072) (hRf : d + 2 ≤ R.frames) (hRl : 40 * d + 80 ≤ R.locals) (hREL : ∀ hX hM, REL hX hM → qS_wf hX 8 ∧ qS_wf hM 9) (o_sharpest : ∀ (hX hM : qm_H) (a1 : Int32), REL hX hM → qS_op d 22 3 133 6 [a1] REL hX hM) : qL_case p l e R s m args below meth c Q D G b L X M o cu su REL 885 := by
  intro I H Ax Am ax am hX0 hM0 co cells slots ls hI S hR h1 h2 hl hC hSl kk
  obtain ⟨⟨x1, x2, x3⟩, ⟨m1, m2, m3⟩⟩ := hREL hX0 hM0 hR
  obtain ⟨v, hX1, hM1, rx, rm, hR1, ex, em⟩ := o_sharpest hX0 hM0 (xs (I + 1)) hR
  subst h1 h2
  refine law_sharpest (v := v) (hX1 := hX1) (hM1 := hM1) (Sx := 0) (xs := xs) hx hb hml hown hts hnw hK hZ hX hbl (by omega) hI hl S (qL_closed x1) x2 m1 m2 x3 m3 rx rm hRf hRl (by rw [ex, em, Nat.sub_self, Nat.sub_self]; omega) (by rw [ex, em, Nat.sub_self, Nat.sub_self]; omega) ?_
  intro H' Ax' Am' ax' am' S' e1 e2
  have f1 : ax' 0 = ax 0 := by rw [e1]; exact qL_ad_lo (List.getElem?_eq_some_iff.mp x3).1
  exact qL_mono (by rw [ex, em, Nat.sub_self, Nat.sub_self]; omega) (by rw [ex, em, Nat.sub_self, Nat.sub_self]; omega) (kk H' Ax' Am' ax' am' hX1 hM1 co ls S' hR1 f1 e2 hl)
theorem case_free (hx : p.tables.exec = Jvm.exec) (hb : c.code = cL_law) (hml : c.maxLocals = 7) (hown : s.vm.findClass RL = some m.cls) (hts : ∀ w ∈ qm_T, w.before args s = true) (hnw : qm_nw s) (hK : va_K D vwCl (qm_tys G) s) (hZ : qL_Z K0 K1 s) (hX : va_X b L xs s s.heap) (hbl : b < s.heap.size) (hL : L ≤ 3072) (hRf : d + 2 ≤ R.frames) (hRl : 40 * d + 80 ≤ R.locals) (hREL : ∀ hX hM, REL hX hM → qS_wf hX 8 ∧ qS_wf hM 9) (o_free : ∀ (hX hM : qm_H) (a1 a2 : Int32), REL hX hM → qS_op d 23 6 134 8 [a1, a2] REL hX hM) : qL_case p l e R s m args below meth c Q D G b L X M o cu su REL 910 := by
  intro I H Ax Am ax am hX0 hM0 co cells slots ls hI S hR h1 h2 hl hC hSl kk
  obtain ⟨⟨x1, x2, x3⟩, ⟨m1, m2, m3⟩⟩ := hREL hX0 hM0 hR
  obtain ⟨v, hX1, hM1, rx, rm, hR1, ex, em⟩ := o_free hX0 hM0 (xs (I + 1)) (xs (I + 2)) hR
  subst h1 h2
  refine law_free (v := v) (hX1 := hX1) (hM1 := hM1) (Sx := 0) (xs := xs) hx hb hml hown hts hnw hK hZ hX hbl (by omega) hI hl S (qL_closed x1) x2 m1 m2 x3 m3 rx rm hRf hRl (by rw [ex, em, Nat.sub_self, Nat.sub_self]; omega) (by rw [ex, em, Nat.sub_self, Nat.sub_self]; omega) ?_
  intro H' Ax' Am' ax' am' S' e1 e2
  have f1 : ax' 0 = ax 0 := by rw [e1]; exact qL_ad_lo (List.getElem?_eq_some_iff.mp x3).1
  exact qL_mono (by rw [ex, em, Nat.sub_self, Nat.sub_self]; omega) (by rw [ex, em, Nat.sub_self, Nat.sub_self]; omega) (kk H' Ax' Am' ax' am' hX1 hM1 co ls S' hR1 f1 e2 hl)
theorem case_needed (hx : p.tables.exec = Jvm.exec) (hb : c.code = cL_law) (hml : c.maxLocals = 7) (hown : s.vm.findClass RL = some m.cls) (hts : ∀ w ∈ qm_T, w.before args s = true) (hnw : qm_nw s) (hK : va_K D vwCl (qm_tys G) s) (hZ : qL_Z K0 K1 s) (hX : va_X b L xs s s.heap) (hbl : b < s.heap.size) (hL : L ≤ 3072) (hRf : d + 2 ≤ R.frames) (hRl : 40 * d + 80 ≤ R.locals) (hREL : ∀ hX hM, REL hX hM → qS_wf hX 8 ∧ qS_wf hM 9) (o_needed : ∀ (hX hM : qm_H) (a1 : Int32), REL hX hM → qS_op d 24 2 135 4 [a1] REL hX hM) : qL_case p l e R s m args below meth c Q D G b L X M o cu su REL 947 := by
  intro I H Ax Am ax am hX0 hM0 co cells slots ls hI S hR h1 h2 hl hC hSl kk
  obtain ⟨⟨x1, x2, x3⟩, ⟨m1, m2, m3⟩⟩ := hREL hX0 hM0 hR
  obtain ⟨v, hX1, hM1, rx, rm, hR1, ex, em⟩ := o_needed hX0 hM0 (xs (I + 1)) hR
  subst h1 h2
  refine law_needed (v := v) (hX1 := hX1) (hM1 := hM1) (Sx := 0) (xs := xs) hx hb hml hown hts hnw hK hZ hX hbl (by omega) hI hl S (qL_closed x1) x2 m1 m2 x3 m3 rx rm hRf hRl (by rw [ex, em, Nat.sub_self, Nat.sub_self]; omega) (by rw [ex, em, Nat.sub_self, Nat.sub_self]; omega) ?_
  intro H' Ax' Am' ax' am' S' e1 e2
  have f1 : ax' 0 = ax 0 := by rw [e1]; exact qL_ad_lo (List.getElem?_eq_some_iff.mp x3).1
  exact qL_mono (by rw [ex, em, Nat.sub_self, Nat.sub_self]; omega) (by rw [ex, em, Nat.sub_self, Nat.sub_self]; omega) (kk H' Ax' Am' ax' am' hX1 hM1 co ls S' hR1 f1 e2 hl)
theorem case_core (hx : p.tables.exec = Jvm.exec) (hb : c.code = cL_law) (hml : c.maxLocals = 7) (hown : s.vm.findClass RL = some m.cls) (hts : ∀ w ∈ qm_T, w.before args s = true) (hnw : qm_nw s) (hK : va_K D vwCl (qm_tys G) s) (hZ : qL_Z K0 K1 s) (hX : va_X b L xs s s.heap) (hbl : b < s.heap.size) (hL : L ≤ 3072) (hRf : d + 2 ≤ R.frames) (hRl : 40 * d + 80 ≤ R.locals) (hREL : ∀ hX hM, REL hX hM → qS_wf hX 8 ∧ qS_wf hM 9) (o_core : ∀ (hX hM : qm_H) (a1 : Int32), REL hX hM → qS_op d 25 4 136 6 [a1] REL hX hM) : qL_case p l e R s m args below meth c Q D G b L X M o cu su REL 972 := by
  intro I H Ax Am ax am hX0 hM0 co cells slots ls hI S hR h1 h2 hl hC hSl kk
  obtain ⟨⟨x1, x2, x3⟩, ⟨m1, m2, m3⟩⟩ := hREL hX0 hM0 hR
  obtain ⟨v, hX1, hM1, rx, rm, hR1, ex, em⟩ := o_core hX0 hM0 (xs (I + 1)) hR
  subst h1 h2
  refine law_core (v := v) (hX1 := hX1) (hM1 := hM1) (Sx := 0) (xs := xs) hx hb hml hown hts hnw hK hZ hX hbl (by omega) hI hl S (qL_closed x1) x2 m1 m2 x3 m3 rx rm hRf hRl (by rw [ex, em, Nat.sub_self, Nat.sub_self]; omega) (by rw [ex, em, Nat.sub_self, Nat.sub_self]; omega) ?_
  intro H' Ax' Am' ax' am' S' e1 e2
  have f1 : ax' 0 = ax 0 := by rw [e1]; exact qL_ad_lo (List.getElem?_eq_some_iff.mp x3).1
  exact qL_mono (by rw [ex, em, Nat.sub_self, Nat.sub_self]; omega) (by rw [ex, em, Nat.sub_self, Nat.sub_self]; omega) (kk H' Ax' Am' ax' am' hX1 hM1 co ls S' hR1 f1 e2 hl)
theorem case_kinds (hx : p.tables.exec = Jvm.exec) (hb : c.code = cL_law) (hml : c.maxLocals = 7) (hown : s.vm.findClass RL = some m.cls) (hts : ∀ w ∈ qm_T, w.before args s = true) (hnw : qm_nw s) (hK : va_K D vwCl (qm_tys G) s) (hZ : qL_Z K0 K1 s) (hX : va_X b L xs s s.heap) (hbl : b < s.heap.size) (hL : L ≤ 3072) (hRf : d + 2 ≤ R.frames) (hRl : 40 * d + 80 ≤ R.locals) (hREL : ∀ hX hM, REL hX hM → qS_wf hX 8 ∧ qS_wf hM 9) (o_kinds : ∀ (hX hM : qm_H), REL hX hM → qS_op d 26 1 139 3 [] REL hX hM) : qL_case p l e R s m args below meth c Q D G b L X M o cu su REL 997 := by
  intro I H Ax Am ax am hX0 hM0 co cells slots ls hI S hR h1 h2 hl hC hSl kk
  obtain ⟨⟨x1, x2, x3⟩, ⟨m1, m2, m3⟩⟩ := hREL hX0 hM0 hR
  obtain ⟨v, hX1, hM1, rx, rm, hR1, ex, em⟩ := o_kinds hX0 hM0 hR
  subst h1 h2
  refine law_kinds (v := v) (hX1 := hX1) (hM1 := hM1) (Sx := 0) (xs := xs) hx hb hml hown hts hnw hK hZ hX hbl (by omega) hI hl S (qL_closed x1) x2 m1 m2 x3 m3 rx rm hRf hRl (by rw [ex, em, Nat.sub_self, Nat.sub_self]; omega) (by rw [ex, em, Nat.sub_self, Nat.sub_self]; omega) ?_
  intro H' Ax' Am' ax' am' S' e1 e2
  have f1 : ax' 0 = ax 0 := by rw [e1]; exact qL_ad_lo (List.getElem?_eq_some_iff.mp x3).1
  exact qL_mono (by rw [ex, em, Nat.sub_self, Nat.sub_self]; omega) (by rw [ex, em, Nat.sub_self, Nat.sub_self]; omega) (kk H' Ax' Am' ax' am' hX1 hM1 co ls S' hR1 f1 e2 hl)
theorem case_alike (hx : p.tables.exec = Jvm.exec) (hb : c.code = cL_law) (hml : c.maxLocals = 7) (hown : s.vm.findClass RL = some m.cls) (hts : ∀ w ∈ qm_T, w.before args s = true) (hnw : qm_nw s) (hK : va_K D vwCl (qm_tys G) s) (hZ : qL_Z K0 K1 s) (hX : va_X b L xs s s.heap) (hbl : b < s.heap.size) (hL : L ≤ 3072) (hRf : d + 2 ≤ R.frames) (hRl : 40 * d + 80 ≤ R.locals) (hREL : ∀ hX hM, REL hX hM → qS_wf hX 8 ∧ qS_wf hM 9) (o_alike : ∀ (hX hM : qm_H) (a1 a2 : Int32), REL hX hM → qS_op d 27 3 140 3 [a1, a2] REL hX hM) : qL_case p l e R s m args below meth c Q D G b L X M o cu su REL 1010 := by
  intro I H Ax Am ax am hX0 hM0 co cells slots ls hI S hR h1 h2 hl hC hSl kk
  obtain ⟨⟨x1, x2, x3⟩, ⟨m1, m2, m3⟩⟩ := hREL hX0 hM0 hR
  obtain ⟨v, hX1, hM1, rx, rm, hR1, ex, em⟩ := o_alike hX0 hM0 (xs (I + 1)) (xs (I + 2)) hR
  subst h1 h2
  refine law_alike (v := v) (hX1 := hX1) (hM1 := hM1) (Sx := 0) (xs := xs) hx hb hml hown hts hnw hK hZ hX hbl (by omega) hI hl S (qL_closed x1) x2 m1 m2 x3 m3 rx rm hRf hRl (by rw [ex, em, Nat.sub_self, Nat.sub_self]; omega) (by rw [ex, em, Nat.sub_self, Nat.sub_self]; omega) ?_
  intro H' Ax' Am' ax' am' S' e1 e2
  have f1 : ax' 0 = ax 0 := by rw [e1]; exact qL_ad_lo (List.getElem?_eq_some_iff.mp x3).1
  exact qL_mono (by rw [ex, em, Nat.sub_self, Nat.sub_self]; omega) (by rw [ex, em, Nat.sub_self, Nat.sub_self]; omega) (kk H' Ax' Am' ax' am' hX1 hM1 co ls S' hR1 f1 e2 hl)
theorem case_shown (hx : p.tables.exec = Jvm.exec) (hb : c.code = cL_law) (hml : c.maxLocals = 7) (hown : s.vm.findClass RL = some m.cls) (hts : ∀ w ∈ qm_T, w.before args s = true) (hnw : qm_nw s) (hK : va_K D vwCl (qm_tys G) s) (hZ : qL_Z K0 K1 s) (hX : va_X b L xs s s.heap) (hbl : b < s.heap.size) (hL : L ≤ 3072) (hRf : d + 2 ≤ R.frames) (hRl : 40 * d + 80 ≤ R.locals) (hREL : ∀ hX hM, REL hX hM → qS_wf hX 8 ∧ qS_wf hM 9) (o_shown : ∀ (hX hM : qm_H) (a1 a2 : Int32), REL hX hM → qS_op d 28 3 146 4 [a1, a2] REL hX hM) : qL_case p l e R s m args below meth c Q D G b L X M o cu su REL 1047 := by
  intro I H Ax Am ax am hX0 hM0 co cells slots ls hI S hR h1 h2 hl hC hSl kk
  obtain ⟨⟨x1, x2, x3⟩, ⟨m1, m2, m3⟩⟩ := hREL hX0 hM0 hR
  obtain ⟨v, hX1, hM1, rx, rm, hR1, ex, em⟩ := o_shown hX0 hM0 (xs (I + 1)) (xs (I + 2)) hR
  subst h1 h2
  refine law_shown (v := v) (hX1 := hX1) (hM1 := hM1) (Sx := 0) (xs := xs) hx hb hml hown hts hnw hK hZ hX hbl (by omega) hI hl S (qL_closed x1) x2 m1 m2 x3 m3 rx rm hRf hRl (by rw [ex, em, Nat.sub_self, Nat.sub_self]; omega) (by rw [ex, em, Nat.sub_self, Nat.sub_self]; omega) ?_
  intro H' Ax' Am' ax' am' S' e1 e2
  have f1 : ax' 0 = ax 0 := by rw [e1]; exact qL_ad_lo (List.getElem?_eq_some_iff.mp x3).1
  exact qL_mono (by rw [ex, em, Nat.sub_self, Nat.sub_self]; omega) (by rw [ex, em, Nat.sub_self, Nat.sub_self]; omega) (kk H' Ax' Am' ax' am' hX1 hM1 co ls S' hR1 f1 e2 hl)
theorem law_step (hx : p.tables.exec = Jvm.exec) (hb : c.code = cL_law) (hX : va_X b L xs s s.heap) (hbl : b < s.heap.size) (hL : L ≤ 3072) (w_feed : qL_case p l e R s m args below meth c Q D G b L X M o cu su REL 172) (w_sketch : qL_case p l e R s m args below meth c Q D G b L X M o cu su REL 245) (w_has : qL_case p l e R s m args below meth c Q D G b L X M o cu su REL 270) (w_hole : qL_case p l e R s m args below meth c Q D G b L X M o cu su REL 295) (w_value : qL_case p l e R s m args below meth c Q D G b L X M o cu su REL 332) (w_cost : qL_case p l e R s m args below meth c Q D G b L X M o cu su REL 369) (w_ranked : qL_case p l e R s m args below meth c Q D G b L X M o cu su REL 394) (w_verdict : qL_case p l e R s m args below meth c Q D G b L X M o cu su REL 450) (w_steps : qL_case p l e R s m args below meth c Q D G b L X M o cu su REL 487) (w_ends : qL_case p l e R s m args below meth c Q D G b L X M o cu su REL 524) (w_refuter : qL_case p l e R s m args below meth c Q D G b L X M o cu su REL 573) (w_guess : qL_case p l e R s m args below meth c Q D G b L X M o cu su REL 598) (w_check : qL_case p l e R s m args below meth c Q D G b L X M o cu su REL 611) (w_go : qL_case p l e R s m args below meth c Q D G b L X M o cu su REL 624) (w_pin : qL_case p l e R s m args below meth c Q D G b L X M o cu su REL 649) (w_keep : qL_case p l e R s m args below meth c Q D G b L X M o cu su REL 686) (w_drop : qL_case p l e R s m args below meth c Q D G b L X M o cu su REL 711) (w_set : qL_case p l e R s m args below meth c Q D G b L X M o cu su REL 736) (w_state : qL_case p l e R s m args below meth c Q D G b L X M o cu su REL 773) (w_many : qL_case p l e R s m args below meth c Q D G b L X M o cu su REL 798) (w_by : qL_case p l e R s m args below meth c Q D G b L X M o cu su REL 823) (w_refutes : qL_case p l e R s m args below meth c Q D G b L X M o cu su REL 860) (w_sharpest : qL_case p l e R s m args below meth c Q D G b L X M o cu su REL 885) (w_free : qL_case p l e R s m args below meth c Q D G b L X M o cu su REL 910) (w_needed : qL_case p l e R s m args below meth c Q D G b L X M o cu su REL 947) (w_core : qL_case p l e R s m args below meth c Q D G b L X M o cu su REL 972) (w_kinds : qL_case p l e R s m args below meth c Q D G b L X M o cu su REL 997) (w_alike : qL_case p l e R s m args below meth c Q D G b L X M o cu su REL 1010) (w_shown : qL_case p l e R s m args below meth c Q D G b L X M o cu su REL 1047) : qL_step p l e R s m args below meth c Q D G b L X M o cu su REL := by
  intro I H Ax Am ax am hX0 hM0 co cells slots ls hI S hR h1 h2 hl hC hSl kk
  refine law_sw hx hb hX hbl hL hI hl S.1 (fun t ht _ => ?_) (qL_mono (Nat.le_add_right _ _) (Nat.le_add_right _ _) (kk H Ax Am ax am hX0 hM0 co ls S hR h1 h2 hl))
  match t, ht with
  | 0, _ => exact w_feed I H Ax Am ax am hX0 hM0 co cells slots ls hI S hR h1 h2 hl hC hSl kk
  | 1, _ => exact w_sketch I H Ax Am ax am hX0 hM0 co cells slots ls hI S hR h1 h2 hl hC hSl kk
  | 2, _ => exact w_has I H Ax Am ax am hX0 hM0 co cells slots ls hI S hR h1 h2 hl hC hSl kk
  | 3, _ => exact w_hole I H Ax Am ax am hX0 hM0 co cells slots ls hI S hR h1 h2 hl hC hSl kk
  | 4, _ => exact w_value I H Ax Am ax am hX0 hM0 co cells slots ls hI S hR h1 h2 hl hC hSl kk
  | 5, _ => exact w_cost I H Ax Am ax am hX0 hM0 co cells slots ls hI S hR h1 h2 hl hC hSl kk
  | 6, _ => exact w_ranked I H Ax Am ax am hX0 hM0 co cells slots ls hI S hR h1 h2 hl hC hSl kk
  | 7, _ => exact w_verdict I H Ax Am ax am hX0 hM0 co cells slots ls hI S hR h1 h2 hl hC hSl kk
  | 8, _ => exact w_steps I H Ax Am ax am hX0 hM0 co cells slots ls hI S hR h1 h2 hl hC hSl kk
  | 9, _ => exact w_ends I H Ax Am ax am hX0 hM0 co cells slots ls hI S hR h1 h2 hl hC hSl kk
  | 10, _ => exact w_refuter I H Ax Am ax am hX0 hM0 co cells slots ls hI S hR h1 h2 hl hC hSl kk
  | 11, _ => exact w_guess I H Ax Am ax am hX0 hM0 co cells slots ls hI S hR h1 h2 hl hC hSl kk
  | 12, _ => exact w_check I H Ax Am ax am hX0 hM0 co cells slots ls hI S hR h1 h2 hl hC hSl kk
  | 13, _ => exact w_go I H Ax Am ax am hX0 hM0 co cells slots ls hI S hR h1 h2 hl hC hSl kk
  | 14, _ => exact w_pin I H Ax Am ax am hX0 hM0 co cells slots ls hI S hR h1 h2 hl hC hSl kk
  | 15, _ => exact w_keep I H Ax Am ax am hX0 hM0 co cells slots ls hI S hR h1 h2 hl hC hSl kk
  | 16, _ => exact w_drop I H Ax Am ax am hX0 hM0 co cells slots ls hI S hR h1 h2 hl hC hSl kk
  | 17, _ => exact w_set I H Ax Am ax am hX0 hM0 co cells slots ls hI S hR h1 h2 hl hC hSl kk
  | 18, _ => exact w_state I H Ax Am ax am hX0 hM0 co cells slots ls hI S hR h1 h2 hl hC hSl kk
  | 19, _ => exact w_many I H Ax Am ax am hX0 hM0 co cells slots ls hI S hR h1 h2 hl hC hSl kk
  | 20, _ => exact w_by I H Ax Am ax am hX0 hM0 co cells slots ls hI S hR h1 h2 hl hC hSl kk
  | 21, _ => exact w_refutes I H Ax Am ax am hX0 hM0 co cells slots ls hI S hR h1 h2 hl hC hSl kk
  | 22, _ => exact w_sharpest I H Ax Am ax am hX0 hM0 co cells slots ls hI S hR h1 h2 hl hC hSl kk
  | 23, _ => exact w_free I H Ax Am ax am hX0 hM0 co cells slots ls hI S hR h1 h2 hl hC hSl kk
  | 24, _ => exact w_needed I H Ax Am ax am hX0 hM0 co cells slots ls hI S hR h1 h2 hl hC hSl kk
  | 25, _ => exact w_core I H Ax Am ax am hX0 hM0 co cells slots ls hI S hR h1 h2 hl hC hSl kk
  | 26, _ => exact w_kinds I H Ax Am ax am hX0 hM0 co cells slots ls hI S hR h1 h2 hl hC hSl kk
  | 27, _ => exact w_alike I H Ax Am ax am hX0 hM0 co cells slots ls hI S hR h1 h2 hl hC hSl kk
  | 28, _ => exact w_shown I H Ax Am ax am hX0 hM0 co cells slots ls hI S hR h1 h2 hl hC hSl kk
  | t + 29, ht => exact absurd ht (by omega)
end QLT
