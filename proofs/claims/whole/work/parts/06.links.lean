/-! what an entry's links say, and what holds at a method's stand -/
def qm_fl (o idx ci f t : Nat) : Prop := ci < 10 ∧ f < qm_cN ci ∧ (t % 10 = 2 ↔ qm_isr (qm_cy ci f) = true) ∧
  ((t < 20 ∧ Cond.fieldLink (qm_oR o) idx (qm_cT ci f).1 (qm_cT ci f).2.1 (qm_cT ci f).2.2.1 ∈ lw_tbl) ∨ (20 ≤ t ∧ Cond.fieldLinkNest (qm_oR o) idx (qm_cT ci f).1 (qm_cT ci f).2.1 (qm_cT ci f).2.2.1 "SketchFiller" ∈ lw_tbl)) ∧
  (t / 10 % 2 = 1 ↔ (qm_cT ci f).2.2.2 = true) ∧ (t % 10 = 0 → qm_cy ci f = .int) ∧ (t % 10 = 1 → qm_cy ci f = .boolean) ∧ t % 10 < 3
/-- how long an instruction is, where that is fixed -/
def qm_len (i : Instr) : Nat := match i with
  | .bipush _ => 2
  | .sipush _ => 3
  | .ldc _ => 2
  | .ldc2_w _ => 3
  | .iload _ => 2
  | .aload _ => 2
  | .lload _ => 2
  | .istore _ => 2
  | .astore _ => 2
  | .lstore _ => 2
  | .iinc _ _ => 3
  | .ifCond _ _ => 3
  | .if_icmp _ _ => 3
  | .ifnull _ => 3
  | .ifnonnull _ => 3
  | .goto _ => 3
  | .getfield _ => 3
  | .putfield _ => 3
  | .new _ => 3
  | .newarray _ => 2
  | .invokestatic _ => 3
  | .invokevirtual _ => 3
  | .invokespecial _ => 3
  | _ => 1
def qm_sw (i : Instr) : Bool := match i with
  | .tableswitch .. => true
  | .lookupswitch .. => true
  | _ => false
/-- a callee's own words -/
def qm_jk (rj : qm_R) : Prop := Cond.code rj.1 rj.2.1 rj.2.2.1 rj.2.2.2.1 ∈ lw_tbl ∧ Cond.initialized rj.1.cls ∈ lw_tbl ∧ (rj.1.cls ≠ "java/lang/invoke/MethodHandle" ∧ rj.1.cls ≠ "java/lang/invoke/VarHandle") ∧ (rj.2.2.2.2.2.1 = 7 ∨ plainName rj.1.cls = true) ∧ rj.2.2.1 ≤ 21 ∧ qm_oR rj.2.2.2.2.1 = rj.1.cls ∧
  (rj.2.2.2.2.2.1 = 0 → rj.2.2.2.1 = none) ∧ (rj.2.2.2.2.2.1 = 1 → rj.2.2.2.1 = some .int) ∧ (rj.2.2.2.2.2.1 = 2 → rj.2.2.2.1 = some .boolean) ∧ (rj.2.2.2.2.2.1 = 3 → ((∃ n, rj.2.2.2.1 = some (.object n)) ∨ ∃ t, rj.2.2.2.1 = some (.array t))) ∧ (rj.2.2.2.2.2.1 = 4 → rj.2.2.2.1 = some .long) ∧ (rj.2.2.2.2.2.1 = 7 → rj.2.2.2.2.2.2 = [])
abbrev qm_np (rj : qm_R) (n : Nat) : Prop := (parseMethodDescriptor rj.1.desc).map (fun d => d.parameters.length) = some n
def qm_eOK (r : qm_R) (e : qm_e) : Prop := match e.1 with
  | .getfield idx => qm_fl r.2.2.2.2.1 idx e.2.2.1 e.2.2.2.1 e.2.2.2.2
  | .putfield idx => qm_fl r.2.2.2.2.1 idx e.2.2.1 e.2.2.2.1 e.2.2.2.2 ∧ (e.2.2.2.2 / 10 % 2 = 1 → e.2.2.2.2 < 20 ∧ r.1.name = "<init>" ∧ (qm_cT e.2.2.1 e.2.2.2.1).1 = qm_oR r.2.2.2.2.1)
  | .new idx => e.2.2.1 < 10 ∧ Cond.classLink (qm_oR r.2.2.2.2.1) idx (qm_cR e.2.2.1) ∈ lw_tbl
  | .ldc idx => (e.2.2.1 = 0 → Cond.constant (qm_oR r.2.2.2.2.1) idx 1000000 ∈ lw_tbl) ∧ (e.2.2.1 = 1 → r.2.2.2.2.1 = 6 ∧ idx = 60) ∧ (e.2.2.1 = 2 → r.2.2.2.2.1 = 6 ∧ idx = 53)
  | .ldc2_w idx => Cond.constantLong (qm_oR r.2.2.2.2.1) idx (if e.2.2.2.1 = 0 then Int64.ofNat e.2.2.1 else - Int64.ofNat e.2.2.1) ∈ lw_tbl
  | .invokevirtual idx => ∃ rj, qm_m e.2.2.1 = some rj ∧ qm_np rj e.2.2.2.1 ∧ Cond.methodLink (qm_oR r.2.2.2.2.1) idx rj.1 ∈ lw_tbl ∧ Cond.instanceMethod rj.1 ∈ lw_tbl ∧ Cond.selects rj.1.cls rj.1 rj.1 ∈ lw_tbl ∧ (e.2.2.2.2 = 99 ↔ qm_NM ≤ e.2.2.1) ∧ (e.2.2.2.2 ≠ 99 → e.2.2.2.2 < 10 ∧ rj.1.cls = qm_cR e.2.2.2.2)
  | .invokestatic idx => ∃ rj, qm_m e.2.2.1 = some rj ∧ qm_np rj e.2.2.2.1 ∧ Cond.methodLink (qm_oR r.2.2.2.2.1) idx rj.1 ∈ lw_tbl ∧ Cond.static rj.1 ∈ lw_tbl
  | .invokespecial idx => (e.2.2.1 = 999 → Cond.methodLink (qm_oR r.2.2.2.2.1) idx objectInit ∈ lw_tbl) ∧ (e.2.2.1 ≠ 999 → ∃ rj, qm_m e.2.2.1 = some rj ∧ qm_np rj e.2.2.2.1 ∧ rj.1.name = "<init>" ∧ rj.2.2.2.1 = none ∧ e.2.2.1 < qm_NM ∧ Cond.instanceMethod rj.1 ∈ lw_tbl ∧ (Cond.methodLink (qm_oR r.2.2.2.2.1) idx rj.1 ∈ lw_tbl ∨ Cond.methodLinkNest (qm_oR r.2.2.2.2.1) idx rj.1 "SketchFiller" ∈ lw_tbl))
  | _ => True
/-- the words that go from a method to its callees -/
def qm_T : List Cond := lw_tbl.filter goodWord
/-- words of nest mates and casts: they go by a warmth of their own -/
def qm_isN (w : Cond) : Bool := match w with
  | .fieldLinkNest .. => true
  | .methodLinkNest .. => true
  | .castable .. => true
  | .declares .. => true
  | _ => false
def qm_nw (U : State) : Prop := ∀ w ∈ lw_tbl, qm_isN w = true → va_Nw w U
theorem qm_nw.warm {s U : State} (hW : s.WarmedH U.vm) (h : qm_nw s) : qm_nw U := by
  intro w hw hn
  have h1 := h w hw hn
  cases w <;> first | exact va_Nw.warmF hW h1 | exact va_Nw.warmM hW h1 | exact va_Nw.warmC hW h1 | exact va_Nw.warmD hW h1 | cases hn
theorem qm_nw.same {u U : State} (he : u.vm = U.vm) (h : qm_nw u) : qm_nw U := by
  intro w hw hn
  have h1 := h w hw hn
  cases w <;> first | exact va_Nw.same rfl he h1 | cases hn
/-- the method r stands -/
def qm_X (p : Program) (s : State) (m : MethodId) (args : Array Value) (meth : Method) (c : Code) (r : qm_R) : Prop :=
  p.tables.exec = Jvm.exec ∧ c.code = r.2.1 ∧ c.maxLocals = r.2.2.1 ∧ meth.sig.returnType = r.2.2.2.1 ∧ s.vm.findClass (qm_oR r.2.2.2.2.1) = some m.cls ∧ (∀ w ∈ qm_T, w.before args s = true) ∧ meth.locks = false ∧ meth.name = r.1.name ∧ qm_nw s
/-- the locals -/
def qm_L (ad : Nat → Nat) (ls : Array Slot) (nL : Nat) (ml : List Value) : Prop := ls.size = nL ∧ lv_wf ls ∧ ml.length = nL ∧ ∀ (i : Nat) (v : Value), qm_ld ml i = some v → ls[i]? = some (.val (qm_cv ad v))
/-- the world, at heap H -/
def qm_J (D : va_G) (G : ClassId × ClassId × ClassId) (ad : Nat → Nat) (Af : Nat → Prop) (H0 H : Heap) (locs : List Loc) (h : qm_H) : Prop :=
  va_P D vwCl (qm_W G ad h) H ∧ va_D Af (qm_W G ad h) ∧ va_S Af H0 H locs ∧ ∀ a, h.1.length ≤ a → a < 1000000 → ad a = H.size + (a - h.1.length)
def qm_lv (ad : Nat → Nat) (ml : List Value) : List (Nat × Value) := (List.range ml.length).filterMap (fun i => (qm_ld ml i).map (fun v => (i, qm_cv ad v)))
theorem qm_L.lv {ad : Nat → Nat} {ls : Array Slot} {nL : Nat} {ml : List Value} (h : qm_L ad ls nL ml) : lv_has ls nL (qm_lv ad ml) := by
  refine ⟨h.1, h.2.1, fun q hq => ?_⟩
  unfold qm_lv at hq
  obtain ⟨i, -, hi⟩ := List.mem_filterMap.mp hq
  cases hv : qm_ld ml i with
  | none => rw [hv] at hi; cases hi
  | some v =>
    rw [hv] at hi
    cases hi
    exact h.2.2.2 i v hv
theorem qm_cv_cat (ad : Nat → Nat) (v : Value) : (qm_cv ad v).category = v.category := by cases v <;> rfl
theorem qm_ld_some {ml : List Value} {i : Nat} {v : Value} (h : qm_ld ml i = some v) : ml[i]? = some v ∧ ∀ z, v ≠ .retAddr z := by
  unfold qm_ld at h
  cases hx : ml[i]? with
  | none => rw [hx] at h; cases h
  | some w =>
    rw [hx] at h
    cases w <;> first | (cases h; exact ⟨rfl, fun z hz => by cases hz⟩) | cases h
theorem qm_ld_of {ml : List Value} {i : Nat} {v : Value} (h : ml[i]? = some v) (hn : ∀ z, v ≠ .retAddr z) : qm_ld ml i = some v := by
  unfold qm_ld
  rw [h]
  cases v <;> first | rfl | exact absurd rfl (hn _)
theorem qm_lv_mem {ad : Nat → Nat} {ml : List Value} {i : Nat} {v : Value} (h : qm_ld ml i = some v) : (i, qm_cv ad v) ∈ qm_lv ad ml := by
  unfold qm_lv
  refine List.mem_filterMap.mpr ⟨i, List.mem_range.mpr (List.getElem?_eq_some_iff.mp (qm_ld_some h).1).1, ?_⟩
  rw [h]; rfl
theorem qm_st_len (ls : List Value) (i : Nat) (v : Value) : (qm_st ls i v).length = ls.length := by
  unfold qm_st
  split
  · simp
  · split <;> simp
/-- a store of one word: what is still known -/
theorem qm_st_known {ls : List Value} {i j : Nat} {v w : Value} (h : qm_ld (qm_st ls i v) j = some w) : (j = i ∧ w = v) ∨ (j ≠ i ∧ qm_ld ls j = some w ∧ ¬ (j + 1 = i ∧ w.category = 2)) := by
  obtain ⟨h1, h2⟩ := qm_ld_some h
  have hjl : j < ls.length := by have := (List.getElem?_eq_some_iff.mp h1).1; rwa [qm_st_len] at this
  by_cases hj : j = i
  · subst hj
    left
    refine ⟨rfl, ?_⟩
    unfold qm_st at h1
    split at h1
    · rw [List.getElem?_set_self hjl] at h1; exact (Option.some.inj h1).symm
    · split at h1
      · rw [List.getElem?_set_self (by simpa using hjl)] at h1; exact (Option.some.inj h1).symm
      · rw [List.getElem?_set_self (by simpa using hjl)] at h1; exact (Option.some.inj h1).symm
      · rw [List.getElem?_set_self hjl] at h1; exact (Option.some.inj h1).symm
  · right
    refine ⟨hj, ?_⟩
    unfold qm_st at h1
    split at h1
    · rw [List.getElem?_set_ne (Ne.symm hj)] at h1
      exact ⟨qm_ld_of h1 h2, fun q => by omega⟩
    · rename_i j0
      have key : ∀ (h1 : ((ls.set j0 (.retAddr 0)).set (j0 + 1) v)[j]? = some w), qm_ld ls j = some w ∧ ¬ (j + 1 = j0 + 1 ∧ w.category = 2) := by
        intro h1
        rw [List.getElem?_set_ne (Ne.symm hj)] at h1
        by_cases hq : j = j0
        · subst hq
          rw [List.getElem?_set_self hjl] at h1
          exact absurd (Option.some.inj h1).symm (h2 0)
        · rw [List.getElem?_set_ne (Ne.symm hq)] at h1
          exact ⟨qm_ld_of h1 h2, fun q => by omega⟩
      split at h1
      · exact key h1
      · exact key h1
      · rename_i hx hy
        rw [List.getElem?_set_ne (Ne.symm hj)] at h1
        refine ⟨qm_ld_of h1 h2, fun q => ?_⟩
        obtain ⟨q1, q2⟩ := q
        have : j = j0 := by omega
        subst this
        cases w with
        | long z => exact hx _ h1
        | double z => exact hy _ h1
        | _ => simp [Value.category] at q2
theorem qm_L.st1 {ad : Nat → Nat} {ls ls' : Array Slot} {nL i : Nat} {ml : List Value} {v : Value} (h : qm_L ad ls nL ml) (h' : lv_has ls' nL ((i, qm_cv ad v) :: (qm_lv ad ml).filter (fun q => !(q.1 == i) && !(q.1 + 1 == i && q.2.category == 2)))) : qm_L ad ls' nL (qm_st ml i v) := by
  refine ⟨h'.1, h'.2.1, by rw [qm_st_len]; exact h.2.2.1, fun j w hj => ?_⟩
  rcases qm_st_known hj with ⟨rfl, rfl⟩ | ⟨h1, h2, h3⟩
  · exact h'.2.2 (j, qm_cv ad w) List.mem_cons_self
  · refine h'.2.2 (j, qm_cv ad w) (List.mem_cons_of_mem _ (List.mem_filter.mpr ⟨qm_lv_mem h2, ?_⟩))
    simp only [Bool.and_eq_true, Bool.not_eq_true', beq_eq_false_iff_ne, ne_eq, Bool.and_eq_false_iff, qm_cv_cat]
    refine ⟨h1, ?_⟩
    by_cases q : j + 1 = i
    · exact Or.inr (fun z => h3 ⟨q, z⟩)
    · exact Or.inl q
theorem qm_L.st2 {ad : Nat → Nat} {ls ls' : Array Slot} {nL i : Nat} {ml : List Value} {v : Value} (h : qm_L ad ls nL ml) (h' : lv_has ls' nL ((i, qm_cv ad v) :: (qm_lv ad ml).filter (fun q => !(q.1 == i) && (!(q.1 == i + 1) && !(q.1 + 1 == i && q.2.category == 2))))) : qm_L ad ls' nL ((qm_st ml i v).set (i + 1) (.retAddr 0)) := by
  refine ⟨h'.1, h'.2.1, by rw [List.length_set, qm_st_len]; exact h.2.2.1, fun j w hj => ?_⟩
  obtain ⟨g1, g2⟩ := qm_ld_some hj
  by_cases hi : j = i + 1
  · subst hi
    have hl : i + 1 < (qm_st ml i v).length := by have := (List.getElem?_eq_some_iff.mp g1).1; rwa [List.length_set] at this
    rw [List.getElem?_set_self hl] at g1
    exact absurd (Option.some.inj g1).symm (g2 0)
  · rw [List.getElem?_set_ne (Ne.symm hi)] at g1
    rcases qm_st_known (qm_ld_of g1 g2) with ⟨rfl, rfl⟩ | ⟨h1, h2, h3⟩
    · exact h'.2.2 (j, qm_cv ad w) List.mem_cons_self
    · refine h'.2.2 (j, qm_cv ad w) (List.mem_cons_of_mem _ (List.mem_filter.mpr ⟨qm_lv_mem h2, ?_⟩))
      simp only [Bool.and_eq_true, Bool.not_eq_true', beq_eq_false_iff_ne, ne_eq, Bool.and_eq_false_iff, qm_cv_cat]
      refine ⟨h1, hi, ?_⟩
      by_cases q : j + 1 = i
      · exact Or.inr (fun z => h3 ⟨q, z⟩)
      · exact Or.inl q
