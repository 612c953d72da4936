/-! THE CONTRACT: a method that the small machine runs to its end does likewise on the machine -/
def qm_Pc (D : va_G) (G : ClassId × ClassId × ClassId) (ad : Nat → Nat) (Af : Nat → Prop) (Xp : State → Prop) (as : List Value) (h : qm_H) : Array Value → State → Prop := fun av U =>
  av = (as.map (qm_cv ad)).toArray ∧ va_P D vwCl (qm_W G ad h) U.heap ∧ va_D Af (qm_W G ad h) ∧ va_K D vwCl (qm_tys G) U ∧ (∀ a, h.1.length ≤ a → a < 1000000 → ad a = U.heap.size + (a - h.1.length)) ∧ (∀ q, U.heap.size ≤ q → Af q) ∧ Xp U ∧ qm_nw U
def qm_Qc (D : va_G) (G : ClassId × ClassId × ClassId) (ad : Nat → Nat) (Af : Nat → Prop) (v : Option Value) (h : qm_H) : Array Value → State → Outcome → State → Prop := fun _ st o t =>
  o = .returned (v.map (qm_cv ad)) ∧ va_P D vwCl (qm_W G ad h) t.heap ∧ va_D Af (qm_W G ad h) ∧ (∀ a, h.1.length ≤ a → a < 1000000 → ad a = t.heap.size + (a - h.1.length)) ∧ va_F Af st t
def qm_rm (d mc ms : Nat) : Room := { frames := d + 1, cells := mc, slots := ms, locals := 40 * d + 40 }
/-- what stays true outside: it goes to warmer tables and to heaps that differ inside Af alone; string constants are what ldc says; nothing of a frame -/
def qm_XP (ad : Nat → Nat) (Af : Nat → Prop) (Xp : State → Prop) : Prop :=
  (∀ s U : State, s.WarmedH U.vm → s.heap.size ≤ U.heap.size → (∀ q : Nat, q < s.heap.size → ¬ Af q → U.heap[q]? = s.heap[q]?) → Xp s → Xp U) ∧ (∀ s, Xp s → qm_Xs ad s) ∧ ∀ (U : State) (g : JFrame) (mk : MethodId) (a : Array Value), Xp U → Xp (U.calling g mk a)
def qm_rk (r : qm_R) : Prop := qm_jk r ∧ ∀ (pc : Nat) (en : qm_e), r.2.2.2.2.2.2[pc]? = some (some en) → decode r.2.1 pc = .ok (en.1, en.2.1) ∧ qm_eOK r en ∧ (qm_sw en.1 = true ∨ en.2.1 = qm_len en.1)
/-- the library's members -/
def qm_PR (l : Launch) (D : va_G) (G : ClassId × ClassId × ClassId) (ad : Nat → Nat) (Af : Nat → Prop) (Xp : State → Prop) : Prop :=
  ∀ (p : Program) (e : Env) (R : Room) (s : State) (m : MethodId) (args : Array Value) (below : List Frame) (meth : Method) (c : Code) (H : Heap) (locs : List Loc) (cells slots : Nat) (Q : State → Prop) (r : qm_R) (en : qm_e) (pc : Nat) (ls st : List Value) (h h1 : qm_H) (lsR : Array Slot) (j : Nat) (as rest : List Value) (v : Option Value),
    qm_X p s m args meth c r → decode r.2.1 pc = .ok (en.1, en.2.1) → qm_eOK r en → (qm_sw en.1 = true ∨ en.2.1 = qm_len en.1) → va_K D vwCl (qm_tys G) s → (∀ q, s.heap.size ≤ q → Af q) → Xp s → qm_J D G ad Af s.heap H locs h → qm_L ad lsR r.2.2.1 ls →
    qm_x r.2.2.2.2.2.1 en pc ls st h = some (.inr (.inr (j, as, rest))) → qm_NM ≤ j → qm_p j as h = some (v, h1) → 10 ≤ R.frames → 400 ≤ R.locals → cells + (h1.1.length - h.1.length) ≤ R.cells → slots + (qm_sl h1.1 - qm_sl h.1) ≤ R.slots →
    (∀ (H' : Heap) (locs' : List Loc), qm_J D G ad Af s.heap H' locs' h1 → W p l e R s m args below meth c H' locs' (cells + (h1.1.length - h.1.length)) (slots + (qm_sl h1.1 - qm_sl h.1)) Q (F0 m (pc + 3) lsR ((v.toList ++ rest).map (qm_cv ad)))) →
    W p l e R s m args below meth c H locs cells slots Q (F0 m pc lsR (st.map (qm_cv ad)))
section QM
variable {p : Program} {l : Launch} {e : Env} {R : Room} {s : State} {m : MethodId} {args : Array Value} {below : List Frame} {meth : Method} {c : Code} {H : Heap} {locs : List Loc} {cells slots : Nat} {Q : State → Prop}
variable {D : va_G} {G : ClassId × ClassId × ClassId} {ad : Nat → Nat} {Af : Nat → Prop} {Xp : State → Prop}
theorem qm_blind (hXP : qm_XP ad Af Xp) (as : List Value) (h : qm_H) : FrameBlind (qm_Pc D G ad Af Xp as h) := by
  intro a U g mk q
  obtain ⟨q1, q2, q3, q4, q5, q6, q7, q8⟩ := q
  exact ⟨q1, q2, q3, va_K.moved (u := U) (U := U.calling g mk a) (Vm.Alike.refl U.vm) q4, q5, q6, hXP.2.2 U g mk a q7, qm_nw.same (u := U) (U := U.calling g mk a) rfl q8⟩
theorem qm_good (rj : qm_R) (hj : qm_jk rj) : GoodIn qm_T (Cond.code rj.1 rj.2.1 rj.2.2.1 rj.2.2.2.1 :: qm_T) := by
  intro w hw
  rcases List.mem_cons.mp hw with rfl | hw
  · exact ⟨qw_T hj.1 rfl, good_of_word rfl⟩
  · exact ⟨hw, good_of_word (qw_g hw)⟩
/-- what a caller hands on -/
theorem qm_hand (hXP : qm_XP ad Af Xp) {r : qm_R} (X : qm_X p s m args meth c r) (hK : va_K D vwCl (qm_tys G) s) (hA : ∀ q, s.heap.size ≤ q → Af q) (hXp : Xp s) {h : qm_H} (hJ : qm_J D G ad Af s.heap H locs h) (as : List Value) :
    ∀ U : State, U.heap = H → s.WarmedH U.vm → qm_Pc D G ad Af Xp as h (as.map (qm_cv ad)).toArray U := by
  intro U hU hW
  obtain ⟨hP, hD, hS, hz⟩ := hJ
  refine ⟨rfl, by rw [hU]; exact hP, hD, va_K.moved hW.alike hK, by rw [hU]; exact hz, fun q hq => hA q (Nat.le_trans hS.1 (by rw [hU] at hq; exact hq)), hXP.1 s U hW (by rw [hU]; exact hS.1) (fun q h1 h2 => by rw [hU]; exact hS.2.1 q h1 h2) hXp, X.2.2.2.2.2.2.2.2.warm hW⟩
/-- behind a call -/
theorem qm_cont {pc : Nat} {lsR : Array Slot} {st0 rest : List Value} {h1 : qm_H} {v : Option Value} {mc ms : Nat} {a : Array Value} (hr : va_Run p l e R s m args below meth c H locs cells slots mc ms (F0 m pc lsR st0) rest (qm_Qc D G ad Af v h1 a) Af) (hS : va_S Af s.heap H locs)
    (kk : ∀ (H' : Heap) (locs' : List Loc), qm_J D G ad Af s.heap H' locs' h1 → W p l e R s m args below meth c H' locs' (cells + mc) (slots + ms) Q (F0 m (pc + 3) lsR ((v.map (qm_cv ad)).toList ++ rest))) : W p l e R s m args below meth c H locs cells slots Q (F0 m pc lsR st0) := by
  intro T hT X
  obtain ⟨v', st₀, t, T', L, h0, X', hL, e1, e2, ⟨hv, q1, q2, q3, hz, hk⟩, st⟩ := hr T hT X
  have hv' := Outcome.returned.inj hv
  subst hv'
  rw [h0] at hz hk
  obtain ⟨t2, a1, b1⟩ := kk T'.heap (locs ++ L) ⟨by rw [e1]; exact q1, q2, ⟨Nat.le_trans hS.1 (by rw [e1]; exact hz), fun q g1 g2 => by rw [e1, hk q (Nat.lt_of_lt_of_le g1 hS.1) g2]; exact hS.2.1 q g1 g2, fun q hq => by
      rcases List.mem_append.mp hq with h | h
      · exact hS.2.2 q h
      · exact hL q h⟩, by rw [e1]; exact q3⟩ T' rfl X'
  exact ⟨t2, st t2 a1, b1⟩
/-- a method's end -/
theorem qm_end {r : qm_R} {en : qm_e} {pc : Nat} {ls st : List Value} {h : qm_H} {v : Option Value} {lsR : Array Slot} (X : qm_X p s m args meth c r) (hj : qm_jk r) (hd : decode r.2.1 pc = .ok (en.1, en.2.1)) (hln : qm_sw en.1 = true ∨ en.2.1 = qm_len en.1) (hJ : qm_J D G ad Af s.heap H locs h)
    (hs : qm_x r.2.2.2.2.2.1 en pc ls st h = some (.inr (.inl v))) : W p l e R s m args below meth c H locs cells slots (MQ below (qm_Qc D G ad Af v h) args s cells slots Af) (F0 m pc lsR (st.map (qm_cv ad))) := by
  obtain ⟨i, len, ea, eb, et⟩ := en
  obtain ⟨hx, hb, hml, hr, hown, hts, hlk, hnm, hnw⟩ := X
  obtain ⟨-, -, -, -, -, -, r0, r1, r2, r3, r4, -⟩ := hj
  have fin : ∀ t : State, t.heap = H → qm_Qc D G ad Af v h args s (.returned (v.map (qm_cv ad))) t := fun t ht => ⟨rfl, by rw [ht]; exact hJ.1, hJ.2.1, by rw [ht]; exact hJ.2.2.2, hJ.2.2.1.F ht⟩
  dsimp only at hd hln
  cases i with
  | return_ =>
    obtain rfl : len = 1 := hln.resolve_left (fun q => by cases q)
    simp only [qm_x] at hs
    split at hs
    · rename_i hc
      obtain ⟨hc1, rfl⟩ := hc
      cases hs
      exact W.vret hx hb (by rw [hr]; exact r0 hc1) (fun t ht _ => fin t ht) hJ.2.2.1.2.2 hd
    · cases hs
  | ireturn =>
    obtain rfl : len = 1 := hln.resolve_left (fun q => by cases q)
    simp only [qm_x] at hs
    split at hs
    · split at hs
      · rename_i x hc
        cases hs
        rcases hc with hc | ⟨hc, hz⟩
        · exact W.iret hx hb (by rw [hr]; exact r1 hc) (fun t ht _ => fin t ht) hJ.2.2.1.2.2 hd
        · exact W.zret hx hb (by rw [hr]; exact r2 hc) (qs_bzn hz) (fun t ht _ => fin t ht) hJ.2.2.1.2.2 hd
      · cases hs
    · cases hs
  | areturn =>
    obtain rfl : len = 1 := hln.resolve_left (fun q => by cases q)
    simp only [qm_x] at hs
    split at hs
    · split at hs
      · rename_i x hc
        cases hs
        rcases r3 hc with ⟨n, hn⟩ | ⟨n, hn⟩
        · exact W.aret hx hb (by rw [hr]; exact hn) (Or.inl ⟨n, rfl⟩) (Or.inr ⟨_, rfl⟩) (fun t ht _ => fin t ht) hJ.2.2.1.2.2 hd
        · exact W.aret hx hb (by rw [hr]; exact hn) (Or.inr ⟨n, rfl⟩) (Or.inr ⟨_, rfl⟩) (fun t ht _ => fin t ht) hJ.2.2.1.2.2 hd
      · cases hs
    · cases hs
  | lreturn =>
    obtain rfl : len = 1 := hln.resolve_left (fun q => by cases q)
    simp only [qm_x] at hs
    split at hs
    · split at hs
      · rename_i x hc
        cases hs
        exact W.lret hx hb (by rw [hr]; exact r4 hc) (fun t ht _ => fin t ht) hJ.2.2.1.2.2 hd
      · cases hs
    · cases hs
  | _ =>
    simp only [qm_x, qm_nx, qm_go] at hs
    repeat' split at hs
    all_goals cases hs
end QM
