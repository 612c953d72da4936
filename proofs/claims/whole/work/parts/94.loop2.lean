/-! THE LAW'S LOOP with what a longer row may still take -/
def qE_pt (h : qm_H) : Nat := 2 * (16384 - (h.1.getD 3 (0, 0)).2)
def qE_step (p : Program) (l : Launch) (e : Env) (R : Room) (s : State) (m : MethodId) (args : Array Value) (below : List Frame) (meth : Method) (c : Code) (Q : State → Prop) (D : va_G) (G : ClassId × ClassId × ClassId) (b L X M o cu su : Nat) (REL : qm_H → qm_H → Prop) : Prop :=
  ∀ (I : Nat) (H : Heap) (Ax Am : Nat → Prop) (ax am : Nat → Nat) (hX0 hM0 : qm_H) (co : Cell) (cells slots : Nat) (ls : Array Slot), I + 6 ≤ L → qL_St D G s H Ax ax hX0 Am am hM0 o co → REL hX0 hM0 → ax 0 = X → am 0 = M → lv_has ls 7 (qL_lv b X M o I) → cells + cu ≤ R.cells → slots + su + qE_pt hX0 ≤ R.slots →
    (∀ (H' : Heap) (Ax' Am' : Nat → Prop) (ax' am' : Nat → Nat) (hX' hM' : qm_H) (co' : Cell) (ls' : Array Slot) (slots' : Nat), slots' + qE_pt hX' ≤ slots + su + qE_pt hX0 → qL_St D G s H' Ax' ax' hX' Am' am' hM' o co' → REL hX' hM' → ax' 0 = X → am' 0 = M → lv_has ls' 7 (qL_lv b X M o I) → W p l e R s m args below meth c H' [] (cells + cu) slots' Q (F0 m 1084 ls' [])) →
    W p l e R s m args below meth c H [] cells slots Q (F0 m 33 ls [])
def qE_case (p : Program) (l : Launch) (e : Env) (R : Room) (s : State) (m : MethodId) (args : Array Value) (below : List Frame) (meth : Method) (c : Code) (Q : State → Prop) (D : va_G) (G : ClassId × ClassId × ClassId) (b L X M o cu su : Nat) (REL : qm_H → qm_H → Prop) (pc : Nat) : Prop :=
  ∀ (I : Nat) (H : Heap) (Ax Am : Nat → Prop) (ax am : Nat → Nat) (hX0 hM0 : qm_H) (co : Cell) (cells slots : Nat) (ls : Array Slot), I + 6 ≤ L → qL_St D G s H Ax ax hX0 Am am hM0 o co → REL hX0 hM0 → ax 0 = X → am 0 = M → lv_has ls 7 (qL_lv b X M o I) → cells + cu ≤ R.cells → slots + su + qE_pt hX0 ≤ R.slots →
    (∀ (H' : Heap) (Ax' Am' : Nat → Prop) (ax' am' : Nat → Nat) (hX' hM' : qm_H) (co' : Cell) (ls' : Array Slot) (slots' : Nat), slots' + qE_pt hX' ≤ slots + su + qE_pt hX0 → qL_St D G s H' Ax' ax' hX' Am' am' hM' o co' → REL hX' hM' → ax' 0 = X → am' 0 = M → lv_has ls' 7 (qL_lv b X M o I) → W p l e R s m args below meth c H' [] (cells + cu) slots' Q (F0 m 1084 ls' [])) →
    W p l e R s m args below meth c H [] cells slots Q (F0 m pc ls [])
section QEP
variable {p : Program} {l : Launch} {e : Env} {R : Room} {s : State} {m : MethodId} {args : Array Value} {below : List Frame} {meth : Method} {c : Code} {Q : State → Prop}
variable {D : va_G} {G : ClassId × ClassId × ClassId} {o b L X M cu su : Nat} {xs : Nat → Int32} {REL : qm_H → qm_H → Prop}
theorem law_loop2 (hx : p.tables.exec = Jvm.exec) (hb : c.code = cL_law) (hX : va_X b L xs s s.heap) (hbl : b < s.heap.size) (hL : L ≤ 3072) {C Z : Nat} (hRc : C ≤ R.cells) (hRs : Z ≤ R.slots) (hstep : qE_step p l e R s m args below meth c Q D G b L X M o cu su REL)
    (hend : ∀ (H : Heap) (ls : Array Slot), W p l e R s m args below meth c H [] C Z Q (F0 m 1091 ls [.int 1])) :
    ∀ (n I : Nat) (H : Heap) (Ax Am : Nat → Prop) (ax am : Nat → Nat) (hX0 hM0 : qm_H) (co : Cell) (cells slots : Nat) (ls : Array Slot), I ≤ L → L < I + 6 * (n + 1) → qL_St D G s H Ax ax hX0 Am am hM0 o co → REL hX0 hM0 → ax 0 = X → am 0 = M → lv_has ls 7 (qL_lv b X M o I) → cells + cu * n ≤ C → slots + su * n + qE_pt hX0 ≤ Z →
    W p l e R s m args below meth c H [] cells slots Q (F0 m 23 ls []) := by
  intro n
  induction n with
  | zero =>
    intro I H Ax Am ax am hX0 hM0 co cells slots ls hIL hn S hR h1 h2 hl hC hZ
    refine lv_iload hx hb dL_law_23 (lv_at hl 0 rfl) ?_
    refine lv_aload_n hx hb dL_law_25 rfl (lv_at hl 4 rfl) ?_
    refine va_slen hx hb hX hbl (Nat.not_le_of_lt hbl) S.1 dL_law_26 ?_
    refine lv_bipush (v := 6) hx hb dL_law_27 (by decide) ?_
    refine lv_isub hx hb dL_law_29 ?_
    refine lv_icmp_gt (tgt := 1090) hx hb dL_law_30 (by decide) (fun _ => ?_) (fun z => absurd ((qL_cmp (by omega) (by omega)).mpr (by omega)) z)
    refine lv_iconst (v := 1) hx hb dL_law_1090 (by decide) ?_
    exact qL_mono (by omega) (by omega) (hend H ls)
  | succ n ih =>
    intro I H Ax Am ax am hX0 hM0 co cells slots ls hIL hn S hR h1 h2 hl hC hZ
    have e1 : cu * (n + 1) = cu * n + cu := Nat.mul_succ cu n
    have e2 : su * (n + 1) = su * n + su := Nat.mul_succ su n
    rw [e1] at hC
    rw [e2] at hZ
    refine lv_iload hx hb dL_law_23 (lv_at hl 0 rfl) ?_
    refine lv_aload_n hx hb dL_law_25 rfl (lv_at hl 4 rfl) ?_
    refine va_slen hx hb hX hbl (Nat.not_le_of_lt hbl) S.1 dL_law_26 ?_
    refine lv_bipush (v := 6) hx hb dL_law_27 (by decide) ?_
    refine lv_isub hx hb dL_law_29 ?_
    refine lv_icmp_gt (tgt := 1090) hx hb dL_law_30 (by decide) (fun _ => ?_) (fun z => ?_)
    · refine lv_iconst (v := 1) hx hb dL_law_1090 (by decide) ?_
      exact qL_mono (by omega) (by omega) (hend H ls)
    · have hI6 : I + 6 ≤ L := by
        have hq : ¬ L < I + 6 := fun y => z ((qL_cmp (I := I) (L := L) (by omega) (by omega)).mpr y)
        omega
      refine hstep I H Ax Am ax am hX0 hM0 co cells slots ls hI6 S hR h1 h2 hl (by omega) (by omega) ?_
      intro H' Ax' Am' ax' am' hX' hM' co' ls' slots' hs' S' hR' h1' h2' hl'
      refine lv_iinc (k := 0) (v := Int32.ofNat (I + 6)) (lv' := qL_lv b X M o (I + 6)) hx hb dL_law_1084 hl' rfl (qL_inc I) (by decide) rfl (fun ls hl => ?_)
      refine lv_goto (tgt := 23) hx hb dL_law_1087 (by decide) ?_
      exact ih (I + 6) H' Ax' Am' ax' am' hX' hM' co' (cells + cu) slots' ls hI6 (by omega) S' hR' h1' h2' hl (by omega) (by omega)
end QEP
section QET
variable {p : Program} {l : Launch} {e : Env} {R : Room} {s : State} {m : MethodId} {args : Array Value} {below : List Frame} {meth : Method} {c : Code} {Q : State → Prop}
variable {D : va_G} {G : ClassId × ClassId × ClassId} {o b L X M cu su d K0 K1 : Nat} {xs : Nat → Int32} {REL : qm_H → qm_H → Prop}
theorem law_step2 (hx : p.tables.exec = Jvm.exec) (hb : c.code = cL_law) (hX : va_X b L xs s s.heap) (hbl : b < s.heap.size) (hL : L ≤ 3072) (w_feed : qE_case p l e R s m args below meth c Q D G b L X M o cu su REL 172) (w_sketch : qE_case p l e R s m args below meth c Q D G b L X M o cu su REL 245) (w_has : qE_case p l e R s m args below meth c Q D G b L X M o cu su REL 270) (w_hole : qE_case p l e R s m args below meth c Q D G b L X M o cu su REL 295) (w_value : qE_case p l e R s m args below meth c Q D G b L X M o cu su REL 332) (w_cost : qE_case p l e R s m args below meth c Q D G b L X M o cu su REL 369) (w_ranked : qE_case p l e R s m args below meth c Q D G b L X M o cu su REL 394) (w_verdict : qE_case p l e R s m args below meth c Q D G b L X M o cu su REL 450) (w_steps : qE_case p l e R s m args below meth c Q D G b L X M o cu su REL 487) (w_ends : qE_case p l e R s m args below meth c Q D G b L X M o cu su REL 524) (w_refuter : qE_case p l e R s m args below meth c Q D G b L X M o cu su REL 573) (w_guess : qE_case p l e R s m args below meth c Q D G b L X M o cu su REL 598) (w_check : qE_case p l e R s m args below meth c Q D G b L X M o cu su REL 611) (w_go : qE_case p l e R s m args below meth c Q D G b L X M o cu su REL 624) (w_pin : qE_case p l e R s m args below meth c Q D G b L X M o cu su REL 649) (w_keep : qE_case p l e R s m args below meth c Q D G b L X M o cu su REL 686) (w_drop : qE_case p l e R s m args below meth c Q D G b L X M o cu su REL 711) (w_set : qE_case p l e R s m args below meth c Q D G b L X M o cu su REL 736) (w_state : qE_case p l e R s m args below meth c Q D G b L X M o cu su REL 773) (w_many : qE_case p l e R s m args below meth c Q D G b L X M o cu su REL 798) (w_by : qE_case p l e R s m args below meth c Q D G b L X M o cu su REL 823) (w_refutes : qE_case p l e R s m args below meth c Q D G b L X M o cu su REL 860) (w_sharpest : qE_case p l e R s m args below meth c Q D G b L X M o cu su REL 885) (w_free : qE_case p l e R s m args below meth c Q D G b L X M o cu su REL 910) (w_needed : qE_case p l e R s m args below meth c Q D G b L X M o cu su REL 947) (w_core : qE_case p l e R s m args below meth c Q D G b L X M o cu su REL 972) (w_kinds : qE_case p l e R s m args below meth c Q D G b L X M o cu su REL 997) (w_alike : qE_case p l e R s m args below meth c Q D G b L X M o cu su REL 1010) (w_shown : qE_case p l e R s m args below meth c Q D G b L X M o cu su REL 1047) : qE_step p l e R s m args below meth c Q D G b L X M o cu su REL := by
  intro I H Ax Am ax am hX0 hM0 co cells slots ls hI S hR h1 h2 hl hC hSl kk
  refine law_sw hx hb hX hbl hL hI hl S.1 (fun t ht _ => ?_) (qL_mono (Nat.le_add_right _ _) (Nat.le_add_right _ _) (kk H Ax Am ax am hX0 hM0 co ls (slots + su) (Nat.le_refl _) S hR h1 h2 hl))
  match t, ht with
  | 0, _ => exact w_feed I H Ax Am ax am hX0 hM0 co cells slots ls hI S hR h1 h2 hl hC hSl kk
  | 1, _ => exact w_sketch I H Ax Am ax am hX0 hM0 co cells slots ls hI S hR h1 h2 hl hC hSl kk
  | 2, _ => exact w_has I H Ax Am ax am hX0 hM0 co cells slots ls hI S hR h1 h2 hl hC hSl kk
  | 3, _ => exact w_hole I H Ax Am ax am hX0 hM0 co cells slots ls hI S hR h1 h2 hl hC hSl kk
  | 4, _ => exact w_value I H Ax Am ax am hX0 hM0 co cells slots ls hI S hR h1 h2 hl hC hSl kk
  | 5, _ => exact w_cost I H Ax Am ax am hX0 hM0 co cells slots ls hI S hR h1 h2 hl hC hSl kk
  | 6, _ => exact w_ranked I H Ax Am ax am hX0 hM0 co cells slots ls hI S hR h1 h2 hl hC hSl kk
  | 7, _ => exact w_verdict I H Ax Am ax am hX0 hM0 co cells slots ls hI S hR h1 h2 hl hC hSl kk
  | 8, _ => exact w_steps I H Ax Am ax am hX0 hM0 co cells slots ls hI S hR h1 h2 hl hC hSl kk
  | 9, _ => exact w_ends I H Ax Am ax am hX0 hM0 co cells slots ls hI S hR h1 h2 hl hC hSl kk
  | 10, _ => exact w_refuter I H Ax Am ax am hX0 hM0 co cells slots ls hI S hR h1 h2 hl hC hSl kk
  | 11, _ => exact w_guess I H Ax Am ax am hX0 hM0 co cells slots ls hI S hR h1 h2 hl hC hSl kk
  | 12, _ => exact w_check I H Ax Am ax am hX0 hM0 co cells slots ls hI S hR h1 h2 hl hC hSl kk
  | 13, _ => exact w_go I H Ax Am ax am hX0 hM0 co cells slots ls hI S hR h1 h2 hl hC hSl kk
  | 14, _ => exact w_pin I H Ax Am ax am hX0 hM0 co cells slots ls hI S hR h1 h2 hl hC hSl kk
  | 15, _ => exact w_keep I H Ax Am ax am hX0 hM0 co cells slots ls hI S hR h1 h2 hl hC hSl kk
  | 16, _ => exact w_drop I H Ax Am ax am hX0 hM0 co cells slots ls hI S hR h1 h2 hl hC hSl kk
  | 17, _ => exact w_set I H Ax Am ax am hX0 hM0 co cells slots ls hI S hR h1 h2 hl hC hSl kk
  | 18, _ => exact w_state I H Ax Am ax am hX0 hM0 co cells slots ls hI S hR h1 h2 hl hC hSl kk
  | 19, _ => exact w_many I H Ax Am ax am hX0 hM0 co cells slots ls hI S hR h1 h2 hl hC hSl kk
  | 20, _ => exact w_by I H Ax Am ax am hX0 hM0 co cells slots ls hI S hR h1 h2 hl hC hSl kk
  | 21, _ => exact w_refutes I H Ax Am ax am hX0 hM0 co cells slots ls hI S hR h1 h2 hl hC hSl kk
  | 22, _ => exact w_sharpest I H Ax Am ax am hX0 hM0 co cells slots ls hI S hR h1 h2 hl hC hSl kk
  | 23, _ => exact w_free I H Ax Am ax am hX0 hM0 co cells slots ls hI S hR h1 h2 hl hC hSl kk
  | 24, _ => exact w_needed I H Ax Am ax am hX0 hM0 co cells slots ls hI S hR h1 h2 hl hC hSl kk
  | 25, _ => exact w_core I H Ax Am ax am hX0 hM0 co cells slots ls hI S hR h1 h2 hl hC hSl kk
  | 26, _ => exact w_kinds I H Ax Am ax am hX0 hM0 co cells slots ls hI S hR h1 h2 hl hC hSl kk
  | 27, _ => exact w_alike I H Ax Am ax am hX0 hM0 co cells slots ls hI S hR h1 h2 hl hC hSl kk
  | 28, _ => exact w_shown I H Ax Am ax am hX0 hM0 co cells slots ls hI S hR h1 h2 hl hC hSl kk
  | t + 29, ht => exact absurd ht (by omega)
theorem qE_op {kx nx km nm : Nat} {as : List Int32} {hX hM : qm_H} {K : List (Nat × Nat)} (h : qS_op d kx nx km nm as REL hX hM) (hK : hX.1 = K) : qS_op d kx nx km nm as (fun hX hM => REL hX hM ∧ hX.1 = K) hX hM := by
  obtain ⟨v, hX1, hM1, a, b, c, e1, e2⟩ := h
  exact ⟨v, hX1, hM1, a, b, ⟨c, e1.trans hK⟩, e1, e2⟩
theorem qE_of {pc : Nat} (h : ∀ K, qL_case p l e R s m args below meth c Q D G b L X M o cu su (fun hX hM => REL hX hM ∧ hX.1 = K) pc) : qE_case p l e R s m args below meth c Q D G b L X M o cu su REL pc := by
  intro I H Ax Am ax am hX0 hM0 co cells slots ls hI S hR h1 h2 hl hC hSl kk
  refine h hX0.1 I H Ax Am ax am hX0 hM0 co cells slots ls hI S ⟨hR, rfl⟩ h1 h2 hl hC (by omega) ?_
  intro H' Ax' Am' ax' am' hX' hM' co' ls' S' hR' h1' h2' hl'
  exact kk H' Ax' Am' ax' am' hX' hM' co' ls' (slots + su) (by unfold qE_pt; rw [hR'.2]; exact Nat.le_refl _) S' hR'.1 h1' h2' hl'
end QET
