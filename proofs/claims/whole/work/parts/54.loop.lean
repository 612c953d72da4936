/-! THE LAW'S LOOP, over a relation that each step keeps -/
theorem qL_cmp {I L : Nat} (hI : I < 10000) (hL : L < 10000) : (Int32.ofNat L - 6 < Int32.ofNat I) ↔ L < I + 6 := by
  rw [Int32.lt_iff_toInt_lt, Int32.toInt_sub, Int32.toInt_ofNat_of_lt (by omega), Int32.toInt_ofNat_of_lt (by omega)]
  have h6 : (6 : Int32).toInt = 6 := by decide
  rw [h6]
  rw [Int.bmod_eq_of_le (by omega) (by omega)]
  omega
theorem qL_inc (I : Nat) : Int32.ofNat I + Int32.ofInt 6 = Int32.ofNat (I + 6) := by
  rw [Int32.ofNat_add]; rfl
section QLP
variable {p : Program} {l : Launch} {e : Env} {R : Room} {s : State} {m : MethodId} {args : Array Value} {below : List Frame} {meth : Method} {c : Code} {Q : State → Prop}
variable {D : va_G} {G : ClassId × ClassId × ClassId} {o b L X M cu su : Nat} {xs : Nat → Int32} {REL : qm_H → qm_H → Prop}
theorem qL_mono {H : Heap} {locs : List Loc} {cells slots cells' slots' : Nat} {g : JFrame} (hc : cells ≤ cells') (hs : slots ≤ slots') (kk : W p l e R s m args below meth c H locs cells' slots' Q g) : W p l e R s m args below meth c H locs cells slots Q g := fun T hT Y => kk T hT (Y.mono hc hs)
def qL_lv (b X M o I : Nat) : List (Nat × Value) := [(4, .int (Int32.ofNat I)), (3, .ref o), (2, .ref M), (1, .ref X), (0, .ref b)]
/-- one round of the law's loop, from its switch's argument to its end -/
def qL_step (p : Program) (l : Launch) (e : Env) (R : Room) (s : State) (m : MethodId) (args : Array Value) (below : List Frame) (meth : Method) (c : Code) (Q : State → Prop) (D : va_G) (G : ClassId × ClassId × ClassId) (b L X M o cu su : Nat) (REL : qm_H → qm_H → Prop) : Prop :=
  ∀ (I : Nat) (H : Heap) (Ax Am : Nat → Prop) (ax am : Nat → Nat) (hX0 hM0 : qm_H) (co : Cell) (cells slots : Nat) (ls : Array Slot), I + 6 ≤ L → qL_St D G s H Ax ax hX0 Am am hM0 o co → REL hX0 hM0 → ax 0 = X → am 0 = M → lv_has ls 7 (qL_lv b X M o I) → cells + cu ≤ R.cells → slots + su ≤ R.slots →
    (∀ (H' : Heap) (Ax' Am' : Nat → Prop) (ax' am' : Nat → Nat) (hX' hM' : qm_H) (co' : Cell) (ls' : Array Slot), qL_St D G s H' Ax' ax' hX' Am' am' hM' o co' → REL hX' hM' → ax' 0 = X → am' 0 = M → lv_has ls' 7 (qL_lv b X M o I) → W p l e R s m args below meth c H' [] (cells + cu) (slots + su) Q (F0 m 1084 ls' [])) →
    W p l e R s m args below meth c H [] cells slots Q (F0 m 33 ls [])
theorem law_loop (hx : p.tables.exec = Jvm.exec) (hb : c.code = cL_law) (hX : va_X b L xs s s.heap) (hbl : b < s.heap.size) (hL : L ≤ 3072) {C Z : Nat} (hRc : C ≤ R.cells) (hRs : Z ≤ R.slots) (hstep : qL_step p l e R s m args below meth c Q D G b L X M o cu su REL)
    (hend : ∀ (H : Heap) (ls : Array Slot), W p l e R s m args below meth c H [] C Z Q (F0 m 1091 ls [.int 1])) :
    ∀ (n I : Nat) (H : Heap) (Ax Am : Nat → Prop) (ax am : Nat → Nat) (hX0 hM0 : qm_H) (co : Cell) (cells slots : Nat) (ls : Array Slot), I ≤ L → L < I + 6 * (n + 1) → qL_St D G s H Ax ax hX0 Am am hM0 o co → REL hX0 hM0 → ax 0 = X → am 0 = M → lv_has ls 7 (qL_lv b X M o I) → cells + cu * n ≤ C → slots + su * n ≤ Z →
    W p l e R s m args below meth c H [] cells slots Q (F0 m 23 ls []) := by
  intro n
  induction n with
  | zero =>
    intro I H Ax Am ax am hX0 hM0 co cells slots ls hIL hn S hR h1 h2 hl hC hZ
    refine lv_iload hx hb dL_law_23 (lv_at hl 0 rfl) ?_
    refine lv_aload_n hx hb dL_law_25 rfl (lv_at hl 4 rfl) ?_
    refine va_slen hx hb hX hbl (Nat.not_le_of_lt hbl) S.1 dL_law_26 ?_
    refine lv_bipush (v := 6) hx hb dL_law_27 (by decide) ?_
    refine lv_isub hx hb dL_law_29 ?_
    refine lv_icmp_gt (tgt := 1090) hx hb dL_law_30 (by decide) (fun _ => ?_) (fun z => absurd ((qL_cmp (by omega) (by omega)).mpr (by omega)) z)
    refine lv_iconst (v := 1) hx hb dL_law_1090 (by decide) ?_
    exact qL_mono (by omega) (by omega) (hend H ls)
  | succ n ih =>
    intro I H Ax Am ax am hX0 hM0 co cells slots ls hIL hn S hR h1 h2 hl hC hZ
    have e1 : cu * (n + 1) = cu * n + cu := Nat.mul_succ cu n
    have e2 : su * (n + 1) = su * n + su := Nat.mul_succ su n
    rw [e1] at hC
    rw [e2] at hZ
    refine lv_iload hx hb dL_law_23 (lv_at hl 0 rfl) ?_
    refine lv_aload_n hx hb dL_law_25 rfl (lv_at hl 4 rfl) ?_
    refine va_slen hx hb hX hbl (Nat.not_le_of_lt hbl) S.1 dL_law_26 ?_
    refine lv_bipush (v := 6) hx hb dL_law_27 (by decide) ?_
    refine lv_isub hx hb dL_law_29 ?_
    refine lv_icmp_gt (tgt := 1090) hx hb dL_law_30 (by decide) (fun _ => ?_) (fun z => ?_)
    · refine lv_iconst (v := 1) hx hb dL_law_1090 (by decide) ?_
      exact qL_mono (by omega) (by omega) (hend H ls)
    · have hI6 : I + 6 ≤ L := by
        have hq : ¬ L < I + 6 := fun y => z ((qL_cmp (I := I) (L := L) (by omega) (by omega)).mpr y)
        omega
      refine hstep I H Ax Am ax am hX0 hM0 co cells slots ls hI6 S hR h1 h2 hl (by omega) (by omega) ?_
      intro H' Ax' Am' ax' am' hX' hM' co' ls' S' hR' h1' h2' hl'
      refine lv_iinc (k := 0) (v := Int32.ofNat (I + 6)) (lv' := qL_lv b X M o (I + 6)) hx hb dL_law_1084 hl' rfl (qL_inc I) (by decide) rfl (fun ls hl => ?_)
      refine lv_goto (tgt := 23) hx hb dL_law_1087 (by decide) ?_
      exact ih (I + 6) H' Ax' Am' ax' am' hX' hM' co' (cells + cu) (slots + su) ls hI6 (by omega) S' hR' h1' h2' hl (by omega) (by omega)
end QLP
