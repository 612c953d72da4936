/-! THE LAW'S STATE: the component's world, the reference's world, the array for ranked -/
/-- the array for ranked: one long -/
def qL_o (s : State) (co : Cell) : Prop := ∃ (cA : ClassId) (f : Nat → Int64), co = vp_cell cA (1, .inr (.inl f)) ∧ ArrOfT s cA .long ∧ s.vm.findClass ("[" ++ FieldType.long.toString) = some cA
def qL_St (D : va_G) (G : ClassId × ClassId × ClassId) (s : State) (H : Heap) (Ax : Nat → Prop) (ax : Nat → Nat) (hx : qm_H) (Am : Nat → Prop) (am : Nat → Nat) (hm : qm_H) (o : Nat) (co : Cell) : Prop :=
  va_S (fun q => s.heap.size ≤ q) s.heap H [] ∧ qL_C D G s.heap.size H Ax ax hx ∧ qL_C D G s.heap.size H Am am hm ∧ (∀ q, Ax q → ¬ Am q) ∧ s.heap.size ≤ o ∧ ¬ Ax o ∧ ¬ Am o ∧ H[o]? = some co ∧ qL_o s co
section QLS
variable {D : va_G} {G : ClassId × ClassId × ClassId} {s : State} {H H' : Heap} {Ax Am : Nat → Prop} {ax ax' am am' : Nat → Nat} {hx hx' hm hm' : qm_H} {o : Nat} {co : Cell}
theorem qL_stX (S : qL_St D G s H Ax ax hx Am am hm o co) (e1 : H.size ≤ H'.size) (e2 : ∀ q, q < H.size → ¬ Ax q → H'[q]? = H[q]?) (e3 : va_S (fun q => s.heap.size ≤ q) s.heap H' []) (e4 : qL_C D G s.heap.size H' (fun q => Ax q ∨ (H.size ≤ q ∧ q < H'.size)) ax' hx') : qL_St D G s H' (fun q => Ax q ∨ (H.size ≤ q ∧ q < H'.size)) ax' hx' Am am hm o co := by
  obtain ⟨s1, s2, s3, s4, s5, s6, s7, s8, s9⟩ := S
  have ho : o < H.size := (Array.getElem?_eq_some_iff.mp s8).1
  refine ⟨e3, e4, s3.other e1 e2 (fun q hq hx => s4 q hx hq), ?_, s5, ?_, s7, by rw [e2 o ho s6]; exact s8, s9⟩
  · rintro q (y | y)
    · exact s4 q y
    · intro z
      have := (s3.2.2 q z).2
      omega
  · rintro (y | y)
    · exact s6 y
    · omega
theorem qL_stM (S : qL_St D G s H Ax ax hx Am am hm o co) (e1 : H.size ≤ H'.size) (e2 : ∀ q, q < H.size → ¬ Am q → H'[q]? = H[q]?) (e3 : va_S (fun q => s.heap.size ≤ q) s.heap H' []) (e4 : qL_C D G s.heap.size H' (fun q => Am q ∨ (H.size ≤ q ∧ q < H'.size)) am' hm') : qL_St D G s H' Ax ax hx (fun q => Am q ∨ (H.size ≤ q ∧ q < H'.size)) am' hm' o co := by
  obtain ⟨s1, s2, s3, s4, s5, s6, s7, s8, s9⟩ := S
  have ho : o < H.size := (Array.getElem?_eq_some_iff.mp s8).1
  refine ⟨e3, s2.other e1 e2 (fun q hq hm => s4 q hq hm), e4, ?_, s5, s6, ?_, by rw [e2 o ho s7]; exact s8, s9⟩
  · rintro q hq (y | y)
    · exact s4 q hq y
    · have := (s2.2.2 q hq).2
      omega
  · rintro (y | y)
    · exact s7 y
    · omega
end QLS
section QLA
variable {p : Program} {l : Launch} {e : Env} {R : Room} {s : State} {m : MethodId} {args : Array Value} {below : List Frame} {meth : Method} {c : Code} {H : Heap} {cells slots : Nat} {Q : State → Prop}
variable {cc : ByteArray} {pc : Nat} {ls : Array Slot} {rest : List Value}
/-- one cell of the script, read -/
theorem qL_arg {b L I k : Nat} {ki : Int32} {kz : Int} {xs : Nat → Int32} {lv : List (Nat × Value)} (hx : p.tables.exec = Jvm.exec) (hb : c.code = cc) (hX : va_X b L xs s s.heap) (hbl : b < s.heap.size) (hS : va_S (fun q => s.heap.size ≤ q) s.heap H []) (hl : lv_has ls 7 lv) (l0 : ls[0]? = some (.val (.ref b))) (l4 : ls[4]? = some (.val (.int (Int32.ofNat I)))) (hk : Int32.ofNat I + ki = Int32.ofNat (I + k)) (hi : Int32.ofInt kz = ki) (hI : I + k < L) (hL : L < 2 ^ 31)
    (d1 : decode cc pc = .ok (.aload_n 0, 1)) (d2 : decode cc (pc + 1) = .ok (.iload 4, 2)) (d3 : decode cc (pc + 1 + 2) = .ok (.iconst kz, 1)) (d4 : decode cc (pc + 1 + 2 + 1) = .ok (.iadd, 1)) (d5 : decode cc (pc + 1 + 2 + 1 + 1) = .ok (.iaload, 1))
    (kk : W p l e R s m args below meth c H [] cells slots Q (F0 m (pc + 1 + 2 + 1 + 1 + 1) ls (.int (xs (I + k)) :: rest))) : W p l e R s m args below meth c H [] cells slots Q (F0 m pc ls rest) := by
  refine lv_aload_n hx hb d1 rfl l0 ?_
  refine lv_iload hx hb d2 l4 ?_
  refine lv_iconst (v := ki) hx hb d3 hi ?_
  refine lv_iadd hx hb d4 ?_
  rw [hk]
  refine va_sld hx hb hX hbl (Nat.not_le_of_lt hbl) hS (qj_in hL hI) d5 ?_
  rw [qj_nn (by omega)]
  exact kk
end QLA
