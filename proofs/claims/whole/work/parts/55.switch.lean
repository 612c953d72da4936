/-! THE LAW'S SWITCH -/
theorem qL_and31 (x : Int32) : ∃ t, t < 32 ∧ x &&& 31 = Int32.ofNat t := by
  refine ⟨(x.toBitVec &&& 31#32).toNat, ?_, ?_⟩
  · rw [BitVec.toNat_and]
    have : x.toBitVec.toNat &&& (31#32).toNat ≤ (31#32).toNat := Nat.and_le_right
    have h : (31#32).toNat = 31 := by decide
    omega
  · apply Int32.toBitVec_inj.mp
    rw [Int32.toBitVec_and, Int32.toBitVec_ofNat']
    rw [BitVec.ofNat_toNat, BitVec.setWidth_eq]
    rfl
def lawT : List Nat := [172, 245, 270, 295, 332, 369, 394, 450, 487, 524, 573, 598, 611, 624, 649, 686, 711, 736, 773, 798, 823, 860, 885, 910, 947, 972, 997, 1010, 1047]
theorem lawT_ok : ∀ t : Nat, t < 29 → (#[132, 205, 230, 255, 292, 329, 354, 410, 447, 484, 533, 558, 571, 584, 609, 646, 671, 696, 733, 758, 783, 820, 845, 870, 907, 932, 957, 970, 1007] : Array Int)[t]? = some ((lawT.getD t 0 : Int) - 40) := by decide +kernel
section QLW
variable {p : Program} {l : Launch} {e : Env} {R : Room} {s : State} {m : MethodId} {args : Array Value} {below : List Frame} {meth : Method} {c : Code} {Q : State → Prop} {H : Heap} {cells slots : Nat} {ls : Array Slot}
variable {b L X M o I : Nat} {xs : Nat → Int32}
theorem law_sw (hx : p.tables.exec = Jvm.exec) (hb : c.code = cL_law) (hX : va_X b L xs s s.heap) (hbl : b < s.heap.size) (hL : L ≤ 3072) (hI : I + 6 ≤ L) (hl : lv_has ls 7 (qL_lv b X M o I)) (hS : va_S (fun q => s.heap.size ≤ q) s.heap H [])
    (kk : ∀ t, t < 29 → xs I &&& 31 = Int32.ofNat t → W p l e R s m args below meth c H [] cells slots Q (F0 m (lawT.getD t 0) ls []))
    (kd : W p l e R s m args below meth c H [] cells slots Q (F0 m 1084 ls [])) : W p l e R s m args below meth c H [] cells slots Q (F0 m 33 ls []) := by
  refine lv_aload_n hx hb dL_law_33 rfl (lv_at hl 4 rfl) ?_
  refine lv_iload hx hb dL_law_34 (lv_at hl 0 rfl) ?_
  refine va_sld hx hb hX hbl (Nat.not_le_of_lt hbl) hS (qj_in (by omega) (by omega)) dL_law_36 ?_
  rw [qj_nn (by omega)]
  refine lv_bipush (v := 31) hx hb dL_law_37 (by decide) ?_
  refine lv_iand hx hb dL_law_39 ?_
  obtain ⟨t, ht, e⟩ := qL_and31 (xs I)
  have hti : (xs I &&& 31).toInt = (t : Int) := by
    rw [e, Int32.toInt_ofNat_of_lt (by omega)]
  by_cases h29 : t < 29
  · refine lv_tableIn (off := (lawT.getD t 0 : Int) - 40) (tgt := lawT.getD t 0) hx hb dL_law_40 (by rw [hti]; omega) (by rw [hti]; omega) ?_ (by omega) (kk t h29 e)
    rw [hti]
    exact lawT_ok t h29
  · exact lv_tableOut (tgt := 1084) hx hb dL_law_40 (Or.inr (by rw [hti]; omega)) (by decide) kd
end QLW
