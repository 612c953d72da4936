/-! THE LAW'S SKETCH, with a third world that stays -/
section QE3
variable {p : Program} {l : Launch} {e : Env} {R : Room} {s : State} {m : MethodId} {args : Array Value} {below : List Frame} {meth : Method} {c : Code} {H : Heap} {cells slots : Nat} {Q : State → Prop}
variable {D : va_G} {G : ClassId × ClassId × ClassId} {Ax Am : Nat → Prop} {ax am : Nat → Nat} {hX0 hX1 hM0 hM1 : qm_H} {o b L I d K0 K1 Sx : Nat} {co : Cell} {xs : Nat → Int32} {v : Int32} {ls : Array Slot}
set_option maxRecDepth 100000 in
theorem law_sketch3 {At : Nat → Prop} {at3 : Nat → Nat} {ht : qm_H} (hT : qL_C D G s.heap.size H At at3 ht) (hT1 : ∀ q, At q → ¬ Ax q) (hT2 : ∀ q, At q → ¬ Am q) (hx : p.tables.exec = Jvm.exec) (hb : c.code = cL_law) (hml : c.maxLocals = 7) (hown : s.vm.findClass RL = some m.cls) (hts : ∀ w ∈ qm_T, w.before args s = true) (hnw : qm_nw s) (hK : va_K D vwCl (qm_tys G) s) (hZ : qL_Z K0 K1 s) (hX : va_X b L xs s s.heap) (hbl : b < s.heap.size) (hL : L < 2 ^ 31) (hI : I + 6 ≤ L) (hl : lv_has ls 7 [(4, .int (Int32.ofNat I)), (3, .ref o), (2, .ref (am 0)), (1, .ref (ax 0)), (0, .ref b)])
    (S : qL_St D G s H Ax ax hX0 Am am hM0 o co) (hcx : ∀ a j, a < hX0.1.length → (hX0.2.2 a j).map (qL_ad hX0.1.length ax H.size K0 K1 Sx) = (hX0.2.2 a j).map ax) (hnx : hX0.1.length ≤ 1000000) (hcm : ∀ a j r, a < hM0.1.length → hM0.2.2 a j = some r → r < hM0.1.length) (hnm : hM0.1.length ≤ 1000000) (kx0 : hX0.1[0]? = some (0, 8)) (km0 : hM0.1[0]? = some (0, 9))
    (rx : qm_Rn d 2 0 (qm_el 7 [.ref 0, .int (xs (I + 1))]) [] hX0 (some (.int v), hX1)) (rm : qm_Rn d 76 0 (qm_el 4 [.ref 0, .int (xs (I + 1))]) [] hM0 (some (.int v), hM1)) (hRf : d + 2 ≤ R.frames) (hRl : 40 * d + 80 ≤ R.locals) (hC : cells + (hX1.1.length - hX0.1.length) + (hM1.1.length - hM0.1.length) ≤ R.cells) (hSl : slots + (qm_sl hX1.1 - qm_sl hX0.1) + (qm_sl hM1.1 - qm_sl hM0.1) ≤ R.slots)
    (kk : ∀ (H' : Heap) (Ax' Am' : Nat → Prop) (ax' am' : Nat → Nat), qL_St D G s H' Ax' ax' hX1 Am' am' hM1 o co → qL_C D G s.heap.size H' At at3 ht → (∀ q, At q → ¬ Ax' q) → (∀ q, At q → ¬ Am' q) → ax' = qL_ad hX0.1.length ax H.size K0 K1 Sx → am' 0 = am 0 → W p l e R s m args below meth c H' [] (cells + (hX1.1.length - hX0.1.length) + (hM1.1.length - hM0.1.length)) (slots + (qm_sl hX1.1 - qm_sl hX0.1) + (qm_sl hM1.1 - qm_sl hM0.1)) Q (F0 m 1084 ls [])) :
    W p l e R s m args below meth c H [] cells slots Q (F0 m 245 ls []) := by
  refine lv_aload_n hx hb dL_law_245 rfl (lv_at hl 3 rfl) ?_
  refine qL_arg (k := 1) (ki := 1) hx hb hX hbl S.1 hl (lv_at hl 4 rfl) (lv_at hl 0 rfl) (qL_ik rfl) rfl (by omega) hL dL_law_246 dL_law_247 dL_law_249 dL_law_250 dL_law_251 ?_
  refine qL_op (k := 2) (r := (yX8_sketch, cX8_sketch, 7, (some .int), 8, 1, qc_2)) (as := [xs (I + 1)]) (rest := []) (d := d) (ci := 8) (index := 24) (S := Sx) (v := some (.int v)) hx hb hml hown hts hnw (by rfl) (Nat.le_of_ble_eq_true rfl) rx (by decide) (by decide +kernel) kx0 (qw_at 204 (by decide +kernel)) (qw_at 205 (by decide +kernel)) (qw_at 206 (by decide +kernel)) (show qm_np ((yX8_sketch, cX8_sketch, 7, (some .int), 8, 1, qc_2) : qm_R) 1 from by decide +kernel) hK S.2.1 S.1 hZ hnx hcx hl.1 (Nat.le_of_ble_eq_true rfl) hRf hRl (Nat.le_trans (Nat.le_add_right _ _) hC) (Nat.le_trans (Nat.le_add_right _ _) hSl) dL_law_252 (fun H8 e1 e2 e3 e4 => ?_)
  have S2 := qL_stX S e1 e2 e3 e4
  have T2 := hT.other e1 e2 hT1
  have U1 : ∀ q, At q → ¬ (Ax q ∨ (H.size ≤ q ∧ q < H8.size)) := fun q hq z => z.elim (hT1 q hq) (fun y => absurd (hT.2.2 q hq).2 (Nat.not_lt_of_le y.1))
  refine lv_aload_n hx hb dL_law_255 rfl (lv_at hl 2 rfl) ?_
  refine qL_arg (k := 1) (ki := 1) hx hb hX hbl S2.1 hl (lv_at hl 4 rfl) (lv_at hl 0 rfl) (qL_ik rfl) rfl (by omega) hL dL_law_256 dL_law_257 dL_law_259 dL_law_260 dL_law_261 ?_
  refine qL_op (k := 76) (r := (yX9_sketch, cX9_sketch, 4, (some .int), 9, 1, qc_76)) (as := [xs (I + 1)]) (rest := [.int v]) (d := d) (ci := 9) (index := 27) (S := 0) (v := some (.int v)) hx hb hml hown hts hnw (by rfl) (Nat.le_of_ble_eq_true rfl) rm (by decide) (by decide +kernel) km0 (qw_at 1464 (by decide +kernel)) (qw_at 1465 (by decide +kernel)) (qw_at 1466 (by decide +kernel)) (show qm_np ((yX9_sketch, cX9_sketch, 4, (some .int), 9, 1, qc_76) : qm_R) 1 from by decide +kernel) hK S2.2.2.1 S2.1 hZ hnm (qL_closed hcm) hl.1 (Nat.le_of_ble_eq_true rfl) hRf hRl hC hSl dL_law_262 (fun H9 f1 f2 f3 f4 => ?_)
  have S3 := qL_stM S2 f1 f2 f3 f4
  have T3 := T2.other f1 f2 hT2
  have U2 : ∀ q, At q → ¬ (Am q ∨ (H8.size ≤ q ∧ q < H9.size)) := fun q hq z => z.elim (hT2 q hq) (fun y => absurd (T2.2.2 q hq).2 (Nat.not_lt_of_le y.1))
  refine lv_icmp_eq (tgt := 1084) hx hb dL_law_265 (by decide) (fun _ => ?_) (fun z => absurd rfl z)
  exact kk H9 _ _ _ _ S3 T3 U1 U2 rfl (qL_ad_lo (List.getElem?_eq_some_iff.mp km0).1)
end QE3
