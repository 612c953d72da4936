/-! THE LAW'S START -/
def qL_h0 (ci : Nat) : qm_H := ([(0, ci)], (fun _ _ => 0), (fun _ _ => none))
section QLB
variable {p : Program} {l : Launch} {e : Env} {R : Room} {s : State} {m : MethodId} {args : Array Value} {below : List Frame} {meth : Method} {c : Code} {Q : State → Prop}
variable {D : va_G} {G : ClassId × ClassId × ClassId} {b L d K0 K1 : Nat} {hX hM : qm_H} {ls : Array Slot}
set_option maxRecDepth 100000 in
theorem law_start (hx : p.tables.exec = Jvm.exec) (hb : c.code = cL_law) (hml : c.maxLocals = 7) (hown : s.vm.findClass RL = some m.cls) (hts : ∀ w ∈ qm_T, w.before args s = true) (hnw : qm_nw s) (hK : va_K D vwCl (qm_tys G) s) (hZ : qL_Z K0 K1 s) (hbl : b < s.heap.size) (hRf : d + 2 ≤ R.frames) (hRl : 40 * d + 80 ≤ R.locals) (hl : lv_has ls 7 [(0, .ref b)])
    (rX : qm_Rn d 0 0 (qm_el 1 [.ref 0]) [] (qL_h0 8) (none, hX)) (rM : qm_Rn d 29 0 (qm_el 1 [.ref 0]) [] (qL_h0 9) (none, hM)) {C Z : Nat} (hC : 3 + (hX.1.length - 1) + (hM.1.length - 1) ≤ C) (hSl : qm_cN 8 + (qm_sl hX.1 - qm_cN 8) + qm_cN 9 + (qm_sl hM.1 - qm_cN 9) + 1 ≤ Z) (hRc : C ≤ R.cells) (hRs : Z ≤ R.slots)
    (kk : ∀ (H : Heap) (Ax Am : Nat → Prop) (ax am : Nat → Nat) (o : Nat) (co : Cell) (ls : Array Slot), qL_St D G s H Ax ax hX Am am hM o co → lv_has ls 7 (qL_lv b (ax 0) (am 0) o 0) → W p l e R s m args below meth c H [] C Z Q (F0 m 23 ls [])) : W p l e R s m args below meth c s.heap [] 0 0 Q (F0 m 0 ls []) := by
  have t1 : (1 : Int32).toNatClampNeg = 1 := by decide
  have sl8 : qm_sl (qL_h0 8).1 = qm_cN 8 := by simp [qL_h0, qm_sl, qm_s1]
  have sl9 : qm_sl (qL_h0 9).1 = qm_cN 9 := by simp [qL_h0, qm_sl, qm_s1]
  have ln8 : (qL_h0 8).1.length = 1 := rfl
  have ln9 : (qL_h0 9).1.length = 1 := rfl
  refine qL_newC (ci := 8) hx hb hts hK hown (by decide) (qw_at 159 (by decide +kernel)) (by omega) (by omega) dL_law_0 (fun H1 z1 o1 hP1 => ?_)
  refine lv_dup hx hb dL_law_3 rfl ?_
  have C1 : qL_C D G s.heap.size H1 (fun q => q = s.heap.size) (fun a => s.heap.size + a) (qL_h0 8) := ⟨hP1, ⟨fun i j p q hp hq _ => by
      have h1 : i < 1 := by
        have := (List.getElem?_eq_some_iff.mp hp).1
        unfold qm_W at this; rwa [List.length_mapIdx] at this
      have h2 : j < 1 := by
        have := (List.getElem?_eq_some_iff.mp hq).1
        unfold qm_W at this; rwa [List.length_mapIdx] at this
      omega, fun k q hq => by
      have h1 : k < 1 := by
        have := (List.getElem?_eq_some_iff.mp hq).1
        unfold qm_W at this; rwa [List.length_mapIdx] at this
      obtain rfl : k = 0 := by omega
      rw [qm_W_at (kd := (0, 8)) rfl] at hq
      cases hq
      rfl⟩, fun q hq => by subst hq; omega⟩
  have S1 : va_S (fun q => s.heap.size ≤ q) s.heap H1 [] := ⟨by omega, fun q g1 _ => o1 q g1, fun q hq => absurd hq List.not_mem_nil⟩
  refine qL_opI (k := 0) (r := (yX8_init, cX8_init, 1, none, 8, 0, qc_0)) (as := []) (rest := [.ref s.heap.size]) (d := d) (ci := 8) (S := 0) (ax := fun a => s.heap.size + a) (h := qL_h0 8) (h' := hX) (v := none) hx hb hml hown hts hnw (by rfl) (Nat.le_of_ble_eq_true rfl) rX rfl (qw_at 161 (by decide +kernel)) (qw_at 162 (by decide +kernel)) (by decide +kernel) rfl (show qm_np ((yX8_init, cX8_init, 1, none, 8, 0, qc_0) : qm_R) 0 from by decide +kernel) hK C1 S1 hZ (by rw [ln8]; decide) (fun _ _ _ => rfl) hl.1 (Nat.le_of_ble_eq_true rfl) hRf hRl (by rw [ln8]; omega) (by rw [sl8]; omega) dL_law_4 (fun H2 e1 e2 e3 e4 => ?_)
  rw [ln8, sl8]
  generalize hax : qL_ad (qL_h0 8).1.length (fun a => s.heap.size + a) H1.size K0 K1 0 = ax at e4
  have hax0 : ax 0 = s.heap.size := by rw [← hax]; exact qL_ad_lo (by rw [ln8]; decide)
  refine lv_astore_n (lv' := [(1, .ref s.heap.size), (0, .ref b)]) hx hb dL_law_7 rfl hl (by decide) rfl (fun ls hl => ?_)
  refine qL_newC (ci := 9) hx hb hts hK hown (by decide) (qw_at 1292 (by decide +kernel)) (by omega) (by omega) dL_law_8 (fun H3 z3 o3 hP3 => ?_)
  refine lv_dup hx hb dL_law_11 rfl ?_
  have Cx := e4.other (Af := fun _ => False) (H' := H3) (by omega) (fun q h1 _ => o3 q h1) (fun _ _ h => h)
  have C3 : qL_C D G s.heap.size H3 (fun q => q = H2.size) (fun a => H2.size + a) (qL_h0 9) := ⟨hP3, ⟨fun i j p q hp hq _ => by
      have h1 : i < 1 := by
        have := (List.getElem?_eq_some_iff.mp hp).1
        unfold qm_W at this; rwa [List.length_mapIdx] at this
      have h2 : j < 1 := by
        have := (List.getElem?_eq_some_iff.mp hq).1
        unfold qm_W at this; rwa [List.length_mapIdx] at this
      omega, fun k q hq => by
      have h1 : k < 1 := by
        have := (List.getElem?_eq_some_iff.mp hq).1
        unfold qm_W at this; rwa [List.length_mapIdx] at this
      obtain rfl : k = 0 := by omega
      rw [qm_W_at (kd := (0, 9)) rfl] at hq
      cases hq
      rfl⟩, fun q hq => by subst hq; exact ⟨e3.1, by omega⟩⟩
  have S3 : va_S (fun q => s.heap.size ≤ q) s.heap H3 [] := ⟨Nat.le_trans e3.1 (by omega), fun q g1 g2 => (o3 q (Nat.lt_of_lt_of_le g1 e3.1)).trans (e3.2.1 q g1 g2), fun q hq => absurd hq List.not_mem_nil⟩
  refine qL_opI (k := 29) (r := (yX9_init, cX9_init, 1, none, 9, 0, qc_29)) (as := []) (rest := [.ref H2.size]) (d := d) (ci := 9) (S := 0) (ax := fun a => H2.size + a) (h := qL_h0 9) (h' := hM) (v := none) hx hb hml hown hts hnw (by rfl) (Nat.le_of_ble_eq_true rfl) rM rfl (qw_at 1294 (by decide +kernel)) (qw_at 1295 (by decide +kernel)) (by decide +kernel) rfl (show qm_np ((yX9_init, cX9_init, 1, none, 9, 0, qc_29) : qm_R) 0 from by decide +kernel) hK C3 S3 hZ (by rw [ln9]; decide) (fun _ _ _ => rfl) hl.1 (Nat.le_of_ble_eq_true rfl) hRf hRl (by rw [ln9]; omega) (by rw [sl9]; omega) dL_law_12 (fun H4 f1 f2 f3 f4 => ?_)
  rw [ln9, sl9]
  generalize ham : qL_ad (qL_h0 9).1.length (fun a => H2.size + a) H3.size K0 K1 0 = am at f4
  have ham0 : am 0 = H2.size := by rw [← ham]; exact qL_ad_lo (by rw [ln9]; decide)
  have Cx4 := Cx.other f1 f2 (fun q hq h => by
    rcases hq with y | y
    · have := e1; omega
    · omega)
  refine lv_astore_n (lv' := [(2, .ref H2.size), (1, .ref s.heap.size), (0, .ref b)]) hx hb dL_law_15 rfl hl (by decide) rfl (fun ls hl => ?_)
  refine lv_iconst (v := 1) hx hb dL_law_16 (by decide) ?_
  refine va_newaK (n := 1) (N := 1) hx hb (hts _ (qw_T (qw_at 1927 (by decide +kernel)) rfl)) rfl dL_law_17 rfl (by decide) t1 (by decide) (by omega) (by show _ + 1 ≤ _; omega) rfl fun H5 cA e5 z5 o5 hAr hNm => ?_
  have Cx5 := Cx4.other (Af := fun _ => False) (H' := H5) (by omega) (fun q h1 _ => o5 q h1) (fun _ _ h => h)
  have Cm5 := f4.other (Af := fun _ => False) (H' := H5) (by omega) (fun q h1 _ => o5 q h1) (fun _ _ h => h)
  refine lv_astore_n (lv' := [(3, .ref H4.size), (2, .ref H2.size), (1, .ref s.heap.size), (0, .ref b)]) hx hb dL_law_19 rfl hl (by decide) rfl (fun ls hl => ?_)
  refine lv_iconst (v := 0) hx hb dL_law_20 (by decide) ?_
  refine lv_istore (lv' := qL_lv b (ax 0) (am 0) H4.size 0) hx hb dL_law_21 hl (by decide) (by rw [hax0, ham0]; rfl) (fun ls hl => ?_)
  refine qL_mono (by omega) (by omega) (kk H5 _ _ ax am H4.size _ ls ⟨⟨Nat.le_trans f3.1 (by omega), fun q g1 g2 => (o5 q (Nat.lt_of_lt_of_le g1 f3.1)).trans (f3.2.1 q g1 g2), fun q hq => absurd hq List.not_mem_nil⟩, Cx5, Cm5, ?_, f3.1, ?_, ?_, e5, cA, (fun _ => 0), rfl, hAr, hNm⟩ hl)
  · rintro q (y | y) (w | w) <;> omega
  · rintro (y | y) <;> omega
  · rintro (y | y) <;> omega
end QLB
