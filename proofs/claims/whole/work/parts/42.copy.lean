/-! java.util.Arrays.copyOf -/
section QCP
variable {p : Program} {l : Launch} {e : Env} {R : Room} {s : State} {m : MethodId} {args : Array Value} {below : List Frame} {meth : Method} {c : Code} {H : Heap} {locs : List Loc} {cells slots : Nat} {Q : State → Prop}
variable {D : va_G} {G : ClassId × ClassId × ClassId} {ad : Nat → Nat} {Af : Nat → Prop} {Xp : State → Prop} {cc : ByteArray} {pc : Nat} {lsR : Array Slot} {rest : List Value}
theorem qj_arr {cA : ClassId} {n : Nat} {f g : Nat → Int32} (h : ∀ j, j < n → f j = g j) : vp_cell cA (n, .inl f) = vp_cell cA (n, .inl g) := by
  rw [vp_cell_i, vp_cell_i]
  unfold arrV
  have e : (fun j : Fin n => Value.int (f j.val)) = fun j : Fin n => Value.int (g j.val) := by
    funext j
    rw [h j.val j.isLt]
  rw [e]
theorem qj_nnI {z : Int32} (hz : ¬ z < 0) : z.toInt = (z.toNatClampNeg : Int) := by
  have hz0 : (0 : Int) ≤ z.toInt := by
    have := Int32.not_lt.mp hz
    simpa using Int32.le_iff_toInt_le.mp this
  show z.toInt = ((z.toInt.toNat : Nat) : Int)
  omega
theorem qs_copy {h h2 : qm_H} {a b n0 n1 : Nat} {k : Int32} {own : String} {index : Nat} (hexec : p.tables.exec = Jvm.exec) (hb : c.code = cc) (hml : c.maxLocals = lsR.size) (hown : s.vm.findClass own = some m.cls) (hlink : (Cond.methodLink own index arraycopyName).before args s = true) (hnat : (Cond.native arraycopyName).before args s = true) (hstat : (Cond.static arraycopyName).before args s = true) (hini : (Cond.initialized "java/lang/System").before args s = true)
    (hK : va_K D vwCl (qm_tys G) s) (hJ : qm_J D G ad Af s.heap H locs h) (ha : h.1[a]? = some (1, n0)) (hb1 : h.1[b]? = some (1, n1)) (h3 : ¬ k < 0) (h4 : k.toNatClampNeg ≤ n0) (h5 : k.toNatClampNeg ≤ n1) (e1 : h2.1 = h.1) (e2 : ∀ q, q ≠ b → h2.2.1 q = h.2.1 q ∧ h2.2.2 q = h.2.2 q) (e3 : ∀ j, j < n1 → va_cpy (h.2.1 a) (h.2.1 b) (0 : Int32).toNatClampNeg (0 : Int32).toNatClampNeg k.toNatClampNeg j = h2.2.1 b j)
    (hframes : 1 ≤ R.frames) (hlocals : (rest.map fun v => v.category).sum + (nativeFrameWords "java/lang/System" "arraycopy" 5 + 11) ≤ R.locals) (hdg : decode cc pc = .ok (.invokestatic index, 3))
    (kk : ∀ (H1 : Heap) (locs1 : List Loc), qm_J D G ad Af s.heap H1 locs1 h2 → W p l e R s m args below meth c H1 locs1 cells slots Q (F0 m (pc + 3) lsR rest)) : W p l e R s m args below meth c H locs cells slots Q (F0 m pc lsR (.int k :: .int 0 :: .ref (ad b) :: .int 0 :: .ref (ad a) :: rest)) := by
  intro T hT X
  obtain ⟨hP, hD, hS, hz⟩ := hJ
  have w1 : (qm_W G ad h)[b]? = some (ad b, .inl (G.1, n1, .inl (h.2.1 b))) := qm_W_at hb1
  have hc0 : H[ad a]? = some (vp_cell G.1 (n0, .inl (h.2.1 a))) := hP a _ (qm_W_at ha)
  have hc1 : H[ad b]? = some (vp_cell G.1 (n1, .inl (h.2.1 b))) := hP b _ w1
  obtain ⟨-, k0, hk0, cm0, hkk0⟩ := (hK.2 0 _ rfl).1 n0 (fun j => .int (h.2.1 a j))
  obtain ⟨-, k1, hk1, cm1, hkk1⟩ := (hK.2 0 _ rfl).1 n1 (fun j => .int (h.2.1 b j))
  have z0 : ¬ (0 : Int32) < 0 := by decide
  have z1 : (0 : Int32).toNatClampNeg = 0 := by decide
  obtain ⟨vm', X', step⟩ := X.arraycopy hexec hown hlink hnat hstat hini (src := ad a) (dst := ad b) (cs := vp_cell G.1 (n0, .inl (h.2.1 a))) (cd := vp_cell G.1 (n1, .inl (h.2.1 b))) (srcPos := 0) (destPos := 0) (n := k) (by rw [hT]; exact hc0) (by rw [hT]; exact hc1)
    (fun _ h => by cases h) (fun _ h => by cases h) (fun h => by cases h) (fun h => by cases h) hk0 hk1 hkk0 hkk1 (by simp [refKind]) z0 z0 h3
    (by rw [qj_nnI z0, qj_nnI h3]; show ¬ _ > ((arrV G.1 n0 (fun j => .int (h.2.1 a j))).slots.size : Int); rw [arrV_size]; omega)
    (by rw [qj_nnI z0, qj_nnI h3]; show ¬ _ > ((arrV G.1 n1 (fun j => .int (h.2.1 b j))).slots.size : Int); rw [arrV_size]; omega)
    (fun vm₁ _ i hi => by
      have e : (vp_cell G.1 (n0, .inl (h.2.1 a))).slots.getD ((0 : Int32).toNatClampNeg + i) .null = .int (h.2.1 a ((0 : Int32).toNatClampNeg + i)) := by
        show (arrV G.1 n0 (fun j => .int (h.2.1 a j))).slots.getD _ _ = _
        rw [Array.getD_eq_getD_getElem?, arrV_read _ _ (by omega)]
        rfl
      rw [e]
      exact ⟨rfl, trivial⟩)
    (g := F0 m pc lsR (.int k :: .int 0 :: .ref (ad b) :: .int 0 :: .ref (ad a) :: rest)) rfl (by rw [hml]) (rest := rest) rfl (by rw [hb]; exact hdg) hframes (by show 2 * 0 + _ + _ ≤ _; omega)
  have e4 : copied (vp_cell G.1 (n0, .inl (h.2.1 a))) (vp_cell G.1 (n1, .inl (h.2.1 b))) 0 0 k = vp_cell G.1 (n1, .inl (h2.2.1 b)) := (va_copied (fun z => .int z) G.1 G.1 (h.2.1 a) (h.2.1 b) (by rw [z1]; omega)).trans (qj_arr e3)
  rw [e4] at X' step
  have hl : ad b < H.size := (Array.getElem?_eq_some_iff.mp hc1).1
  have hheap : ((T.setVm vm').setCell (ad b) (vp_cell G.1 (n1, .inl (h2.2.1 b)))).heap = H.setIfInBounds (ad b) (vp_cell G.1 (n1, .inl (h2.2.1 b))) := by rw [← hT]; rfl
  have oq : ∀ q : Nat, q ≠ ad b → (H.setIfInBounds (ad b) (vp_cell G.1 (n1, .inl (h2.2.1 b))))[q]? = H[q]? := fun q hq => by simp [Array.getElem?_setIfInBounds, Ne.symm hq]
  have hset := qm_W_set (G := G) (ad := ad) (h := h) (h' := h2) hb1 e1 e2
  have hP2 := hP.set hD w1 (e := .inl (G.1, n1, .inl (h2.2.1 b))) (show (H.setIfInBounds (ad b) _)[ad b]? = some _ by simp [Array.getElem?_setIfInBounds, hl]) oq
  have hD2 := hD.set w1 (e := .inl (G.1, n1, .inl (h2.2.1 b)))
  obtain ⟨t, a1, b1⟩ := kk _ _ ⟨by rw [← hset]; exact hP2, by rw [← hset]; exact hD2, ⟨by simp; exact hS.1, fun q g1 g2 => by
      rw [oq q (fun e => g2 (by rw [e]; exact hD.2 b _ w1))]
      exact hS.2.1 q g1 g2, fun q hq => by
      rcases List.mem_append.mp hq with h | h
      · exact hS.2.2 q h
      · obtain ⟨z, -, hz⟩ := List.mem_map.mp h
        rw [← hz]
        exact hD.2 b _ w1⟩, by rw [e1]; simpa using hz⟩ _ hheap X'
  exact ⟨t, step t a1, b1⟩
theorem qs_clone {h h2 : qm_H} {a n0 : Nat} {own : String} {index : Nat} (hexec : p.tables.exec = Jvm.exec) (hb : c.code = cc) (hml : c.maxLocals = lsR.size) (hown : s.vm.findClass own = some m.cls)
    (hlink : (Cond.methodLink own index ⟨"[I", "clone", "()Ljava/lang/Object;"⟩).before args s = true) (hsame : (Cond.sameMethod "[I" "java/lang/Object" "clone" "()Ljava/lang/Object;").before args s = true)
    (hnat : (Cond.native ⟨"java/lang/Object", "clone", "()Ljava/lang/Object;"⟩).before args s = true) (hinst : (Cond.instanceMethod ⟨"java/lang/Object", "clone", "()Ljava/lang/Object;"⟩).before args s = true)
    (hsel : (Cond.selects "[I" ⟨"[I", "clone", "()Ljava/lang/Object;"⟩ ⟨"java/lang/Object", "clone", "()Ljava/lang/Object;"⟩).before args s = true) (hcl : va_Nw (.castable "[I" "java/lang/Cloneable") s)
    (hK : va_K D vwCl (qm_tys G) s) (hJ : qm_J D G ad Af s.heap H locs h) (hA : ∀ q, s.heap.size ≤ q → Af q) (hn : h.1.length < 900000) (ha : h.1[a]? = some (1, n0)) (e1 : h2.1 = h.1 ++ [(1, n0)]) (e2 : ∀ b, b ≠ h.1.length → h2.2.1 b = h.2.1 b ∧ h2.2.2 b = h.2.2 b) (e3 : ∀ j, j < n0 → h.2.1 a j = h2.2.1 h.1.length j)
    (hframes : 1 ≤ R.frames) (hlocals : (rest.map fun v => v.category).sum + 14 ≤ R.locals) (hcells : cells + 1 ≤ R.cells) (hslots : slots + n0 ≤ R.slots) (hdg : decode cc pc = .ok (.invokevirtual index, 3))
    (kk : ∀ H1 : Heap, qm_J D G ad Af s.heap H1 locs h2 → W p l e R s m args below meth c H1 locs (cells + 1) (slots + n0) Q (F0 m (pc + 3) lsR (.ref (ad h.1.length) :: rest))) : W p l e R s m args below meth c H locs cells slots Q (F0 m pc lsR (.ref (ad a) :: rest)) := by
  have hnm : s.vm.findClass "[I" = some G.1 := (hK.2 0 _ rfl).2
  obtain ⟨c0, t0', f1, f2, f3⟩ := Cond.castable_spec (va_Nw.use (A := args) rfl hcl)
  cases hnm.symm.trans f1
  intro T hT X
  generalize hcell : vp_cell G.1 (n0, .inl (h.2.1 a)) = cell
  have hsz : cell.slots.size = n0 := by rw [← hcell]; exact arrV_size _ _ _
  have hvm0 : cell.vm = .none := by rw [← hcell]; rfl
  have hcl0 : cell.cls = G.1 := by rw [← hcell]; rfl
  have hcellE : ({ cls := cell.cls, slots := cell.slots } : Cell) = cell := by rw [← hcell]; rfl
  have hcellT : T.heap[ad a]? = some cell := by rw [hT, ← hcell]; exact hJ.1 a _ (qm_W_at ha)
  obtain ⟨-, kA, hkA, comp, hkind⟩ := State.isArrayOf_alike X.warmed.alike ((hK.2 0 _ rfl).1 0 (fun _ => .null))
  obtain ⟨-, kS, hkS, compS, hkindS⟩ := (hK.2 0 _ rfl).1 0 (fun _ => .null)
  obtain ⟨vm', X', st⟩ := X.cloneArray hexec hown hlink hsame hnat hinst hsel (a := ad a) (cell := cell) hcellT (fun k h => by rw [hvm0] at h; cases h) (by rw [hvm0]; exact fun h => by cases h) (by rw [hcl0]; exact hnm) f2 (by rw [hcl0]; exact f3)
    (fun i v hv => by
      rw [hcl0]
      have hk' : T.vm.classes[G.1]? = some kA := hkA
      have hf : fits .int v = true := by
        rw [← hcell] at hv
        have hi : i < n0 := by
          have := (Array.getElem?_eq_some_iff.mp hv).1
          rwa [show (vp_cell G.1 (n0, .inl (h.2.1 a))).slots.size = n0 from arrV_size _ _ _] at this
        have hv2 := (arrV_read G.1 (fun j => Value.int (h.2.1 a j)) hi).symm.trans hv
        cases hv2
        rfl
      simpa [State.fitsSlot, State.slotType?, hk', hkind] using hf)
    (g := F0 m pc lsR (.ref (ad a) :: rest)) rfl (by rw [hml]) rfl (by rw [hb]; exact hdg) hframes (by show 2 * 0 + _ + 14 ≤ _; omega) hcells (by rw [hsz]; exact hslots) (hloader := by rw [hcl0]; exact Vm.clonesLoader_of_array hkS hkindS)
  rw [hcellE, hsz] at X'
  generalize hH1 : H.push cell = H1
  have z1 : H1.size = H.size + 1 := by rw [← hH1, Array.size_push]
  have o1 : ∀ q : Nat, q < H.size → H1[q]? = H[q]? := fun q hq => by rw [← hH1, Array.getElem?_push, if_neg (Nat.ne_of_lt hq)]
  obtain ⟨hJ', had⟩ := qs_new (h' := h2) (kd := (1, n0)) hJ hA hn e1 e2 (H1 := H1) (by
    show H1[H.size]? = some (vp_cell G.1 (n0, .inl (h2.2.1 h.1.length)))
    rw [← hH1, Array.getElem?_push_size, ← qj_arr e3, hcell]) z1 o1
  obtain ⟨t, b1, b2⟩ := kk H1 hJ' ((T.setVm vm').pushCell cell) (by rw [← hH1, ← hT]; rfl) X'
  refine ⟨t, st t ?_, b2⟩
  rw [hcellE, hT, ← had]
  exact b1
end QCP
theorem dJ7_copyOf_59c91_0 : decode cJ7_copyOf_59c91 0 = .ok (.iload_n 1, 1) := by decide +kernel
theorem dJ7_copyOf_59c91_1 : decode cJ7_copyOf_59c91 1 = .ok (.aload_n 0, 1) := by decide +kernel
theorem dJ7_copyOf_59c91_2 : decode cJ7_copyOf_59c91 2 = .ok (.arraylength, 1) := by decide +kernel
theorem dJ7_copyOf_59c91_3 : decode cJ7_copyOf_59c91 3 = .ok (.if_icmp .ne 11, 3) := by decide +kernel
theorem dJ7_copyOf_59c91_6 : decode cJ7_copyOf_59c91 6 = .ok (.aload_n 0, 1) := by decide +kernel
theorem dJ7_copyOf_59c91_7 : decode cJ7_copyOf_59c91 7 = .ok (.invokevirtual 316, 3) := by decide +kernel
theorem dJ7_copyOf_59c91_10 : decode cJ7_copyOf_59c91 10 = .ok (.checkcast 317, 3) := by decide +kernel
theorem dJ7_copyOf_59c91_13 : decode cJ7_copyOf_59c91 13 = .ok (.areturn, 1) := by decide +kernel
theorem dJ7_copyOf_59c91_14 : decode cJ7_copyOf_59c91 14 = .ok (.iload_n 1, 1) := by decide +kernel
theorem dJ7_copyOf_59c91_15 : decode cJ7_copyOf_59c91 15 = .ok (.newarray .int, 2) := by decide +kernel
theorem dJ7_copyOf_59c91_17 : decode cJ7_copyOf_59c91 17 = .ok (.astore_n 2, 1) := by decide +kernel
theorem dJ7_copyOf_59c91_18 : decode cJ7_copyOf_59c91 18 = .ok (.aload_n 0, 1) := by decide +kernel
theorem dJ7_copyOf_59c91_19 : decode cJ7_copyOf_59c91 19 = .ok (.iconst 0, 1) := by decide +kernel
theorem dJ7_copyOf_59c91_20 : decode cJ7_copyOf_59c91 20 = .ok (.aload_n 2, 1) := by decide +kernel
theorem dJ7_copyOf_59c91_21 : decode cJ7_copyOf_59c91 21 = .ok (.iconst 0, 1) := by decide +kernel
theorem dJ7_copyOf_59c91_22 : decode cJ7_copyOf_59c91 22 = .ok (.aload_n 0, 1) := by decide +kernel
theorem dJ7_copyOf_59c91_23 : decode cJ7_copyOf_59c91 23 = .ok (.arraylength, 1) := by decide +kernel
theorem dJ7_copyOf_59c91_24 : decode cJ7_copyOf_59c91 24 = .ok (.iload_n 1, 1) := by decide +kernel
theorem dJ7_copyOf_59c91_25 : decode cJ7_copyOf_59c91 25 = .ok (.invokestatic 304, 3) := by decide +kernel
theorem dJ7_copyOf_59c91_28 : decode cJ7_copyOf_59c91 28 = .ok (.invokestatic 150, 3) := by decide +kernel
theorem dJ7_copyOf_59c91_31 : decode cJ7_copyOf_59c91 31 = .ok (.aload_n 2, 1) := by decide +kernel
theorem dJ7_copyOf_59c91_32 : decode cJ7_copyOf_59c91 32 = .ok (.areturn, 1) := by decide +kernel
section QCQ
variable {l : Launch} {D : va_G} {G : ClassId × ClassId × ClassId} {ad : Nat → Nat} {Af : Nat → Prop} {Xp : State → Prop}
set_option maxRecDepth 100000 in
theorem cj_copy {h h1 : qm_H} {a len n : Nat} (hk : h.1[a]? = some (1, len)) (hn' : n < 100000) (hlen : len < 100000) (hn : h.1.length < 900000) (e1 : h1.1 = h.1 ++ [(1, n)]) (e2 : ∀ b, b ≠ h.1.length → h1.2.1 b = h.2.1 b ∧ h1.2.2 b = h.2.2 b) (e3 : ∀ j, h1.2.1 h.1.length j = if j < len then h.2.1 a j else 0) (d : Nat) (hd : 1 ≤ d) :
    Met l yJ7_copyOf_59c91 (Cond.code yJ7_copyOf_59c91 cJ7_copyOf_59c91 3 (some (.array .int)) :: qm_T) (qm_rm d 1 n) (qm_Pc D G ad Af Xp [.ref a, .int (Int32.ofNat n)] h) (qm_Qc D G ad Af (some (.ref h.1.length)) h1) 1 n Af := by
  have hz : (Int32.ofNat n).toNatClampNeg = n := qj_nn (by omega)
  have hin : qm_in (Int32.ofNat n) 100000 = true := by
    have := qj_in (k := n) (N := 100000) (by decide) hn'
    unfold vp_in at this
    unfold qm_in
    simp only [Bool.and_eq_true, Bool.not_eq_true', decide_eq_false_iff_not, decide_eq_true_eq]
    exact ⟨fun z => this (Or.inl z), Nat.lt_of_not_le (fun z => this (Or.inr z))⟩
  have hkn : h1.1[h.1.length]? = some (1, n) := by rw [e1]; simp
  refine Met.ofW (cc := cJ7_copyOf_59c91) (maxL := 3) (ret := some (.array .int)) (by decide +kernel) rfl ?_
  intro p e s m args below meth c s₁ B hml hv
  obtain ⟨rfl, hP, hD, hK, hzz, hA, hXp, hnw⟩ := hv
  have hJ : qm_J D G ad Af s.heap s.heap [] h := ⟨hP, hD, va_S.rf, hzz⟩
  have hx := B.exec
  have hb := B.bytes
  have hr := B.returns
  have hlocks := B.notSynchronized
  have hts0 := atoms_spec (ws := Cond.code yJ7_copyOf_59c91 cJ7_copyOf_59c91 3 (some (.array .int)) :: qm_T) B.pre
  have hts : ∀ w ∈ qm_T, w.before _ s = true := fun w hw => hts0 w (List.mem_cons_of_mem _ hw)
  have hown : s.vm.findClass RJ7 = some m.cls := findClass_of_methodNamed B.named
  obtain ⟨ac1, -, -⟩ := qm_AC.of hK
  have hl := lv_entry ([.ref (ad a), .int (Int32.ofNat n)]) (n := 3) (Nat.le_of_ble_eq_true rfl)
  rw [lg_entry_eq]
  show W p l e _ s m _ below meth c s.heap [] 0 0 _ (F0 m 0 (lg_sl ([.ref (ad a), .int (Int32.ofNat n)]) ++ List.replicate (3 - (lg_sl ([.ref (ad a), .int (Int32.ofNat n)])).length) Slot.unset).toArray [])
  generalize (lg_sl ([.ref (ad a), .int (Int32.ofNat n)]) ++ List.replicate (3 - (lg_sl ([.ref (ad a), .int (Int32.ofNat n)])).length) Slot.unset).toArray = ls at hl ⊢
  have hl : lv_has ls 3 [(0, .ref (ad a)), (1, .int (Int32.ofNat n))] := hl
  have fin : ∀ (H1 : Heap) (locs1 : List Loc), qm_J D G ad Af s.heap H1 locs1 h1 → ∀ (t : State), t.heap = H1 → qm_Qc D G ad Af (some (.ref h.1.length)) h1 (List.map (qm_cv ad) [.ref a, .int (Int32.ofNat n)]).toArray s (.returned (some (.ref (ad h.1.length)))) t := fun H1 locs1 hJ1 t ht => ⟨rfl, by rw [ht]; exact hJ1.1, hJ1.2.1, by rw [ht]; exact hJ1.2.2.2, hJ1.2.2.1.F ht⟩
  refine lv_iload_n hx hb dJ7_copyOf_59c91_0 rfl (lv_at hl 1 rfl) ?_
  refine lv_aload_n hx hb dJ7_copyOf_59c91_1 rfl (lv_at hl 0 rfl) ?_
  refine va_alen (v := Int32.ofNat len) hx hb hK hJ.1 a 0 (qm_W_at hk) rfl rfl dJ7_copyOf_59c91_2 ?_
  refine lv_icmp_ne (tgt := 14) hx hb dJ7_copyOf_59c91_3 (by decide) (fun z => ?_) (fun z => ?_)
  · refine lv_iload_n hx hb dJ7_copyOf_59c91_14 rfl (lv_at hl 1 rfl) ?_
    refine qs_newA (kx := 1) hx hb hts hJ hA hn hin (hts _ (qw_T qw_aI rfl)) rfl (by decide) rfl ac1 (fun _ => rfl) (by show 0 + 1 ≤ 1; omega) (by rw [hz]; show 0 + n ≤ n; omega) dJ7_copyOf_59c91_15 (fun H1 hJ1 => ?_)
    rw [hz] at hJ1 ⊢
    refine lv_astore_n (lv' := [(2, .ref (ad h.1.length)), (0, .ref (ad a)), (1, .int (Int32.ofNat n))]) hx hb dJ7_copyOf_59c91_17 rfl hl (by decide) rfl (fun ls hl => ?_)
    refine lv_aload_n hx hb dJ7_copyOf_59c91_18 rfl (lv_at hl 1 rfl) ?_
    refine lv_iconst (v := 0) hx hb dJ7_copyOf_59c91_19 (by decide) ?_
    refine lv_aload_n hx hb dJ7_copyOf_59c91_20 rfl (lv_at hl 0 rfl) ?_
    refine lv_iconst (v := 0) hx hb dJ7_copyOf_59c91_21 (by decide) ?_
    refine lv_aload_n hx hb dJ7_copyOf_59c91_22 rfl (lv_at hl 1 rfl) ?_
    have hk1 : (qm_al h (1, n)).1[a]? = some (1, len) := by
      show (h.1 ++ [(1, n)])[a]? = _
      rw [List.getElem?_append_left (List.getElem?_eq_some_iff.mp hk).1]; exact hk
    have hk2 : (qm_al h (1, n)).1[h.1.length]? = some (1, n) := by
      show (h.1 ++ [(1, n)])[h.1.length]? = _
      simp
    refine va_alen (v := Int32.ofNat len) hx hb hK hJ1.1 a 0 (qm_W_at hk1) rfl rfl dJ7_copyOf_59c91_23 ?_
    refine lv_iload_n hx hb dJ7_copyOf_59c91_24 rfl (lv_at hl 2 rfl) ?_
    refine va_mmin hx hb (hml.trans hl.1.symm) hown (hts _ (qw_T (qw_at 230 (by decide +kernel)) rfl)) (hts _ (qw_T (qw_at 215 (by decide +kernel)) rfl)) (hts _ (qw_T (qw_at 140 (by decide +kernel)) rfl)) (hts _ (qw_T (qw_at 216 (by decide +kernel)) rfl)) (by show _ ≤ d + 1; omega) (Nat.le_trans (Nat.le_of_ble_eq_true rfl : _ ≤ 40) (by show _ ≤ 40 * d + 40; omega)) (by show 0 + 1 ≤ 1; omega) (by show 0 + n ≤ n; omega) dJ7_copyOf_59c91_25 ?_
    have hmin : (if (Int32.ofNat n) < (Int32.ofNat len) then Int32.ofNat n else Int32.ofNat len) = Int32.ofNat (min n len) := by
      by_cases q : n < len
      · rw [if_pos ((Int32.ofNat_lt_iff_lt (by omega) (by omega)).mpr q), Nat.min_eq_left (Nat.le_of_lt q)]
      · rw [if_neg (fun y => q ((Int32.ofNat_lt_iff_lt (by omega) (by omega)).mp y)), Nat.min_eq_right (by omega)]
    rw [hmin]
    have hm1 : min n len ≤ n := Nat.min_le_left _ _
    have hm2 : min n len ≤ len := Nat.min_le_right _ _
    have hmz : (Int32.ofNat (min n len)).toNatClampNeg = min n len := qj_nn (by omega)
    refine qs_copy (h := qm_al h (1, n)) (h2 := h1) (a := a) (b := h.1.length) (rest := []) hx hb (hml.trans hl.1.symm) hown (hts _ (qw_T (qw_at 231 (by decide +kernel)) rfl)) (hts _ (qw_T (qw_at 233 (by decide +kernel)) rfl)) (hts _ (qw_T (qw_at 232 (by decide +kernel)) rfl)) (hts _ (qw_T (qw_at 142 (by decide +kernel)) rfl)) hK hJ1 hk1 hk2 (fun y => qj_in (N := 100000) (by decide) (by omega) (Or.inl y)) (by rw [hmz]; exact hm2) (by rw [hmz]; exact hm1) e1 (fun b hb => ⟨(e2 b hb).1.trans (qs_alo b hb).1.symm, (e2 b hb).2.trans (qs_alo b hb).2.symm⟩) (fun j hj => ?_) (by show _ ≤ d + 1; omega) (Nat.le_trans (by decide : _ ≤ 80) (by show _ ≤ 40 * d + 40; omega)) dJ7_copyOf_59c91_28 (fun H2 locs2 hJ2 => ?_)
    · have hane : a ≠ h.1.length := fun y => by rw [y] at hk; simp at hk
      rw [e3, hmz, (qs_alo a hane).1, qs_alz]
      unfold va_cpy
      rw [show (0 : Int32).toNatClampNeg = 0 from by decide]
      by_cases q : j < len
      · rw [if_pos q, if_pos ⟨Nat.zero_le _, by have := Nat.lt_min.mpr ⟨hj, q⟩; omega⟩, Nat.zero_add, Nat.sub_zero]
      · rw [if_neg q, if_neg (fun y => q (by omega))]
    refine lv_aload_n hx hb dJ7_copyOf_59c91_31 rfl (lv_at hl 0 rfl) ?_
    have hfin := W.aret (m := m) (below := below) (cells := 1) (slots := n) (l := l) (e := e) (R := (headSpec (Cond.code yJ7_copyOf_59c91 cJ7_copyOf_59c91 3 (some (.array .int)) :: qm_T) (qm_rm d 1 n)).room) (free := Af) (ls := ls) hx hb hr (Or.inr ⟨_, rfl⟩) (Or.inr ⟨_, rfl⟩) (fun t ht _ => fin H2 locs2 hJ2 t ht) hJ2.2.2.1.2.2 dJ7_copyOf_59c91_32
    rw [show (0 + 1 : Nat) = 1 from rfl, Nat.zero_add]
    exact hfin
  · have hnl : n = len := qj_b31 (by omega) (by omega) z
    subst hnl
    refine lv_aload_n hx hb dJ7_copyOf_59c91_6 rfl (lv_at hl 0 rfl) ?_
    refine qs_clone (h2 := h1) (n0 := n) (rest := []) hx hb (hml.trans hl.1.symm) hown (hts _ (qw_T (qw_at 223 (by decide +kernel)) rfl)) (hts _ (qw_T (qw_at 224 (by decide +kernel)) rfl)) (hts _ (qw_T (qw_at 225 (by decide +kernel)) rfl)) (hts _ (qw_T (qw_at 226 (by decide +kernel)) rfl)) (hts _ (qw_T (qw_at 227 (by decide +kernel)) rfl)) (hnw _ (qw_at 228 (by decide +kernel)) rfl) hK hJ hA hn hk e1 e2 (fun j hj => by rw [e3, if_pos hj]) (by show _ ≤ d + 1; omega) (Nat.le_trans (Nat.le_of_ble_eq_true rfl : _ ≤ 40) (by show _ ≤ 40 * d + 40; omega)) (by show 0 + 1 ≤ 1; omega) (by show 0 + n ≤ n; omega) dJ7_copyOf_59c91_7 (fun H1 hJ1 => ?_)
    refine va_castA hx hb hown (hts _ (qw_T (qw_at 229 (by decide +kernel)) rfl)) hJ1.1 h.1.length (qm_W_at hkn) ac1 dJ7_copyOf_59c91_10 ?_
    have hfin := W.aret (m := m) (below := below) (cells := 1) (slots := n) (l := l) (e := e) (R := (headSpec (Cond.code yJ7_copyOf_59c91 cJ7_copyOf_59c91 3 (some (.array .int)) :: qm_T) (qm_rm d 1 n)).room) (free := Af) (ls := ls) hx hb hr (Or.inr ⟨_, rfl⟩) (Or.inr ⟨_, rfl⟩) (fun t ht _ => fin H1 [] hJ1 t ht) hJ1.2.2.1.2.2 dJ7_copyOf_59c91_13
    rw [show (0 + 1 : Nat) = 1 from rfl, Nat.zero_add]
    exact hfin
/-- the library's members, all -/
theorem qj_PR (hXP : qm_XP ad Af Xp) (hY : ∀ s, Xp s → qj_Y ad Af s) : qm_PR l D G ad Af Xp := by
  refine qj_prims hY ?_
  intro p e R s m args below meth c H locs cells slots Q r en pc ls st h h1 lsR a n rest v X hd hok hln hK hA hXp hJ hl hs hp hRf hRl hC hSl kk
  obtain ⟨idx, rj, w1, hlen, hlk, hcat, q⟩ := qj_dec hok hln hs (by decide)
  obtain ⟨hjk, -⟩ := qk_m 287 rj w1
  obtain ⟨j1, j2, j3, j4, j5, j6, -⟩ := id hjk
  have hand := qm_hand hXP X hK hA hXp hJ [.ref a, .int n]
  obtain ⟨hx, hb, hml, hr, hown, hts, hlk0, hnm, hnw⟩ := X
  rw [hlen] at hd
  have hcat' : ((rest.map (qm_cv ad)).map fun v => v.category).sum ≤ 8 := by
    have := qm_cat_map ad rest
    unfold qm_cat at this hcat
    rw [this]; exact hcat
  replace hp : (match h.1[a]? with
    | some (1, len) => if qm_in n 100000 = true ∧ len < 100000 ∧ h.1.length < 900000 then some (some (.ref h.1.length), (h.1 ++ [(1, n.toNatClampNeg)], (fun b j => if b = h.1.length then (if j < len then h.2.1 a j else 0) else h.2.1 b j), qm_z h.2.2 h.1.length none)) else none
    | _ => none) = some (v, h1) := hp
  split at hp
  · rename_i len hk
    split at hp
    · rename_i hc
      obtain ⟨hin, hl1, hl2⟩ := hc
      obtain ⟨n', hn', rfl⟩ := qj_of (qs_in hin)
      rw [qj_nn (by omega)] at hp
      cases hp
      cases (show some (yJ7_copyOf_59c91, cJ7_copyOf_59c91, 3, some (.array .int), 21, 7, []) = some rj from w1)
      have d1 : (h.1 ++ [(1, n')]).length - h.1.length = 1 := by simp
      have d2 : qm_sl (h.1 ++ [(1, n')]) - qm_sl h.1 = n' := by simp [qm_sl, qm_s1]
      dsimp only at hC hSl kk
      rw [d1] at hC kk
      rw [d2] at hSl kk
      have hM := cj_copy (l := l) (D := D) (G := G) (ad := ad) (Af := Af) (Xp := Xp) (h := h) (h1 := (h.1 ++ [(1, n')], (fun b j => if b = h.1.length then (if j < len then h.2.1 a j else 0) else h.2.1 b j), qm_z h.2.2 h.1.length none)) (a := a) (len := len) (n := n') hk hn' hl1 hl2 rfl (fun b hb => ⟨by funext j; simp [hb], by funext j; simp [qm_z, hb]⟩) (fun j => by simp) 8 (by decide)
      rcases q with ⟨hi, hst, hn2, hstk⟩ | ⟨hi, hin, hse, b, as', has, hn2, hstk⟩
      · rw [hi] at hd
        have hst2 : st.map (qm_cv ad) = (([.ref a, .int (Int32.ofNat n')] : List Value).map (qm_cv ad)).reverse ++ rest.map (qm_cv ad) := by
          rw [hstk, List.map_append, List.map_reverse]
        rw [hst2]
        refine qm_cont (va_runS (As := ([.ref a, .int (Int32.ofNat n')] : List Value).map (qm_cv ad)) (rest := rest.map (qm_cv ad)) ⟨hx, hb, hml, hown, hts⟩ hM ⟨callB_of 2 hts (qm_good _ hjk) rfl rfl rfl (hts _ (qw_T j2 rfl)) (hts _ (qw_T hlk rfl)) ⟨j3.1, j3.2, hn2⟩ ⟨hRf, ?_⟩, hts _ (qw_T hst rfl)⟩ ⟨qm_blind hXP _ _, hand⟩ rfl rfl hl.1 rfl (lv_room hcat') hd ⟨hC, hSl⟩) hJ.2.2.1 (fun H' locs' hJ' => ?_)
        · show 8 + (3 + 11) + (40 * 8 + 40) ≤ R.locals
          omega
        · have := kk H' locs' hJ'
          rw [List.map_append] at this
          exact this
      · cases has
        have : some 1 = some 2 := hn2.symm.trans (by decide +kernel)
        cases this
    · cases hp
  · cases hp
end QCQ
