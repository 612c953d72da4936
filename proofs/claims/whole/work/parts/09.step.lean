/-! THE STEP THEOREM: where the small machine goes on, the machine goes on likewise -/
section QN
variable {p : Program} {l : Launch} {e : Env} {R : Room} {s : State} {m : MethodId} {args : Array Value} {below : List Frame} {meth : Method} {c : Code} {H : Heap} {locs : List Loc} {cells slots : Nat} {Q : State → Prop}
variable {D : va_G} {G : ClassId × ClassId × ClassId} {ad : Nat → Nat} {Af : Nat → Prop}
/-- the array classes are those of the tables -/
def qm_AC (G : ClassId × ClassId × ClassId) (s : State) : Prop := s.vm.findClass ("[" ++ FieldType.int.toString) = some G.1 ∧ s.vm.findClass ("[" ++ FieldType.byte.toString) = some G.2.1 ∧ s.vm.findClass ("[" ++ FieldType.boolean.toString) = some G.2.2
theorem qm_AC.of (hK : va_K D vwCl (qm_tys G) s) : qm_AC G s := ⟨(hK.2 0 _ rfl).2, (hK.2 1 _ rfl).2, (hK.2 2 _ rfl).2⟩
/-- the string constants -/
def qm_Xs (ad : Nat → Nat) (s : State) : Prop := vk_R RX6 60 "sketchin    hole  rank  var   must  if    else  loop  while most  let   spec  " (ad 1000000) s ∧ vk_R RX6 53 ";=&|^<+-*/%~(){}" (ad 1000002) s
theorem qo_go {pc pc' : Nat} {off : Int} {ls st ls' st' : List Value} {h h' : qm_H} (hs : qm_go pc off ls st h = some (.inl (pc', ls', st', h'))) : (pc : Int) + off = (pc' : Int) ∧ ls' = ls ∧ st' = st ∧ h' = h := by
  unfold qm_go at hs
  split at hs
  · rename_i q
    cases hs
    exact ⟨qs_tgt q, rfl, rfl, rfl⟩
  · cases hs
set_option maxHeartbeats 4000000 in
theorem qm_one {r : qm_R} {en : qm_e} {pc pc' : Nat} {ls st ls' st' : List Value} {h h' : qm_H} {lsR : Array Slot}
    (X : qm_X p s m args meth c r) (hd : decode r.2.1 pc = .ok (en.1, en.2.1)) (hok : qm_eOK r en) (hln : qm_sw en.1 = true ∨ en.2.1 = qm_len en.1)
    (hK : va_K D vwCl (qm_tys G) s) (hA : ∀ q, s.heap.size ≤ q → Af q) (hXs : qm_Xs ad s)
    (hJ : qm_J D G ad Af s.heap H locs h) (hl : qm_L ad lsR r.2.2.1 ls)
    (hs : qm_x r.2.2.2.2.2.1 en pc ls st h = some (.inl (pc', ls', st', h')))
    (hR : 1 ≤ R.frames ∧ 40 ≤ R.locals) (hC : cells + (h'.1.length - h.1.length) ≤ R.cells) (hSl : slots + (qm_sl h'.1 - qm_sl h.1) ≤ R.slots)
    (kk : ∀ (H' : Heap) (locs' : List Loc) (lsR' : Array Slot), qm_J D G ad Af s.heap H' locs' h' → qm_L ad lsR' r.2.2.1 ls' → W p l e R s m args below meth c H' locs' (cells + (h'.1.length - h.1.length)) (slots + (qm_sl h'.1 - qm_sl h.1)) Q (F0 m pc' lsR' (st'.map (qm_cv ad)))) :
    W p l e R s m args below meth c H locs cells slots Q (F0 m pc lsR (st.map (qm_cv ad))) := by
  obtain ⟨i, len, ea, eb, et⟩ := en
  obtain ⟨hx, hb, hml, hr, hown, hts, hlk, hnm, hnw⟩ := X
  dsimp only at hd hok hln
  cases i with
  | iconst n =>
    obtain rfl : len = 1 := hln.resolve_left (fun q => by cases q)
    simp only [qm_x, qm_nx] at hs
    cases hs
    exact lv_iconst hx hb hd rfl (qs_cs rfl rfl (kk H locs lsR hJ hl))
  | bipush n =>
    obtain rfl : len = 2 := hln.resolve_left (fun q => by cases q)
    simp only [qm_x, qm_nx] at hs
    cases hs
    exact lv_bipush hx hb hd rfl (qs_cs rfl rfl (kk H locs lsR hJ hl))
  | sipush n =>
    obtain rfl : len = 3 := hln.resolve_left (fun q => by cases q)
    simp only [qm_x, qm_nx] at hs
    cases hs
    exact lv_sipush hx hb hd rfl (qs_cs rfl rfl (kk H locs lsR hJ hl))
  | lconst n =>
    obtain rfl : len = 1 := hln.resolve_left (fun q => by cases q)
    simp only [qm_x, qm_nx] at hs
    cases hs
    exact lv_lconst hx hb hd rfl (qs_cs rfl rfl (kk H locs lsR hJ hl))
  | aconst_null =>
    obtain rfl : len = 1 := hln.resolve_left (fun q => by cases q)
    simp only [qm_x, qm_nx] at hs
    cases hs
    exact lv_null hx hb hd (qs_cs rfl rfl (kk H locs lsR hJ hl))
  | ldc n =>
    obtain rfl : len = 2 := hln.resolve_left (fun q => by cases q)
    simp only [qm_x] at hs
    obtain ⟨k0, k1, k2⟩ := hok
    cases hv : qm_k ea with
    | none => rw [hv] at hs; cases hs
    | some v =>
      rw [hv] at hs
      cases hs
      match ea, hv with
      | 0, hv => cases hv; exact lv_ldc hx hb hown (hts _ (qw_T (k0 rfl) rfl)) hd (qs_cs rfl rfl (kk H locs lsR hJ hl))
      | 1, hv => cases hv; obtain ⟨o1, o2⟩ := k1 rfl; rw [o1] at hown; subst o2; exact va_ldcS hx hb hown hXs.1 hd (qs_cs rfl rfl (kk H locs lsR hJ hl))
      | 2, hv => cases hv; obtain ⟨o1, o2⟩ := k2 rfl; rw [o1] at hown; subst o2; exact va_ldcS hx hb hown hXs.2 hd (qs_cs rfl rfl (kk H locs lsR hJ hl))
      | n + 3, hv => cases hv
  | ldc2_w n =>
    obtain rfl : len = 3 := hln.resolve_left (fun q => by cases q)
    simp only [qm_x, qm_nx] at hs
    cases hs
    exact lv_ldc2 hx hb hown (hts _ (qw_T hok rfl)) hd (qs_cs rfl rfl (kk H locs lsR hJ hl))
  | iload n =>
    obtain rfl : len = 2 := hln.resolve_left (fun q => by cases q)
    simp only [qm_x] at hs
    split at hs
    · rename_i x hv
      cases hs
      exact lv_iload hx hb hd (hl.2.2.2 _ _ hv) (qs_cs rfl rfl (kk H locs lsR hJ hl))
    · cases hs
  | iload_n n =>
    obtain rfl : len = 1 := hln.resolve_left (fun q => by cases q)
    simp only [qm_x] at hs
    split at hs
    · rename_i x hv
      cases hs
      exact lv_iload_n hx hb hd rfl (hl.2.2.2 _ _ hv) (qs_cs rfl rfl (kk H locs lsR hJ hl))
    · cases hs
  | aload n =>
    obtain rfl : len = 2 := hln.resolve_left (fun q => by cases q)
    simp only [qm_x] at hs
    split at hs
    · rename_i x hv
      cases hs
      exact lv_aload hx hb hd (hl.2.2.2 _ _ hv) (qs_cs rfl rfl (kk H locs lsR hJ hl))
    · cases hs
  | aload_n n =>
    obtain rfl : len = 1 := hln.resolve_left (fun q => by cases q)
    simp only [qm_x] at hs
    split at hs
    · rename_i x hv
      cases hs
      exact lv_aload_n hx hb hd rfl (hl.2.2.2 _ _ hv) (qs_cs rfl rfl (kk H locs lsR hJ hl))
    · cases hs
  | lload n =>
    obtain rfl : len = 2 := hln.resolve_left (fun q => by cases q)
    simp only [qm_x] at hs
    split at hs
    · rename_i x hv
      cases hs
      exact lv_lload hx hb hd (hl.2.2.2 _ _ hv) (qs_cs rfl rfl (kk H locs lsR hJ hl))
    · cases hs
  | lload_n n =>
    obtain rfl : len = 1 := hln.resolve_left (fun q => by cases q)
    simp only [qm_x] at hs
    split at hs
    · rename_i x hv
      cases hs
      exact lv_lload_n hx hb hd rfl (hl.2.2.2 _ _ hv) (qs_cs rfl rfl (kk H locs lsR hJ hl))
    · cases hs
  | istore n =>
    obtain rfl : len = 2 := hln.resolve_left (fun q => by cases q)
    simp only [qm_x] at hs
    split at hs
    · split at hs
      · rename_i x st0 hi
        cases hs
        exact lv_istore hx hb hd hl.lv (by rw [← hl.2.2.1]; exact hi) rfl (fun ls1 h1 => qs_cs rfl rfl (kk H locs ls1 hJ (hl.st1 (v := .int x) h1)))
      · cases hs
    · cases hs
  | istore_n n =>
    obtain rfl : len = 1 := hln.resolve_left (fun q => by cases q)
    simp only [qm_x] at hs
    split at hs
    · split at hs
      · rename_i x st0 hi
        cases hs
        exact lv_istore_n hx hb hd rfl hl.lv (by rw [← hl.2.2.1]; exact hi) rfl (fun ls1 h1 => qs_cs rfl rfl (kk H locs ls1 hJ (hl.st1 (v := .int x) h1)))
      · cases hs
    · cases hs
  | astore n =>
    obtain rfl : len = 2 := hln.resolve_left (fun q => by cases q)
    simp only [qm_x] at hs
    split at hs
    · split at hs
      · rename_i x st0 hi
        cases hs
        exact lv_astore hx hb hd hl.lv (by rw [← hl.2.2.1]; exact hi) rfl (fun ls1 h1 => qs_cs rfl rfl (kk H locs ls1 hJ (hl.st1 (v := .ref x) h1)))
      · cases hs
    · cases hs
  | astore_n n =>
    obtain rfl : len = 1 := hln.resolve_left (fun q => by cases q)
    simp only [qm_x] at hs
    split at hs
    · split at hs
      · rename_i x st0 hi
        cases hs
        exact lv_astore_n hx hb hd rfl hl.lv (by rw [← hl.2.2.1]; exact hi) rfl (fun ls1 h1 => qs_cs rfl rfl (kk H locs ls1 hJ (hl.st1 (v := .ref x) h1)))
      · cases hs
    · cases hs
  | lstore n =>
    obtain rfl : len = 2 := hln.resolve_left (fun q => by cases q)
    simp only [qm_x] at hs
    split at hs
    · split at hs
      · rename_i x st0 hi
        cases hs
        exact lv_lstore hx hb hd hl.lv (by rw [← hl.2.2.1]; exact hi) rfl (fun ls1 h1 => qs_cs rfl rfl (kk H locs ls1 hJ (hl.st2 (v := .long x) h1)))
      · cases hs
    · cases hs
  | lstore_n n =>
    obtain rfl : len = 1 := hln.resolve_left (fun q => by cases q)
    simp only [qm_x] at hs
    split at hs
    · split at hs
      · rename_i x st0 hi
        cases hs
        exact lv_lstore_n hx hb hd rfl hl.lv (by rw [← hl.2.2.1]; exact hi) rfl (fun ls1 h1 => qs_cs rfl rfl (kk H locs ls1 hJ (hl.st2 (v := .long x) h1)))
      · cases hs
    · cases hs
  | iinc n z =>
    obtain rfl : len = 3 := hln.resolve_left (fun q => by cases q)
    simp only [qm_x] at hs
    split at hs
    · rename_i x hv
      cases hs
      obtain ⟨k, hk⟩ := List.getElem?_of_mem (qm_lv_mem (ad := ad) hv)
      exact lv_iinc hx hb hd hl.lv hk rfl (by rw [← hl.2.2.1]; exact (List.getElem?_eq_some_iff.mp (qm_ld_some hv).1).1) rfl (fun ls1 h1 => qs_cs rfl rfl (kk H locs ls1 hJ (hl.st1 (v := .int _) h1)))
    · cases hs
  | iadd =>
    obtain rfl : len = 1 := hln.resolve_left (fun q => by cases q)
    simp only [qm_x] at hs
    split at hs
    · cases hs
      exact lv_iadd hx hb hd (qs_cs rfl rfl (kk H locs lsR hJ hl))
    · cases hs
  | isub =>
    obtain rfl : len = 1 := hln.resolve_left (fun q => by cases q)
    simp only [qm_x] at hs
    split at hs
    · cases hs
      exact lv_isub hx hb hd (qs_cs rfl rfl (kk H locs lsR hJ hl))
    · cases hs
  | imul =>
    obtain rfl : len = 1 := hln.resolve_left (fun q => by cases q)
    simp only [qm_x] at hs
    split at hs
    · cases hs
      exact lv_imul hx hb hd (qs_cs rfl rfl (kk H locs lsR hJ hl))
    · cases hs
  | iand =>
    obtain rfl : len = 1 := hln.resolve_left (fun q => by cases q)
    simp only [qm_x] at hs
    split at hs
    · cases hs
      exact lv_iand hx hb hd (qs_cs rfl rfl (kk H locs lsR hJ hl))
    · cases hs
  | ior =>
    obtain rfl : len = 1 := hln.resolve_left (fun q => by cases q)
    simp only [qm_x] at hs
    split at hs
    · cases hs
      exact lv_ior hx hb hd (qs_cs rfl rfl (kk H locs lsR hJ hl))
    · cases hs
  | ixor =>
    obtain rfl : len = 1 := hln.resolve_left (fun q => by cases q)
    simp only [qm_x] at hs
    split at hs
    · cases hs
      exact lv_ixor hx hb hd (qs_cs rfl rfl (kk H locs lsR hJ hl))
    · cases hs
  | ishl =>
    obtain rfl : len = 1 := hln.resolve_left (fun q => by cases q)
    simp only [qm_x] at hs
    split at hs
    · cases hs
      exact lv_ishl hx hb hd (qs_cs rfl rfl (kk H locs lsR hJ hl))
    · cases hs
  | ishr =>
    obtain rfl : len = 1 := hln.resolve_left (fun q => by cases q)
    simp only [qm_x] at hs
    split at hs
    · cases hs
      exact lv_ishr hx hb hd (qs_cs rfl rfl (kk H locs lsR hJ hl))
    · cases hs
  | ladd =>
    obtain rfl : len = 1 := hln.resolve_left (fun q => by cases q)
    simp only [qm_x] at hs
    split at hs
    · cases hs
      exact lv_ladd hx hb hd (qs_cs rfl rfl (kk H locs lsR hJ hl))
    · cases hs
  | lsub =>
    obtain rfl : len = 1 := hln.resolve_left (fun q => by cases q)
    simp only [qm_x] at hs
    split at hs
    · cases hs
      exact lv_lsub hx hb hd (qs_cs rfl rfl (kk H locs lsR hJ hl))
    · cases hs
  | land =>
    obtain rfl : len = 1 := hln.resolve_left (fun q => by cases q)
    simp only [qm_x] at hs
    split at hs
    · cases hs
      exact lv_land hx hb hd (qs_cs rfl rfl (kk H locs lsR hJ hl))
    · cases hs
  | lxor =>
    obtain rfl : len = 1 := hln.resolve_left (fun q => by cases q)
    simp only [qm_x] at hs
    split at hs
    · cases hs
      exact lv_lxor hx hb hd (qs_cs rfl rfl (kk H locs lsR hJ hl))
    · cases hs
  | iushr =>
    obtain rfl : len = 1 := hln.resolve_left (fun q => by cases q)
    simp only [qm_x] at hs
    split at hs
    · cases hs
      exact lv_iushr hx hb hd rfl (qs_cs rfl rfl (kk H locs lsR hJ hl))
    · cases hs
  | lshl =>
    obtain rfl : len = 1 := hln.resolve_left (fun q => by cases q)
    simp only [qm_x] at hs
    split at hs
    · cases hs
      exact lv_lshl hx hb hd rfl (qs_cs rfl rfl (kk H locs lsR hJ hl))
    · cases hs
  | lushr =>
    obtain rfl : len = 1 := hln.resolve_left (fun q => by cases q)
    simp only [qm_x] at hs
    split at hs
    · cases hs
      exact lv_lushr hx hb hd rfl (qs_cs rfl rfl (kk H locs lsR hJ hl))
    · cases hs
  | idiv =>
    obtain rfl : len = 1 := hln.resolve_left (fun q => by cases q)
    simp only [qm_x] at hs
    split at hs
    · split at hs
      · cases hs
      · rename_i hne
        cases hs
        exact lv_idiv hx hb hd hne (qs_cs rfl rfl (kk H locs lsR hJ hl))
    · cases hs
  | irem =>
    obtain rfl : len = 1 := hln.resolve_left (fun q => by cases q)
    simp only [qm_x] at hs
    split at hs
    · split at hs
      · cases hs
      · rename_i hne
        cases hs
        exact lv_irem hx hb hd hne (qs_cs rfl rfl (kk H locs lsR hJ hl))
    · cases hs
  | ineg =>
    obtain rfl : len = 1 := hln.resolve_left (fun q => by cases q)
    simp only [qm_x] at hs
    split at hs
    · cases hs
      exact lv_ineg hx hb hd (qs_cs rfl rfl (kk H locs lsR hJ hl))
    · cases hs
  | lcmp =>
    obtain rfl : len = 1 := hln.resolve_left (fun q => by cases q)
    simp only [qm_x] at hs
    split at hs
    · cases hs
      exact W.lcmp hx hb hd (qs_cs rfl rfl (kk H locs lsR hJ hl))
    · cases hs
  | i2l =>
    obtain rfl : len = 1 := hln.resolve_left (fun q => by cases q)
    simp only [qm_x] at hs
    split at hs
    · cases hs
      exact lv_i2l hx hb hd rfl (qs_cs rfl rfl (kk H locs lsR hJ hl))
    · cases hs
  | l2i =>
    obtain rfl : len = 1 := hln.resolve_left (fun q => by cases q)
    simp only [qm_x] at hs
    split at hs
    · cases hs
      exact lv_l2i hx hb hd rfl (qs_cs rfl rfl (kk H locs lsR hJ hl))
    · cases hs
  | i2b =>
    obtain rfl : len = 1 := hln.resolve_left (fun q => by cases q)
    simp only [qm_x] at hs
    split at hs
    · cases hs
      exact lv_i2b hx hb hd rfl (qs_cs rfl rfl (kk H locs lsR hJ hl))
    · cases hs
  | i2c =>
    obtain rfl : len = 1 := hln.resolve_left (fun q => by cases q)
    simp only [qm_x] at hs
    split at hs
    · cases hs
      exact lv_i2c hx hb hd rfl (qs_cs rfl rfl (kk H locs lsR hJ hl))
    · cases hs
  | dup =>
    obtain rfl : len = 1 := hln.resolve_left (fun q => by cases q)
    simp only [qm_x] at hs
    split at hs
    · cases hs
      exact lv_dup hx hb hd rfl (qs_cs rfl rfl (kk H locs lsR hJ hl))
    · cases hs
      exact lv_dup hx hb hd rfl (qs_cs rfl rfl (kk H locs lsR hJ hl))
    · cases hs
  | dup2 =>
    obtain rfl : len = 1 := hln.resolve_left (fun q => by cases q)
    simp only [qm_x] at hs
    split at hs
    · cases hs
      exact lv_dup2_11 hx hb hd rfl rfl (qs_cs rfl rfl (kk H locs lsR hJ hl))
    · cases hs
  | pop =>
    obtain rfl : len = 1 := hln.resolve_left (fun q => by cases q)
    simp only [qm_x] at hs
    split at hs
    · cases hs
      exact lv_pop hx hb hd rfl (qs_cs rfl rfl (kk H locs lsR hJ hl))
    · cases hs
      exact lv_pop hx hb hd rfl (qs_cs rfl rfl (kk H locs lsR hJ hl))
    · cases hs
  | ifCond cd off =>
    obtain rfl : len = 3 := hln.resolve_left (fun q => by cases q)
    simp only [qm_x] at hs
    split at hs
    · rename_i x st0
      split at hs
      · rename_i ht0
        have ht := qs_tgt ht0
        cases cd with
        | eq =>
          split at hs
          · rename_i hc
            cases hs
            simp only [qm_c1, decide_eq_true_eq, Bool.not_eq_true', decide_eq_false_iff_not] at hc
            exact lv_if_eq hx hb hd ht (fun _ => (qs_cs rfl rfl (kk H locs lsR hJ hl))) (fun z => absurd hc z)
          · rename_i hc
            cases hs
            simp only [qm_c1, decide_eq_true_eq, Bool.not_eq_true', decide_eq_false_iff_not] at hc
            exact lv_if_eq hx hb hd ht (fun z => absurd z hc) (fun _ => (qs_cs rfl rfl (kk H locs lsR hJ hl)))
        | ne =>
          split at hs
          · rename_i hc
            cases hs
            simp only [qm_c1, decide_eq_true_eq, Bool.not_eq_true', decide_eq_false_iff_not] at hc
            exact lv_if_ne hx hb hd ht (fun _ => (qs_cs rfl rfl (kk H locs lsR hJ hl))) (fun z => absurd z hc)
          · rename_i hc
            cases hs
            simp only [qm_c1, decide_eq_true_eq, Bool.not_eq_true', decide_eq_false_iff_not] at hc
            exact lv_if_ne hx hb hd ht (fun z => absurd z hc) (fun _ => (qs_cs rfl rfl (kk H locs lsR hJ hl)))
        | lt =>
          split at hs
          · rename_i hc
            cases hs
            simp only [qm_c1, decide_eq_true_eq, Bool.not_eq_true', decide_eq_false_iff_not] at hc
            exact lv_if_lt hx hb hd ht (fun _ => (qs_cs rfl rfl (kk H locs lsR hJ hl))) (fun z => absurd hc z)
          · rename_i hc
            cases hs
            simp only [qm_c1, decide_eq_true_eq, Bool.not_eq_true', decide_eq_false_iff_not] at hc
            exact lv_if_lt hx hb hd ht (fun z => absurd z hc) (fun _ => (qs_cs rfl rfl (kk H locs lsR hJ hl)))
        | ge =>
          split at hs
          · rename_i hc
            cases hs
            simp only [qm_c1, decide_eq_true_eq, Bool.not_eq_true', decide_eq_false_iff_not] at hc
            exact lv_if_ge hx hb hd ht (fun _ => (qs_cs rfl rfl (kk H locs lsR hJ hl))) (fun z => absurd hc z)
          · rename_i hc
            cases hs
            simp only [qm_c1, decide_eq_true_eq, Bool.not_eq_true', decide_eq_false_iff_not] at hc
            exact lv_if_ge hx hb hd ht (fun z => absurd z hc) (fun _ => (qs_cs rfl rfl (kk H locs lsR hJ hl)))
        | gt =>
          split at hs
          · rename_i hc
            cases hs
            simp only [qm_c1, decide_eq_true_eq, Bool.not_eq_true', decide_eq_false_iff_not] at hc
            exact lv_if_gt hx hb hd ht (fun _ => (qs_cs rfl rfl (kk H locs lsR hJ hl))) (fun z => absurd hc z)
          · rename_i hc
            cases hs
            simp only [qm_c1, decide_eq_true_eq, Bool.not_eq_true', decide_eq_false_iff_not] at hc
            exact lv_if_gt hx hb hd ht (fun z => absurd z hc) (fun _ => (qs_cs rfl rfl (kk H locs lsR hJ hl)))
        | le =>
          split at hs
          · rename_i hc
            cases hs
            simp only [qm_c1, decide_eq_true_eq, Bool.not_eq_true', decide_eq_false_iff_not] at hc
            exact lv_if_le hx hb hd ht (fun _ => (qs_cs rfl rfl (kk H locs lsR hJ hl))) (fun z => absurd hc z)
          · rename_i hc
            cases hs
            simp only [qm_c1, decide_eq_true_eq, Bool.not_eq_true', decide_eq_false_iff_not] at hc
            exact lv_if_le hx hb hd ht (fun z => absurd z hc) (fun _ => (qs_cs rfl rfl (kk H locs lsR hJ hl)))
      · cases hs
    · cases hs
  | if_icmp cd off =>
    obtain rfl : len = 3 := hln.resolve_left (fun q => by cases q)
    simp only [qm_x] at hs
    split at hs
    · rename_i y x st0
      split at hs
      · rename_i ht0
        have ht := qs_tgt ht0
        cases cd with
        | eq =>
          split at hs
          · rename_i hc
            cases hs
            simp only [qm_c2, decide_eq_true_eq, Bool.not_eq_true', decide_eq_false_iff_not] at hc
            exact lv_icmp_eq hx hb hd ht (fun _ => (qs_cs rfl rfl (kk H locs lsR hJ hl))) (fun z => absurd hc z)
          · rename_i hc
            cases hs
            simp only [qm_c2, decide_eq_true_eq, Bool.not_eq_true', decide_eq_false_iff_not] at hc
            exact lv_icmp_eq hx hb hd ht (fun z => absurd z hc) (fun _ => (qs_cs rfl rfl (kk H locs lsR hJ hl)))
        | ne =>
          split at hs
          · rename_i hc
            cases hs
            simp only [qm_c2, decide_eq_true_eq, Bool.not_eq_true', decide_eq_false_iff_not] at hc
            exact lv_icmp_ne hx hb hd ht (fun _ => (qs_cs rfl rfl (kk H locs lsR hJ hl))) (fun z => absurd z hc)
          · rename_i hc
            cases hs
            simp only [qm_c2, decide_eq_true_eq, Bool.not_eq_true', decide_eq_false_iff_not] at hc
            exact lv_icmp_ne hx hb hd ht (fun z => absurd z hc) (fun _ => (qs_cs rfl rfl (kk H locs lsR hJ hl)))
        | lt =>
          split at hs
          · rename_i hc
            cases hs
            simp only [qm_c2, decide_eq_true_eq, Bool.not_eq_true', decide_eq_false_iff_not] at hc
            exact lv_icmp_lt hx hb hd ht (fun _ => (qs_cs rfl rfl (kk H locs lsR hJ hl))) (fun z => absurd hc z)
          · rename_i hc
            cases hs
            simp only [qm_c2, decide_eq_true_eq, Bool.not_eq_true', decide_eq_false_iff_not] at hc
            exact lv_icmp_lt hx hb hd ht (fun z => absurd z hc) (fun _ => (qs_cs rfl rfl (kk H locs lsR hJ hl)))
        | ge =>
          split at hs
          · rename_i hc
            cases hs
            simp only [qm_c2, decide_eq_true_eq, Bool.not_eq_true', decide_eq_false_iff_not] at hc
            exact lv_icmp_ge hx hb hd ht (fun _ => (qs_cs rfl rfl (kk H locs lsR hJ hl))) (fun z => absurd hc z)
          · rename_i hc
            cases hs
            simp only [qm_c2, decide_eq_true_eq, Bool.not_eq_true', decide_eq_false_iff_not] at hc
            exact lv_icmp_ge hx hb hd ht (fun z => absurd z hc) (fun _ => (qs_cs rfl rfl (kk H locs lsR hJ hl)))
        | gt =>
          split at hs
          · rename_i hc
            cases hs
            simp only [qm_c2, decide_eq_true_eq, Bool.not_eq_true', decide_eq_false_iff_not] at hc
            exact lv_icmp_gt hx hb hd ht (fun _ => (qs_cs rfl rfl (kk H locs lsR hJ hl))) (fun z => absurd hc z)
          · rename_i hc
            cases hs
            simp only [qm_c2, decide_eq_true_eq, Bool.not_eq_true', decide_eq_false_iff_not] at hc
            exact lv_icmp_gt hx hb hd ht (fun z => absurd z hc) (fun _ => (qs_cs rfl rfl (kk H locs lsR hJ hl)))
        | le =>
          split at hs
          · rename_i hc
            cases hs
            simp only [qm_c2, decide_eq_true_eq, Bool.not_eq_true', decide_eq_false_iff_not] at hc
            exact lv_icmp_le hx hb hd ht (fun _ => (qs_cs rfl rfl (kk H locs lsR hJ hl))) (fun z => absurd hc z)
          · rename_i hc
            cases hs
            simp only [qm_c2, decide_eq_true_eq, Bool.not_eq_true', decide_eq_false_iff_not] at hc
            exact lv_icmp_le hx hb hd ht (fun z => absurd z hc) (fun _ => (qs_cs rfl rfl (kk H locs lsR hJ hl)))
      · cases hs
    · cases hs
  | ifnull off =>
    obtain rfl : len = 3 := hln.resolve_left (fun q => by cases q)
    simp only [qm_x] at hs
    split at hs
    · obtain ⟨ht, rfl, rfl, rfl⟩ := qo_go hs
      exact lv_ifnullN hx hb hd ht (qs_cs rfl rfl (kk H locs lsR hJ hl))
    · cases hs
      exact lv_ifnull hx hb hd (qs_cs rfl rfl (kk H locs lsR hJ hl))
    · cases hs
  | ifnonnull off =>
    obtain rfl : len = 3 := hln.resolve_left (fun q => by cases q)
    simp only [qm_x] at hs
    split at hs
    · cases hs
      exact lv_ifnonnullN hx hb hd (qs_cs rfl rfl (kk H locs lsR hJ hl))
    · obtain ⟨ht, rfl, rfl, rfl⟩ := qo_go hs
      exact lv_ifnonnull hx hb hd ht (qs_cs rfl rfl (kk H locs lsR hJ hl))
    · cases hs
  | goto off =>
    obtain rfl : len = 3 := hln.resolve_left (fun q => by cases q)
    simp only [qm_x] at hs
    obtain ⟨ht, rfl, rfl, rfl⟩ := qo_go hs
    exact lv_goto hx hb hd ht (qs_cs rfl rfl (kk H locs lsR hJ hl))
  | tableswitch d lo hi offs =>
    simp only [qm_x] at hs
    split at hs
    · split at hs
      · rename_i hout
        obtain ⟨ht, rfl, rfl, rfl⟩ := qo_go hs
        exact lv_tableOut hx hb hd hout ht (qs_cs rfl rfl (kk H locs lsR hJ hl))
      · rename_i hin
        split at hs
        · rename_i o ho
          obtain ⟨ht, rfl, rfl, rfl⟩ := qo_go hs
          exact lv_tableIn hx hb hd (fun q => hin (Or.inl q)) (fun q => hin (Or.inr q)) ho ht (qs_cs rfl rfl (kk H locs lsR hJ hl))
        · cases hs
    · cases hs
  | lookupswitch d ps =>
    simp only [qm_x] at hs
    split at hs
    · split at hs
      · rename_i hp
        obtain ⟨ht, rfl, rfl, rfl⟩ := qo_go hs
        exact lv_lookup hx hb hd hp rfl ht (qs_cs rfl rfl (kk H locs lsR hJ hl))
      · cases hs
    · cases hs
  | getfield n =>
    obtain rfl : len = 3 := hln.resolve_left (fun q => by cases q)
    simp only [qm_x] at hs
    obtain ⟨f1, f2, f3, f4, f5, f6, f7, f8⟩ := hok
    dsimp only at f1 f2 f3 f4 f5 f6 f7 f8
    split at hs
    · rename_i a st0
      split at hs
      · rename_i hk
        cases hs
        have hv : qm_fv ad h a ea eb = qm_cv ad (qm_gv h a eb et) := by
          unfold qm_fv qm_gv
          by_cases q : et % 10 = 2
          · rw [if_pos (f3.mp q), if_pos q]
            cases h.2.2 a eb <;> rfl
          · rw [if_neg (fun z => q (f3.mpr z)), if_neg q]
            rfl
        have hin : ∀ w ∈ u_ws (qm_cR ea) (qm_cT ea) (qm_cN ea), w ∈ qm_T := fun w hw => by
          refine qw_T (qw_u f1 w hw) ?_
          unfold u_ws u_lay at hw
          obtain ⟨j, -, rfl⟩ := List.mem_map.mp hw
          split <;> rfl
        have kk' := qs_cs rfl rfl (kk H locs lsR hJ hl)
        rw [List.map_cons, ← hv] at kk'
        rcases f4 with ⟨-, q⟩ | ⟨-, q⟩
        · exact va_get hx hb hts hin hown hK hJ.1 a (qm_W_at hk) (qm_vw f1) eb f2 (hts _ (qw_T q rfl)) (fun x z => z) (qs_fs f2) hd kk'
        · exact va_getN hx hb hts hin hown hK hJ.1 a (qm_W_at hk) (qm_vw f1) eb f2 (va_Nw.use rfl (hnw _ q rfl)) (fun x z => z) (qs_fs f2) hd kk'
      · cases hs
    · cases hs
  | putfield n =>
    obtain rfl : len = 3 := hln.resolve_left (fun q => by cases q)
    simp only [qm_x] at hs
    obtain ⟨hf, hfin⟩ := hok
    have hf0 := hf
    obtain ⟨f1, f2, f3, f4, f5, f6, f7, f8⟩ := hf
    dsimp only at f1 f2 f3 f4 f5 f6 f7 f8 hfin
    have hfin2 : et / 10 % 2 = 1 → et < 20 ∧ meth.name = "<init>" ∧ (qm_cT ea eb).1 = qm_oR r.2.2.2.2.1 := fun z => ⟨(hfin z).1, hnm.trans (hfin z).2.1, (hfin z).2.2⟩
    split at hs
    · rename_i x a st0
      split at hs
      · rename_i hc
        obtain ⟨hk, h2, h3⟩ := hc
        cases hs
        have hri : qm_isr (qm_cy ea eb) = false := by
          cases hq : qm_isr (qm_cy ea eb) with
          | false => rfl
          | true => exact absurd (f3.mpr hq) h2
        have hnf : narrow (qm_cy ea eb) (.int x) = .int x ∧ fits (qm_cy ea eb) (.int x) = true := by
          rcases (show et % 10 = 0 ∨ et % 10 = 1 by omega) with q | q
          · rw [f6 q]; exact ⟨rfl, rfl⟩
          · rw [f7 q]; exact ⟨qs_bzn (h3 q), qs_bzf (h3 q)⟩
        refine qs_put (v := .int x) hx hb hts hnw hown hK hJ hf0 hk hfin2 hnf.1 hnf.2 hd (fun H1 locs1 hP1 hD1 hS1 hz1 => ?_)
        refine qs_cs rfl rfl (kk H1 locs1 lsR ⟨?_, ?_, hS1, by rw [hz1]; exact hJ.2.2.2⟩ hl)
        · rw [← qs_seti hk]
          rw [qs_fsi hri] at hP1
          exact hP1
        · rw [← qs_seti hk]
          rw [qs_fsi hri] at hD1
          exact hD1
      · cases hs
    · rename_i a st0
      split at hs
      · rename_i hc
        obtain ⟨hk, h2⟩ := hc
        cases hs
        have hri : qm_isr (qm_cy ea eb) = true := f3.mp h2
        have hnf : narrow (qm_cy ea eb) .null = .null ∧ fits (qm_cy ea eb) .null = true := by
          cases hq : qm_cy ea eb <;> first | exact ⟨rfl, rfl⟩ | (rw [hq] at hri; cases hri)
        have hfs := qs_fsr (ad := ad) (h := h) (a := a) (x := none) hri
        dsimp only at hfs
        refine qs_put (v := .null) hx hb hts hnw hown hK hJ hf0 hk hfin2 hnf.1 hnf.2 hd (fun H1 locs1 hP1 hD1 hS1 hz1 => ?_)
        refine qs_cs rfl rfl (kk H1 locs1 lsR ⟨?_, ?_, hS1, by rw [hz1]; exact hJ.2.2.2⟩ hl)
        · rw [← qs_setr hk]
          rw [hfs ] at hP1
          exact hP1
        · rw [← qs_setr hk]
          rw [hfs ] at hD1
          exact hD1
      · cases hs
    · rename_i b a st0
      split at hs
      · rename_i hc
        obtain ⟨hk, h2⟩ := hc
        cases hs
        have hri : qm_isr (qm_cy ea eb) = true := f3.mp h2
        have hnf : narrow (qm_cy ea eb) (.ref (ad b)) = .ref (ad b) ∧ fits (qm_cy ea eb) (.ref (ad b)) = true := by
          cases hq : qm_cy ea eb <;> first | exact ⟨rfl, rfl⟩ | (rw [hq] at hri; cases hri)
        have hfs := qs_fsr (ad := ad) (h := h) (a := a) (x := some b) hri
        dsimp only at hfs
        refine qs_put (v := .ref (ad b)) hx hb hts hnw hown hK hJ hf0 hk hfin2 hnf.1 hnf.2 hd (fun H1 locs1 hP1 hD1 hS1 hz1 => ?_)
        refine qs_cs rfl rfl (kk H1 locs1 lsR ⟨?_, ?_, hS1, by rw [hz1]; exact hJ.2.2.2⟩ hl)
        · rw [← qs_setr hk]
          rw [hfs ] at hP1
          exact hP1
        · rw [← qs_setr hk]
          rw [hfs ] at hD1
          exact hD1
      · cases hs
    · cases hs
  | arraylength =>
    obtain rfl : len = 1 := hln.resolve_left (fun q => by cases q)
    simp only [qm_x] at hs
    split at hs
    · rename_i a st0
      split at hs
      · rename_i k n hk
        split at hs
        · cases hs
          match k, hk with
          | 0, hk => exact va_alen hx hb hK hJ.1 a 0 (qm_W_at hk) rfl rfl hd (qs_cs rfl rfl (kk H locs lsR hJ hl))
          | 1, hk => exact va_alen hx hb hK hJ.1 a 1 (qm_W_at hk) rfl rfl hd (qs_cs rfl rfl (kk H locs lsR hJ hl))
          | k + 2, hk => exact va_alen hx hb hK hJ.1 a 2 (qm_W_at hk) rfl rfl hd (qs_cs rfl rfl (kk H locs lsR hJ hl))
        · cases hs
      · cases hs
    · cases hs
  | iaload =>
    obtain rfl : len = 1 := hln.resolve_left (fun q => by cases q)
    simp only [qm_x] at hs
    split at hs
    · rename_i i a st0
      split at hs
      · rename_i n hk
        split at hs
        · rename_i hin
          cases hs
          exact va_iald hx hb hK hJ.1 a 0 (qm_W_at hk) rfl (qs_in hin) hd (qs_cs rfl rfl (kk H locs lsR hJ hl))
        · cases hs
      · cases hs
    · cases hs
  | baload =>
    obtain rfl : len = 1 := hln.resolve_left (fun q => by cases q)
    simp only [qm_x] at hs
    split at hs
    · rename_i i a st0
      split at hs
      · rename_i n hk
        split at hs
        · rename_i hin
          cases hs
          exact va_bald hx hb hK hJ.1 a 1 (qm_W_at hk) rfl (qs_in hin) hd (qs_cs rfl rfl (kk H locs lsR hJ hl))
        · cases hs
      · rename_i n hk
        split at hs
        · rename_i hin
          cases hs
          exact va_zald hx hb hK hJ.1 a 2 (qm_W_at hk) rfl (qs_in hin) hd (qs_cs rfl rfl (kk H locs lsR hJ hl))
        · cases hs
      · cases hs
    · cases hs
  | iastore =>
    obtain rfl : len = 1 := hln.resolve_left (fun q => by cases q)
    simp only [qm_x] at hs
    split at hs
    · rename_i x i a st0
      split at hs
      · rename_i n hk
        split at hs
        · rename_i hin
          cases hs
          exact qs_iast hx hb hK hJ hk (qs_in hin) hd (fun H1 locs1 hJ1 => qs_cs rfl rfl (kk H1 locs1 lsR hJ1 hl))
        · cases hs
      · cases hs
    · cases hs
  | bastore =>
    obtain rfl : len = 1 := hln.resolve_left (fun q => by cases q)
    simp only [qm_x] at hs
    split at hs
    · rename_i x i a st0
      split at hs
      · rename_i n hk
        split at hs
        · rename_i hin
          cases hs
          exact qs_bast hx hb hK hJ hk (qs_in hin) hd (fun H1 locs1 hJ1 => qs_cs rfl rfl (kk H1 locs1 lsR hJ1 hl))
        · cases hs
      · rename_i n hk
        split at hs
        · rename_i hin
          cases hs
          exact qs_zast hx hb hK hJ hk (qs_in hin.1) hin.2 hd (fun H1 locs1 hJ1 => qs_cs rfl rfl (kk H1 locs1 lsR hJ1 hl))
        · cases hs
      · cases hs
    · cases hs
  | new n =>
    obtain rfl : len = 3 := hln.resolve_left (fun q => by cases q)
    simp only [qm_x] at hs
    split at hs
    · rename_i hn
      cases hs
      have hl1 : (qm_al h (0, ea)).1.length - h.1.length = 1 := by simp [qm_al]
      have hl2 : qm_sl (qm_al h (0, ea)).1 - qm_sl h.1 = qm_cN ea := by simp [qm_al, qm_sl, qm_s1]
      rw [hl1] at hC
      rw [hl2] at hSl
      refine qs_newC hx hb hts hK hown hJ hA hn hok.1 hok.2 hC hSl hd (fun H1 hJ1 => ?_)
      exact W.cs (by rw [hl1]) (by rw [hl2]) (kk H1 locs lsR hJ1 hl)
    · cases hs
  | newarray at0 =>
    obtain rfl : len = 2 := hln.resolve_left (fun q => by cases q)
    simp only [qm_x] at hs
    obtain ⟨ac1, ac2, ac3⟩ := qm_AC.of hK
    split at hs
    · rename_i n st0
      split at hs
      · rename_i hin
        obtain ⟨hin, hn⟩ := hin
        cases at0 with
        | int =>
          cases hs
          have hl1 : (qm_al h (1, n.toNatClampNeg)).1.length - h.1.length = 1 := by simp [qm_al]
          have hl2 : qm_sl (qm_al h (1, n.toNatClampNeg)).1 - qm_sl h.1 = n.toNatClampNeg := by simp [qm_al, qm_sl, qm_s1]
          rw [hl1] at hC
          rw [hl2] at hSl
          refine qs_newA (kx := 1) hx hb hts hJ hA hn hin (hts _ (qw_T qw_aI rfl)) rfl (by decide) rfl ac1 (fun _ => rfl) hC hSl hd (fun H1 hJ1 => ?_)
          exact W.cs (by rw [hl1]) (by rw [hl2]) (kk H1 locs lsR hJ1 hl)
        | byte =>
          cases hs
          have hl1 : (qm_al h (2, n.toNatClampNeg)).1.length - h.1.length = 1 := by simp [qm_al]
          have hl2 : qm_sl (qm_al h (2, n.toNatClampNeg)).1 - qm_sl h.1 = n.toNatClampNeg := by simp [qm_al, qm_sl, qm_s1]
          rw [hl1] at hC
          rw [hl2] at hSl
          refine qs_newA (kx := 2) hx hb hts hJ hA hn hin (hts _ (qw_T qw_aB rfl)) rfl (by decide) rfl ac2 (fun _ => rfl) hC hSl hd (fun H1 hJ1 => ?_)
          exact W.cs (by rw [hl1]) (by rw [hl2]) (kk H1 locs lsR hJ1 hl)
        | boolean =>
          cases hs
          have hl1 : (qm_al h (3, n.toNatClampNeg)).1.length - h.1.length = 1 := by simp [qm_al]
          have hl2 : qm_sl (qm_al h (3, n.toNatClampNeg)).1 - qm_sl h.1 = n.toNatClampNeg := by simp [qm_al, qm_sl, qm_s1]
          rw [hl1] at hC
          rw [hl2] at hSl
          refine qs_newA (kx := 3) hx hb hts hJ hA hn hin (hts _ (qw_T qw_aZ rfl)) rfl (by decide) rfl ac3 (fun _ => rfl) hC hSl hd (fun H1 hJ1 => ?_)
          exact W.cs (by rw [hl1]) (by rw [hl2]) (kk H1 locs lsR hJ1 hl)
        | _ => cases hs
      · cases hs
    · cases hs
  | invokespecial n =>
    obtain rfl : len = 3 := hln.resolve_left (fun q => by cases q)
    simp only [qm_x] at hs
    split at hs
    · rename_i hq
      split at hs
      · rename_i a r0
        split at hs
        · rename_i hcat
          cases hs
          have hcat2 : ((st'.map (qm_cv ad)).map fun v => v.category).sum ≤ 8 := by
            have : (st'.map (qm_cv ad)).map (fun v => v.category) = st'.map (fun v => v.category) := by simp [List.map_map, Function.comp_def, qm_cv_cat]
            rw [this]; exact hcat
          refine W.objInit hx hb hown (hts _ (qw_T (hok.1 hq) rfl)) (hts _ (qw_T qw_o1 rfl)) (hts _ (qw_T qw_o2 rfl)) rfl (hl.1.trans hml.symm) rfl hd hR.1 ?_ (qs_cs rfl rfl (kk H locs lsR hJ hl))
          have := lv_room (m := m) (pc := pc) (ls := lsR) (rest := .ref (ad a) :: st'.map (qm_cv ad)) hcat2
          simp only [List.map_cons] at this ⊢
          have h2 := hR.2
          omega
        · cases hs
      · cases hs
    · split at hs
      · split at hs
        · cases hs
        · cases hs
      · cases hs
  | return_ =>
    simp only [qm_x] at hs
    split at hs <;> cases hs
  | ireturn =>
    simp only [qm_x] at hs
    split at hs
    · split at hs <;> cases hs
    · cases hs
  | areturn =>
    simp only [qm_x] at hs
    split at hs
    · split at hs <;> cases hs
    · cases hs
  | lreturn =>
    simp only [qm_x] at hs
    split at hs
    · split at hs <;> cases hs
    · cases hs
  | invokestatic n =>
    simp only [qm_x] at hs
    split at hs <;> cases hs
  | invokevirtual n =>
    simp only [qm_x] at hs
    split at hs
    · split at hs <;> cases hs
    · cases hs
  | _ => simp only [qm_x] at hs; cases hs
end QN
